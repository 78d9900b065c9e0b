section
/-! RULES of what strings need (laid by wip/gen/rules.py). Mine. -/
theorem bge_cy {w : am_Wd} {a0 a : Nat} {sp dp n : Int32} : ∀ w', am_cy w a0 sp a dp n = some w' → am_ge w w' := by
  intro w' h
  unfold am_cy at h
  split at h
  · split at h
    · cases h; exact am_ge_rf _
    · cases h
  · cases h
theorem bf59_0 : am_fetch (am_mth 59) 0 = some (.getstatic 38, 3, [0, 1, 1058], []) := by decide +kernel
theorem bf59_3 : am_fetch (am_mth 59) 3 = some (.ifCond .eq 10, 3, [], []) := by decide +kernel
theorem bf59_6 : am_fetch (am_mth 59) 6 = some (.aload_n 0, 1, [], []) := by decide +kernel
theorem bf59_7 : am_fetch (am_mth 59) 7 = some (.getfield 15, 3, [0, 0, 1, 1090], [0]) := by decide +kernel
theorem bf59_10 : am_fetch (am_mth 59) 10 = some (.goto 4, 3, [], [0]) := by decide +kernel
theorem bf59_13 : am_fetch (am_mth 59) 13 = some (.iconst 1, 1, [], [0]) := by decide +kernel
theorem bf59_14 : am_fetch (am_mth 59) 14 = some (.ireturn, 1, [3], [0]) := by decide +kernel
theorem bk59_0 {w : am_Wd} {l0 : Nat} : am_run 59 0 [some (.ref l0)] [] w = if (nI 1) = nI 0 then am_run 59 13 [none] [] w else am_run 59 6 [some (.ref l0)] [] w := by
  refine (bu (ls'' := [some (.ref l0)]) (st' := [.int (nI 1)]) bf59_0 bf59_3 rfl rfl).trans ?_
  exact bifc bf59_3 rfl bf59_13 bf59_6 rfl rfl rfl
theorem bk59_13 {w : am_Wd}  : am_run 59 13 [none] [] w = am_run 59 14 [none] [.int (nI 1)] w := by
  refine (bu (ls'' := [none]) (st' := [.int (nI 1)]) bf59_13 bf59_14 rfl rfl).trans ?_
  rfl
theorem bk59_6 {w : am_Wd} {l0 : Nat} : am_run 59 6 [some (.ref l0)] [] w = (am_gf w l0 0 1).bind fun v => am_run 59 10 [none] (v :: []) w := by
  refine (bu (ls'' := [none]) (st' := [.ref l0]) bf59_6 bf59_7 rfl rfl).trans ?_
  exact bh bf59_7 bf59_10 rfl (fun _ _ => am_ge_rf w) rfl
theorem bk59_14 {w : am_Wd} {s0 : Int32} (hb : am_ok (am_rt 3) (.int s0) = true) : am_run 59 14 [none] [.int s0] w = some (.inl (some (.int s0)), w) := by
  exact am_e2 bf59_14 (by unfold am_stp; exact if_pos ⟨by decide, hb⟩) (am_ge_rf w)
theorem bk59_10 {w : am_Wd} {s0 : Int32} : am_run 59 10 [none] [.int s0] w = am_run 59 14 [none] [.int s0] w := by
  refine (bu (ls'' := [none]) (st' := [.int s0]) bf59_10 bf59_14 rfl rfl).trans ?_
  rfl
theorem bf60_0 : am_fetch (am_mth 60) 0 = some (.aload_n 0, 1, [], []) := by decide +kernel
theorem bf60_1 : am_fetch (am_mth 60) 1 = some (.invokespecial 1, 3, [1, 974, 85, 86], []) := by decide +kernel
theorem bf60_4 : am_fetch (am_mth 60) 4 = some (.aload_n 0, 1, [], []) := by decide +kernel
theorem bf60_5 : am_fetch (am_mth 60) 5 = some (.aload_n 1, 1, [], []) := by decide +kernel
theorem bf60_6 : am_fetch (am_mth 60) 6 = some (.putfield 9, 3, [0, 0, 0, 1089], [1]) := by decide +kernel
theorem bf60_9 : am_fetch (am_mth 60) 9 = some (.aload_n 0, 1, [], [1]) := by decide +kernel
theorem bf60_10 : am_fetch (am_mth 60) 10 = some (.iload_n 2, 1, [], [0, 1]) := by decide +kernel
theorem bf60_11 : am_fetch (am_mth 60) 11 = some (.putfield 15, 3, [0, 0, 1, 1090], [0, 1, 2]) := by decide +kernel
theorem bf60_14 : am_fetch (am_mth 60) 14 = some (.return_, 1, [], [0, 1, 2]) := by decide +kernel
theorem bk60_0 {w : am_Wd} {l0 : Nat} {l1 : Nat} {l2 : Int32} : am_run 60 0 [some (.ref l0), some (.ref l1), some (.int l2)] [] w = (am_pf w l0 0 0 (.ref l1)).bind fun w' => am_run 60 9 [some (.ref l0), none, some (.int l2)] [] w' := by
  refine (bu (ls'' := [some (.ref l0), some (.ref l1), some (.int l2)]) (st' := [.ref l0]) bf60_0 bf60_1 rfl rfl).trans ?_
  refine (bu (ls'' := [some (.ref l0), some (.ref l1), some (.int l2)]) (st' := []) bf60_1 bf60_4 rfl rfl).trans ?_
  refine (bu (ls'' := [some (.ref l0), some (.ref l1), some (.int l2)]) (st' := [.ref l0]) bf60_4 bf60_5 rfl rfl).trans ?_
  refine (bu (ls'' := [some (.ref l0), none, some (.int l2)]) (st' := [.ref l1, .ref l0]) bf60_5 bf60_6 rfl rfl).trans ?_
  exact bh bf60_6 bf60_9 rfl (bge_pf) rfl
theorem bk60_9 {w : am_Wd} {l0 : Nat} {l2 : Int32} (hb : am_ok (am_ty 0 1) (.int l2) = true) : am_run 60 9 [some (.ref l0), none, some (.int l2)] [] w = (am_pf w l0 0 1 (.int l2)).bind fun w' => am_run 60 14 [none, none, none] [] w' := by
  refine (bu (ls'' := [none, none, some (.int l2)]) (st' := [.ref l0]) bf60_9 bf60_10 rfl rfl).trans ?_
  refine (bu (ls'' := [none, none, none]) (st' := [.int l2, .ref l0]) bf60_10 bf60_11 rfl rfl).trans ?_
  exact bh bf60_11 bf60_14 (by unfold am_stp; exact if_pos hb) (bge_pf) rfl
theorem bk60_14 {w : am_Wd}  : am_run 60 14 [none, none, none] [] w = some (.inl none, w) := by
  exact am_e2 bf60_14 rfl (am_ge_rf w)
theorem bf61_0 : am_fetch (am_mth 61) 0 = some (.getstatic 38, 3, [0, 1, 1058], []) := by decide +kernel
theorem bf61_3 : am_fetch (am_mth 61) 3 = some (.ifCond .eq 14, 3, [], []) := by decide +kernel
theorem bf61_6 : am_fetch (am_mth 61) 6 = some (.aload_n 0, 1, [], []) := by decide +kernel
theorem bf61_7 : am_fetch (am_mth 61) 7 = some (.getfield 15, 3, [0, 0, 1, 1090], [0]) := by decide +kernel
theorem bf61_10 : am_fetch (am_mth 61) 10 = some (.ifCond .ne 7, 3, [], [0]) := by decide +kernel
theorem bf61_13 : am_fetch (am_mth 61) 13 = some (.iconst 1, 1, [], [0]) := by decide +kernel
theorem bf61_14 : am_fetch (am_mth 61) 14 = some (.goto 4, 3, [], [0]) := by decide +kernel
theorem bf61_17 : am_fetch (am_mth 61) 17 = some (.iconst 0, 1, [], [0]) := by decide +kernel
theorem bf61_18 : am_fetch (am_mth 61) 18 = some (.ireturn, 1, [1], [0]) := by decide +kernel
theorem bk61_0 {w : am_Wd} {l0 : Nat} : am_run 61 0 [some (.ref l0)] [] w = if (nI 1) = nI 0 then am_run 61 17 [none] [] w else am_run 61 6 [some (.ref l0)] [] w := by
  refine (bu (ls'' := [some (.ref l0)]) (st' := [.int (nI 1)]) bf61_0 bf61_3 rfl rfl).trans ?_
  exact bifc bf61_3 rfl bf61_17 bf61_6 rfl rfl rfl
theorem bk61_17 {w : am_Wd}  : am_run 61 17 [none] [] w = am_run 61 18 [none] [.int (nI 0)] w := by
  refine (bu (ls'' := [none]) (st' := [.int (nI 0)]) bf61_17 bf61_18 rfl rfl).trans ?_
  rfl
theorem bk61_6 {w : am_Wd} {l0 : Nat} : am_run 61 6 [some (.ref l0)] [] w = (am_gf w l0 0 1).bind fun v => am_run 61 10 [none] (v :: []) w := by
  refine (bu (ls'' := [none]) (st' := [.ref l0]) bf61_6 bf61_7 rfl rfl).trans ?_
  exact bh bf61_7 bf61_10 rfl (fun _ _ => am_ge_rf w) rfl
theorem bk61_18 {w : am_Wd} {s0 : Int32} (hb : am_ok (am_rt 1) (.int s0) = true) : am_run 61 18 [none] [.int s0] w = some (.inl (some (.int s0)), w) := by
  exact am_e2 bf61_18 (by unfold am_stp; exact if_pos ⟨by decide, hb⟩) (am_ge_rf w)
theorem bk61_10 {w : am_Wd} {s0 : Int32} : am_run 61 10 [none] [.int s0] w = if ¬ s0 = nI 0 then am_run 61 17 [none] [] w else am_run 61 13 [none] [] w := by
  exact bifc bf61_10 rfl bf61_17 bf61_13 rfl rfl rfl
theorem bk61_13 {w : am_Wd}  : am_run 61 13 [none] [] w = am_run 61 18 [none] [.int (nI 1)] w := by
  refine (bu (ls'' := [none]) (st' := [.int (nI 1)]) bf61_13 bf61_14 rfl rfl).trans ?_
  refine (bu (ls'' := [none]) (st' := [.int (nI 1)]) bf61_14 bf61_18 rfl rfl).trans ?_
  rfl
theorem bf62_0 : am_fetch (am_mth 62) 0 = some (.iload_n 0, 1, [], []) := by decide +kernel
theorem bf62_1 : am_fetch (am_mth 62) 1 = some (.sipush 255, 3, [], [0]) := by decide +kernel
theorem bf62_4 : am_fetch (am_mth 62) 4 = some (.if_icmp .gt 7, 3, [], [0]) := by decide +kernel
theorem bf62_7 : am_fetch (am_mth 62) 7 = some (.iconst 1, 1, [], [0]) := by decide +kernel
theorem bf62_8 : am_fetch (am_mth 62) 8 = some (.goto 4, 3, [], [0]) := by decide +kernel
theorem bf62_11 : am_fetch (am_mth 62) 11 = some (.iconst 0, 1, [], [0]) := by decide +kernel
theorem bf62_12 : am_fetch (am_mth 62) 12 = some (.ireturn, 1, [1], [0]) := by decide +kernel
theorem bk62_0 {w : am_Wd} {l0 : Int32} : am_run 62 0 [some (.int l0)] [] w = if (nI 255) < l0 then am_run 62 11 [none] [] w else am_run 62 7 [none] [] w := by
  refine (bu (ls'' := [none]) (st' := [.int l0]) bf62_0 bf62_1 rfl rfl).trans ?_
  refine (bu (ls'' := [none]) (st' := [.int (nI 255), .int l0]) bf62_1 bf62_4 rfl rfl).trans ?_
  exact bic bf62_4 rfl bf62_11 bf62_7 rfl rfl rfl
theorem bk62_11 {w : am_Wd}  : am_run 62 11 [none] [] w = am_run 62 12 [none] [.int (nI 0)] w := by
  refine (bu (ls'' := [none]) (st' := [.int (nI 0)]) bf62_11 bf62_12 rfl rfl).trans ?_
  rfl
theorem bk62_7 {w : am_Wd}  : am_run 62 7 [none] [] w = am_run 62 12 [none] [.int (nI 1)] w := by
  refine (bu (ls'' := [none]) (st' := [.int (nI 1)]) bf62_7 bf62_8 rfl rfl).trans ?_
  refine (bu (ls'' := [none]) (st' := [.int (nI 1)]) bf62_8 bf62_12 rfl rfl).trans ?_
  rfl
theorem bk62_12 {w : am_Wd} {s0 : Int32} (hb : am_ok (am_rt 1) (.int s0) = true) : am_run 62 12 [none] [.int s0] w = some (.inl (some (.int s0)), w) := by
  exact am_e2 bf62_12 (by unfold am_stp; exact if_pos ⟨by decide, hb⟩) (am_ge_rf w)
theorem bf63_0 : am_fetch (am_mth 63) 0 = some (.aload_n 0, 1, [], [2]) := by decide +kernel
theorem bf63_1 : am_fetch (am_mth 63) 1 = some (.getfield 15, 3, [0, 1, 0, 853], [2]) := by decide +kernel
theorem bf63_4 : am_fetch (am_mth 63) 4 = some (.arraylength, 1, [], [2]) := by decide +kernel
theorem bf63_5 : am_fetch (am_mth 63) 5 = some (.aload_n 0, 1, [], [2]) := by decide +kernel
theorem bf63_6 : am_fetch (am_mth 63) 6 = some (.getfield 22, 3, [0, 1, 1, 854], [2]) := by decide +kernel
theorem bf63_9 : am_fetch (am_mth 63) 9 = some (.ishr, 1, [], [2]) := by decide +kernel
theorem bf63_10 : am_fetch (am_mth 63) 10 = some (.istore_n 2, 1, [], [2]) := by decide +kernel
theorem bf63_11 : am_fetch (am_mth 63) 11 = some (.iload_n 1, 1, [], []) := by decide +kernel
theorem bf63_12 : am_fetch (am_mth 63) 12 = some (.iload_n 2, 1, [], []) := by decide +kernel
theorem bf63_13 : am_fetch (am_mth 63) 13 = some (.isub, 1, [], [2]) := by decide +kernel
theorem bf63_14 : am_fetch (am_mth 63) 14 = some (.ifCond .le 24, 3, [], [2]) := by decide +kernel
theorem bf63_17 : am_fetch (am_mth 63) 17 = some (.aload_n 0, 1, [], [2]) := by decide +kernel
theorem bf63_18 : am_fetch (am_mth 63) 18 = some (.aload_n 0, 1, [], [2]) := by decide +kernel
theorem bf63_19 : am_fetch (am_mth 63) 19 = some (.getfield 15, 3, [0, 1, 0, 853], [2]) := by decide +kernel
theorem bf63_22 : am_fetch (am_mth 63) 22 = some (.aload_n 0, 1, [], [2]) := by decide +kernel
theorem bf63_23 : am_fetch (am_mth 63) 23 = some (.iload_n 1, 1, [], [2]) := by decide +kernel
theorem bf63_24 : am_fetch (am_mth 63) 24 = some (.invokevirtual 104, 3, [], [1, 2]) := by decide +kernel
theorem bf63_27 : am_fetch (am_mth 63) 27 = some (.aload_n 0, 1, [], [1, 2]) := by decide +kernel
theorem bf63_28 : am_fetch (am_mth 63) 28 = some (.getfield 22, 3, [0, 1, 1, 854], [0, 1, 2]) := by decide +kernel
theorem bf63_31 : am_fetch (am_mth 63) 31 = some (.ishl, 1, [], [0, 1, 2]) := by decide +kernel
theorem bf63_32 : am_fetch (am_mth 63) 32 = some (.invokestatic 108, 3, [], [0, 1, 2]) := by decide +kernel
theorem bf63_35 : am_fetch (am_mth 63) 35 = some (.putfield 15, 3, [0, 1, 0, 853], [0, 1, 2]) := by decide +kernel
theorem bf63_38 : am_fetch (am_mth 63) 38 = some (.return_, 1, [], [0, 1, 2]) := by decide +kernel
theorem bk63_0 {w : am_Wd} {l0 : Nat} {l1 : Int32} : am_run 63 0 [some (.ref l0), some (.int l1), none] [] w = (am_gf w l0 1 0).bind fun v => am_run 63 4 [some (.ref l0), some (.int l1), none] (v :: []) w := by
  refine (bu (ls'' := [some (.ref l0), some (.int l1), none]) (st' := [.ref l0]) bf63_0 bf63_1 rfl rfl).trans ?_
  exact bh bf63_1 bf63_4 rfl (fun _ _ => am_ge_rf w) rfl
theorem bk63_4 {w : am_Wd} {l0 : Nat} {l1 : Int32} {s0 : Nat} : am_run 63 4 [some (.ref l0), some (.int l1), none] [.ref s0] w = (am_len w s0).bind fun v => am_run 63 5 [some (.ref l0), some (.int l1), none] (.int (nI v) :: []) w := by
  exact bh bf63_4 bf63_5 rfl (fun _ _ => am_ge_rf w) rfl
theorem bk63_5 {w : am_Wd} {l0 : Nat} {l1 : Int32} {s0 : Int32} : am_run 63 5 [some (.ref l0), some (.int l1), none] [.int s0] w = (am_gf w l0 1 1).bind fun v => am_run 63 9 [some (.ref l0), some (.int l1), none] (v :: [.int s0]) w := by
  refine (bu (ls'' := [some (.ref l0), some (.int l1), none]) (st' := [.ref l0, .int s0]) bf63_5 bf63_6 rfl rfl).trans ?_
  exact bh bf63_6 bf63_9 rfl (fun _ _ => am_ge_rf w) rfl
theorem bk63_9 {w : am_Wd} {l0 : Nat} {l1 : Int32} {s0 : Int32} {s1 : Int32} : am_run 63 9 [some (.ref l0), some (.int l1), none] [.int s0, .int s1] w = if (l1 - (bj_ishr s1 s0)) ≤ nI 0 then am_run 63 38 [none, none, none] [] w else am_run 63 17 [some (.ref l0), some (.int l1), none] [] w := by
  refine (bu (ls'' := [some (.ref l0), some (.int l1), none]) (st' := [.int (bj_ishr s1 s0)]) bf63_9 bf63_10 rfl rfl).trans ?_
  refine (bu (ls'' := [some (.ref l0), some (.int l1), some (.int (bj_ishr s1 s0))]) (st' := []) bf63_10 bf63_11 rfl rfl).trans ?_
  refine (bu (ls'' := [some (.ref l0), some (.int l1), some (.int (bj_ishr s1 s0))]) (st' := [.int l1]) bf63_11 bf63_12 rfl rfl).trans ?_
  refine (bu (ls'' := [some (.ref l0), some (.int l1), none]) (st' := [.int (bj_ishr s1 s0), .int l1]) bf63_12 bf63_13 rfl rfl).trans ?_
  refine (bu (ls'' := [some (.ref l0), some (.int l1), none]) (st' := [.int (l1 - (bj_ishr s1 s0))]) bf63_13 bf63_14 rfl rfl).trans ?_
  exact bifc bf63_14 rfl bf63_38 bf63_17 rfl rfl rfl
theorem bk63_38 {w : am_Wd}  : am_run 63 38 [none, none, none] [] w = some (.inl none, w) := by
  exact am_e2 bf63_38 rfl (am_ge_rf w)
theorem bk63_17 {w : am_Wd} {l0 : Nat} {l1 : Int32} : am_run 63 17 [some (.ref l0), some (.int l1), none] [] w = (am_gf w l0 1 0).bind fun v => am_run 63 22 [some (.ref l0), some (.int l1), none] (v :: [.ref l0]) w := by
  refine (bu (ls'' := [some (.ref l0), some (.int l1), none]) (st' := [.ref l0]) bf63_17 bf63_18 rfl rfl).trans ?_
  refine (bu (ls'' := [some (.ref l0), some (.int l1), none]) (st' := [.ref l0, .ref l0]) bf63_18 bf63_19 rfl rfl).trans ?_
  exact bh bf63_19 bf63_22 rfl (fun _ _ => am_ge_rf w) rfl
-- bk63_22: list index out of range
theorem bf64_0 : am_fetch (am_mth 64) 0 = some (.aload_n 0, 1, [], []) := by decide +kernel
theorem bf64_1 : am_fetch (am_mth 64) 1 = some (.getfield 15, 3, [0, 1, 0, 853], [0]) := by decide +kernel
theorem bf64_4 : am_fetch (am_mth 64) 4 = some (.areturn, 1, [], [0]) := by decide +kernel
theorem bk64_0 {w : am_Wd} {l0 : Nat} : am_run 64 0 [some (.ref l0)] [] w = (am_gf w l0 1 0).bind fun v => am_run 64 4 [none] (v :: []) w := by
  refine (bu (ls'' := [none]) (st' := [.ref l0]) bf64_0 bf64_1 rfl rfl).trans ?_
  exact bh bf64_1 bf64_4 rfl (fun _ _ => am_ge_rf w) rfl
theorem bk64_4 {w : am_Wd} {s0 : Nat} : am_run 64 4 [none] [.ref s0] w = some (.inl (some (.ref s0)), w) := by
  exact am_e2 bf64_4 rfl (am_ge_rf w)
theorem bf65_0 : am_fetch (am_mth 65) 0 = some (.aload_n 0, 1, [], []) := by decide +kernel
theorem bf65_1 : am_fetch (am_mth 65) 1 = some (.invokespecial 3, 3, [1, 843, 85, 86], []) := by decide +kernel
theorem bf65_4 : am_fetch (am_mth 65) 4 = some (.getstatic 18, 3, [0, 1, 844], []) := by decide +kernel
theorem bf65_7 : am_fetch (am_mth 65) 7 = some (.ifCond .eq 18, 3, [], []) := by decide +kernel
theorem bf65_10 : am_fetch (am_mth 65) 10 = some (.aload_n 0, 1, [], []) := by decide +kernel
theorem bf65_11 : am_fetch (am_mth 65) 11 = some (.iload_n 1, 1, [], []) := by decide +kernel
theorem bf65_12 : am_fetch (am_mth 65) 12 = some (.newarray .byte, 2, [3, 293], [1]) := by decide +kernel
theorem bf65_14 : am_fetch (am_mth 65) 14 = some (.putfield 15, 3, [0, 1, 0, 853], [1]) := by decide +kernel
theorem bf65_17 : am_fetch (am_mth 65) 17 = some (.aload_n 0, 1, [], [1]) := by decide +kernel
theorem bf65_18 : am_fetch (am_mth 65) 18 = some (.iconst 0, 1, [], [0, 1]) := by decide +kernel
theorem bf65_19 : am_fetch (am_mth 65) 19 = some (.putfield 22, 3, [0, 1, 1, 854], [0, 1]) := by decide +kernel
theorem bf65_22 : am_fetch (am_mth 65) 22 = some (.goto 16, 3, [], [0, 1]) := by decide +kernel
theorem bf65_25 : am_fetch (am_mth 65) 25 = some (.aload_n 0, 1, [], []) := by decide +kernel
theorem bf65_26 : am_fetch (am_mth 65) 26 = some (.iload_n 1, 1, [], []) := by decide +kernel
theorem bf65_27 : am_fetch (am_mth 65) 27 = some (.invokestatic 26, 3, [], [1]) := by decide +kernel
theorem bf65_30 : am_fetch (am_mth 65) 30 = some (.putfield 15, 3, [0, 1, 0, 853], [1]) := by decide +kernel
theorem bf65_33 : am_fetch (am_mth 65) 33 = some (.aload_n 0, 1, [], [1]) := by decide +kernel
theorem bf65_34 : am_fetch (am_mth 65) 34 = some (.iconst 1, 1, [], [0, 1]) := by decide +kernel
theorem bf65_35 : am_fetch (am_mth 65) 35 = some (.putfield 22, 3, [0, 1, 1, 854], [0, 1]) := by decide +kernel
theorem bf65_38 : am_fetch (am_mth 65) 38 = some (.return_, 1, [], [0, 1]) := by decide +kernel
theorem bk65_0 {w : am_Wd} {l0 : Nat} {l1 : Int32} : am_run 65 0 [some (.ref l0), some (.int l1)] [] w = if (nI 1) = nI 0 then am_run 65 25 [some (.ref l0), some (.int l1)] [] w else am_run 65 10 [some (.ref l0), some (.int l1)] [] w := by
  refine (bu (ls'' := [some (.ref l0), some (.int l1)]) (st' := [.ref l0]) bf65_0 bf65_1 rfl rfl).trans ?_
  refine (bu (ls'' := [some (.ref l0), some (.int l1)]) (st' := []) bf65_1 bf65_4 rfl rfl).trans ?_
  refine (bu (ls'' := [some (.ref l0), some (.int l1)]) (st' := [.int (nI 1)]) bf65_4 bf65_7 rfl rfl).trans ?_
  exact bifc bf65_7 rfl bf65_25 bf65_10 rfl rfl rfl
-- bk65_25: list index out of range
theorem bk65_10 {w : am_Wd} {l0 : Nat} {l1 : Int32} : am_run 65 10 [some (.ref l0), some (.int l1)] [] w = (am_na w 3 l1).bind fun w' => am_run 65 14 [some (.ref l0), none] (.ref w.2.1 :: [.ref l0]) w' := by
  refine (bu (ls'' := [some (.ref l0), some (.int l1)]) (st' := [.ref l0]) bf65_10 bf65_11 rfl rfl).trans ?_
  refine (bu (ls'' := [some (.ref l0), none]) (st' := [.int l1, .ref l0]) bf65_11 bf65_12 rfl rfl).trans ?_
  exact bh bf65_12 bf65_14 rfl (bge_na) rfl
theorem bk65_14 {w : am_Wd} {l0 : Nat} {s0 : Nat} {s1 : Nat} : am_run 65 14 [some (.ref l0), none] [.ref s0, .ref s1] w = (am_pf w s1 1 0 (.ref s0)).bind fun w' => am_run 65 17 [some (.ref l0), none] [] w' := by
  exact bh bf65_14 bf65_17 rfl (bge_pf) rfl
theorem bk65_17 {w : am_Wd} {l0 : Nat} : am_run 65 17 [some (.ref l0), none] [] w = (am_pf w l0 1 1 (.int (nI 0))).bind fun w' => am_run 65 22 [none, none] [] w' := by
  refine (bu (ls'' := [none, none]) (st' := [.ref l0]) bf65_17 bf65_18 rfl rfl).trans ?_
  refine (bu (ls'' := [none, none]) (st' := [.int (nI 0), .ref l0]) bf65_18 bf65_19 rfl rfl).trans ?_
  exact bh bf65_19 bf65_22 rfl (bge_pf) rfl
theorem bk65_22 {w : am_Wd}  : am_run 65 22 [none, none] [] w = am_run 65 38 [none, none] [] w := by
  refine (bu (ls'' := [none, none]) (st' := []) bf65_22 bf65_38 rfl rfl).trans ?_
  rfl
theorem bk65_38 {w : am_Wd}  : am_run 65 38 [none, none] [] w = some (.inl none, w) := by
  exact am_e2 bf65_38 rfl (am_ge_rf w)
theorem bf66_0 : am_fetch (am_mth 66) 0 = some (.getstatic 18, 3, [0, 1, 844], []) := by decide +kernel
theorem bf66_3 : am_fetch (am_mth 66) 3 = some (.ifCond .eq 14, 3, [], []) := by decide +kernel
theorem bf66_6 : am_fetch (am_mth 66) 6 = some (.aload_n 0, 1, [], []) := by decide +kernel
theorem bf66_7 : am_fetch (am_mth 66) 7 = some (.getfield 22, 3, [0, 1, 1, 854], [0]) := by decide +kernel
theorem bf66_10 : am_fetch (am_mth 66) 10 = some (.ifCond .ne 7, 3, [], [0]) := by decide +kernel
theorem bf66_13 : am_fetch (am_mth 66) 13 = some (.iconst 1, 1, [], [0]) := by decide +kernel
theorem bf66_14 : am_fetch (am_mth 66) 14 = some (.goto 4, 3, [], [0]) := by decide +kernel
theorem bf66_17 : am_fetch (am_mth 66) 17 = some (.iconst 0, 1, [], [0]) := by decide +kernel
theorem bf66_18 : am_fetch (am_mth 66) 18 = some (.ireturn, 1, [1], [0]) := by decide +kernel
theorem bk66_0 {w : am_Wd} {l0 : Nat} : am_run 66 0 [some (.ref l0)] [] w = if (nI 1) = nI 0 then am_run 66 17 [none] [] w else am_run 66 6 [some (.ref l0)] [] w := by
  refine (bu (ls'' := [some (.ref l0)]) (st' := [.int (nI 1)]) bf66_0 bf66_3 rfl rfl).trans ?_
  exact bifc bf66_3 rfl bf66_17 bf66_6 rfl rfl rfl
theorem bk66_17 {w : am_Wd}  : am_run 66 17 [none] [] w = am_run 66 18 [none] [.int (nI 0)] w := by
  refine (bu (ls'' := [none]) (st' := [.int (nI 0)]) bf66_17 bf66_18 rfl rfl).trans ?_
  rfl
theorem bk66_6 {w : am_Wd} {l0 : Nat} : am_run 66 6 [some (.ref l0)] [] w = (am_gf w l0 1 1).bind fun v => am_run 66 10 [none] (v :: []) w := by
  refine (bu (ls'' := [none]) (st' := [.ref l0]) bf66_6 bf66_7 rfl rfl).trans ?_
  exact bh bf66_7 bf66_10 rfl (fun _ _ => am_ge_rf w) rfl
theorem bk66_18 {w : am_Wd} {s0 : Int32} (hb : am_ok (am_rt 1) (.int s0) = true) : am_run 66 18 [none] [.int s0] w = some (.inl (some (.int s0)), w) := by
  exact am_e2 bf66_18 (by unfold am_stp; exact if_pos ⟨by decide, hb⟩) (am_ge_rf w)
theorem bk66_10 {w : am_Wd} {s0 : Int32} : am_run 66 10 [none] [.int s0] w = if ¬ s0 = nI 0 then am_run 66 17 [none] [] w else am_run 66 13 [none] [] w := by
  exact bifc bf66_10 rfl bf66_17 bf66_13 rfl rfl rfl
theorem bk66_13 {w : am_Wd}  : am_run 66 13 [none] [] w = am_run 66 18 [none] [.int (nI 1)] w := by
  refine (bu (ls'' := [none]) (st' := [.int (nI 1)]) bf66_13 bf66_14 rfl rfl).trans ?_
  refine (bu (ls'' := [none]) (st' := [.int (nI 1)]) bf66_14 bf66_18 rfl rfl).trans ?_
  rfl
theorem bf67_0 : am_fetch (am_mth 67) 0 = some (.aload_n 0, 1, [], []) := by decide +kernel
theorem bf67_1 : am_fetch (am_mth 67) 1 = some (.getfield 79, 3, [0, 1, 3, 856], [0]) := by decide +kernel
theorem bf67_4 : am_fetch (am_mth 67) 4 = some (.ireturn, 1, [0], [0]) := by decide +kernel
theorem bk67_0 {w : am_Wd} {l0 : Nat} : am_run 67 0 [some (.ref l0)] [] w = (am_gf w l0 1 3).bind fun v => am_run 67 4 [none] (v :: []) w := by
  refine (bu (ls'' := [none]) (st' := [.ref l0]) bf67_0 bf67_1 rfl rfl).trans ?_
  exact bh bf67_1 bf67_4 rfl (fun _ _ => am_ge_rf w) rfl
theorem bk67_4 {w : am_Wd} {s0 : Int32} : am_run 67 4 [none] [.int s0] w = some (.inl (some (.int s0)), w) := by
  exact am_e2 bf67_4 rfl (am_ge_rf w)
theorem bf68_0 : am_fetch (am_mth 68) 0 = some (.iload_n 1, 1, [], [3, 4, 5, 6]) := by decide +kernel
theorem bf68_1 : am_fetch (am_mth 68) 1 = some (.istore 5, 2, [], [1, 3, 4, 5, 6]) := by decide +kernel
theorem bf68_3 : am_fetch (am_mth 68) 3 = some (.iload_n 0, 1, [], [1, 3, 4, 6]) := by decide +kernel
theorem bf68_4 : am_fetch (am_mth 68) 4 = some (.ifCond .ge 7, 3, [], [1, 3, 4, 6]) := by decide +kernel
theorem bf68_7 : am_fetch (am_mth 68) 7 = some (.iconst 1, 1, [], [1, 3, 4, 6]) := by decide +kernel
theorem bf68_8 : am_fetch (am_mth 68) 8 = some (.goto 4, 3, [], [1, 3, 4, 6]) := by decide +kernel
theorem bf68_11 : am_fetch (am_mth 68) 11 = some (.iconst 0, 1, [], [1, 3, 4, 6]) := by decide +kernel
theorem bf68_12 : am_fetch (am_mth 68) 12 = some (.istore 6, 2, [], [1, 3, 4, 6]) := by decide +kernel
theorem bf68_14 : am_fetch (am_mth 68) 14 = some (.iload 6, 2, [], [1, 3, 4]) := by decide +kernel
theorem bf68_16 : am_fetch (am_mth 68) 16 = some (.ifCond .ne 6, 3, [], [1, 3, 4]) := by decide +kernel
theorem bf68_19 : am_fetch (am_mth 68) 19 = some (.iload_n 0, 1, [], [1, 3, 4]) := by decide +kernel
theorem bf68_20 : am_fetch (am_mth 68) 20 = some (.ineg, 1, [], [0, 1, 3, 4]) := by decide +kernel
theorem bf68_21 : am_fetch (am_mth 68) 21 = some (.istore_n 0, 1, [], [0, 1, 3, 4]) := by decide +kernel
theorem bf68_22 : am_fetch (am_mth 68) 22 = some (.iload_n 0, 1, [], [1, 3, 4]) := by decide +kernel
theorem bf68_23 : am_fetch (am_mth 68) 23 = some (.bipush (-100), 2, [], [1, 3, 4]) := by decide +kernel
theorem bf68_25 : am_fetch (am_mth 68) 25 = some (.if_icmp .gt 47, 3, [], [1, 3, 4]) := by decide +kernel
theorem bf68_28 : am_fetch (am_mth 68) 28 = some (.iload_n 0, 1, [], [1, 3, 4]) := by decide +kernel
theorem bf68_29 : am_fetch (am_mth 68) 29 = some (.bipush 100, 2, [], [1, 3, 4]) := by decide +kernel
theorem bf68_31 : am_fetch (am_mth 68) 31 = some (.idiv, 1, [], [1, 3, 4]) := by decide +kernel
theorem bf68_32 : am_fetch (am_mth 68) 32 = some (.istore_n 3, 1, [], [1, 3, 4]) := by decide +kernel
theorem bf68_33 : am_fetch (am_mth 68) 33 = some (.iload_n 3, 1, [], [1, 4]) := by decide +kernel
theorem bf68_34 : am_fetch (am_mth 68) 34 = some (.bipush 100, 2, [], [1, 4]) := by decide +kernel
theorem bf68_36 : am_fetch (am_mth 68) 36 = some (.imul, 1, [], [1, 4]) := by decide +kernel
theorem bf68_37 : am_fetch (am_mth 68) 37 = some (.iload_n 0, 1, [], [1, 4]) := by decide +kernel
theorem bf68_38 : am_fetch (am_mth 68) 38 = some (.isub, 1, [], [0, 1, 4]) := by decide +kernel
theorem bf68_39 : am_fetch (am_mth 68) 39 = some (.istore 4, 2, [], [0, 1, 4]) := by decide +kernel
theorem bf68_41 : am_fetch (am_mth 68) 41 = some (.iload_n 3, 1, [], [0, 1]) := by decide +kernel
theorem bf68_42 : am_fetch (am_mth 68) 42 = some (.istore_n 0, 1, [], [0, 1, 3]) := by decide +kernel
theorem bf68_43 : am_fetch (am_mth 68) 43 = some (.aload_n 2, 1, [], [1, 3]) := by decide +kernel
theorem bf68_44 : am_fetch (am_mth 68) 44 = some (.iinc 5 (-1), 3, [], [1, 3]) := by decide +kernel
theorem bf68_47 : am_fetch (am_mth 68) 47 = some (.iload 5, 2, [], [1, 3]) := by decide +kernel
theorem bf68_49 : am_fetch (am_mth 68) 49 = some (.getstatic 83, 3, [1, 2, 1014], [1, 3]) := by decide +kernel
theorem bf68_52 : am_fetch (am_mth 68) 52 = some (.iload 4, 2, [], [1, 3]) := by decide +kernel
theorem bf68_54 : am_fetch (am_mth 68) 54 = some (.baload, 1, [3], [1, 3]) := by decide +kernel
theorem bf68_55 : am_fetch (am_mth 68) 55 = some (.bastore, 1, [3], [1, 3]) := by decide +kernel
theorem bf68_56 : am_fetch (am_mth 68) 56 = some (.aload_n 2, 1, [], [1, 3]) := by decide +kernel
theorem bf68_57 : am_fetch (am_mth 68) 57 = some (.iinc 5 (-1), 3, [], [1, 3]) := by decide +kernel
theorem bf68_60 : am_fetch (am_mth 68) 60 = some (.iload 5, 2, [], [1, 3]) := by decide +kernel
theorem bf68_62 : am_fetch (am_mth 68) 62 = some (.getstatic 87, 3, [1, 3, 1016], [1, 3]) := by decide +kernel
theorem bf68_65 : am_fetch (am_mth 68) 65 = some (.iload 4, 2, [], [1, 3]) := by decide +kernel
theorem bf68_67 : am_fetch (am_mth 68) 67 = some (.baload, 1, [3], [1, 3, 4]) := by decide +kernel
theorem bf68_68 : am_fetch (am_mth 68) 68 = some (.bastore, 1, [3], [1, 3, 4]) := by decide +kernel
theorem bf68_69 : am_fetch (am_mth 68) 69 = some (.goto (-47), 3, [], [1, 3, 4]) := by decide +kernel
theorem bf68_72 : am_fetch (am_mth 68) 72 = some (.aload_n 2, 1, [], [1, 3, 4]) := by decide +kernel
theorem bf68_73 : am_fetch (am_mth 68) 73 = some (.iinc 5 (-1), 3, [], [1, 3, 4]) := by decide +kernel
theorem bf68_76 : am_fetch (am_mth 68) 76 = some (.iload 5, 2, [], [1, 3, 4]) := by decide +kernel
theorem bf68_78 : am_fetch (am_mth 68) 78 = some (.getstatic 83, 3, [1, 2, 1014], [1, 3, 4]) := by decide +kernel
theorem bf68_81 : am_fetch (am_mth 68) 81 = some (.iload_n 0, 1, [], [1, 3, 4]) := by decide +kernel
theorem bf68_82 : am_fetch (am_mth 68) 82 = some (.ineg, 1, [], [1, 3, 4]) := by decide +kernel
theorem bf68_83 : am_fetch (am_mth 68) 83 = some (.baload, 1, [3], [1, 3, 4]) := by decide +kernel
theorem bf68_84 : am_fetch (am_mth 68) 84 = some (.bastore, 1, [3], [1, 3, 4]) := by decide +kernel
theorem bf68_85 : am_fetch (am_mth 68) 85 = some (.iload_n 0, 1, [], [1, 3, 4]) := by decide +kernel
theorem bf68_86 : am_fetch (am_mth 68) 86 = some (.bipush (-9), 2, [], [1, 3, 4]) := by decide +kernel
theorem bf68_88 : am_fetch (am_mth 68) 88 = some (.if_icmp .ge 16, 3, [], [1, 3, 4]) := by decide +kernel
theorem bf68_91 : am_fetch (am_mth 68) 91 = some (.aload_n 2, 1, [], [1, 3, 4]) := by decide +kernel
theorem bf68_92 : am_fetch (am_mth 68) 92 = some (.iinc 5 (-1), 3, [], [1, 3, 4]) := by decide +kernel
theorem bf68_95 : am_fetch (am_mth 68) 95 = some (.iload 5, 2, [], [1, 3, 4]) := by decide +kernel
theorem bf68_97 : am_fetch (am_mth 68) 97 = some (.getstatic 87, 3, [1, 3, 1016], [1, 3, 4]) := by decide +kernel
theorem bf68_100 : am_fetch (am_mth 68) 100 = some (.iload_n 0, 1, [], [1, 3, 4]) := by decide +kernel
theorem bf68_101 : am_fetch (am_mth 68) 101 = some (.ineg, 1, [], [0, 1, 3, 4]) := by decide +kernel
theorem bf68_102 : am_fetch (am_mth 68) 102 = some (.baload, 1, [3], [0, 1, 3, 4]) := by decide +kernel
theorem bf68_103 : am_fetch (am_mth 68) 103 = some (.bastore, 1, [3], [0, 1, 3, 4]) := by decide +kernel
theorem bf68_104 : am_fetch (am_mth 68) 104 = some (.iload 6, 2, [], [0, 1, 3, 4]) := by decide +kernel
theorem bf68_106 : am_fetch (am_mth 68) 106 = some (.ifCond .eq 12, 3, [], [0, 1, 3, 4, 6]) := by decide +kernel
theorem bf68_109 : am_fetch (am_mth 68) 109 = some (.aload_n 2, 1, [], [0, 1, 3, 4, 6]) := by decide +kernel
theorem bf68_110 : am_fetch (am_mth 68) 110 = some (.iinc 5 (-1), 3, [], [0, 1, 2, 3, 4, 6]) := by decide +kernel
theorem bf68_113 : am_fetch (am_mth 68) 113 = some (.iload 5, 2, [], [0, 1, 2, 3, 4, 6]) := by decide +kernel
theorem bf68_115 : am_fetch (am_mth 68) 115 = some (.bipush 45, 2, [], [0, 1, 2, 3, 4, 6]) := by decide +kernel
theorem bf68_117 : am_fetch (am_mth 68) 117 = some (.bastore, 1, [3], [0, 1, 2, 3, 4, 6]) := by decide +kernel
theorem bf68_118 : am_fetch (am_mth 68) 118 = some (.iload 5, 2, [], [0, 1, 2, 3, 4, 6]) := by decide +kernel
theorem bf68_120 : am_fetch (am_mth 68) 120 = some (.ireturn, 1, [0], [0, 1, 2, 3, 4, 5, 6]) := by decide +kernel
theorem bk68_0 {w : am_Wd} {l0 : Int32} {l1 : Int32} {l2 : Nat} : am_run 68 0 [some (.int l0), some (.int l1), some (.ref l2), none, none, none, none] [] w = if nI 0 ≤ l0 then am_run 68 11 [some (.int l0), none, some (.ref l2), none, none, some (.int l1), none] [] w else am_run 68 7 [some (.int l0), none, some (.ref l2), none, none, some (.int l1), none] [] w := by
  refine (bu (ls'' := [some (.int l0), none, some (.ref l2), none, none, none, none]) (st' := [.int l1]) bf68_0 bf68_1 rfl rfl).trans ?_
  refine (bu (ls'' := [some (.int l0), none, some (.ref l2), none, none, some (.int l1), none]) (st' := []) bf68_1 bf68_3 rfl rfl).trans ?_
  refine (bu (ls'' := [some (.int l0), none, some (.ref l2), none, none, some (.int l1), none]) (st' := [.int l0]) bf68_3 bf68_4 rfl rfl).trans ?_
  exact bifc bf68_4 rfl bf68_11 bf68_7 rfl rfl rfl
theorem bk68_11 {w : am_Wd} {l0 : Int32} {l2 : Nat} {l5 : Int32} : am_run 68 11 [some (.int l0), none, some (.ref l2), none, none, some (.int l5), none] [] w = am_run 68 12 [some (.int l0), none, some (.ref l2), none, none, some (.int l5), none] [.int (nI 0)] w := by
  refine (bu (ls'' := [some (.int l0), none, some (.ref l2), none, none, some (.int l5), none]) (st' := [.int (nI 0)]) bf68_11 bf68_12 rfl rfl).trans ?_
  rfl
theorem bk68_7 {w : am_Wd} {l0 : Int32} {l2 : Nat} {l5 : Int32} : am_run 68 7 [some (.int l0), none, some (.ref l2), none, none, some (.int l5), none] [] w = am_run 68 12 [some (.int l0), none, some (.ref l2), none, none, some (.int l5), none] [.int (nI 1)] w := by
  refine (bu (ls'' := [some (.int l0), none, some (.ref l2), none, none, some (.int l5), none]) (st' := [.int (nI 1)]) bf68_7 bf68_8 rfl rfl).trans ?_
  refine (bu (ls'' := [some (.int l0), none, some (.ref l2), none, none, some (.int l5), none]) (st' := [.int (nI 1)]) bf68_8 bf68_12 rfl rfl).trans ?_
  rfl
theorem bk68_12 {w : am_Wd} {l0 : Int32} {l2 : Nat} {l5 : Int32} {s0 : Int32} : am_run 68 12 [some (.int l0), none, some (.ref l2), none, none, some (.int l5), none] [.int s0] w = if ¬ s0 = nI 0 then am_run 68 22 [some (.int l0), none, some (.ref l2), none, none, some (.int l5), some (.int s0)] [] w else am_run 68 19 [some (.int l0), none, some (.ref l2), none, none, some (.int l5), some (.int s0)] [] w := by
  refine (bu (ls'' := [some (.int l0), none, some (.ref l2), none, none, some (.int l5), some (.int s0)]) (st' := []) bf68_12 bf68_14 rfl rfl).trans ?_
  refine (bu (ls'' := [some (.int l0), none, some (.ref l2), none, none, some (.int l5), some (.int s0)]) (st' := [.int s0]) bf68_14 bf68_16 rfl rfl).trans ?_
  exact bifc bf68_16 rfl bf68_22 bf68_19 rfl rfl rfl
theorem bk68_22 {w : am_Wd} {l0 : Int32} {l2 : Nat} {l5 : Int32} {l6 : Int32} : am_run 68 22 [some (.int l0), none, some (.ref l2), none, none, some (.int l5), some (.int l6)] [] w = if (-100 : Int32) < l0 then am_run 68 72 [some (.int l0), none, some (.ref l2), none, none, some (.int l5), some (.int l6)] [] w else am_run 68 28 [some (.int l0), none, some (.ref l2), none, none, some (.int l5), some (.int l6)] [] w := by
  refine (bu (ls'' := [some (.int l0), none, some (.ref l2), none, none, some (.int l5), some (.int l6)]) (st' := [.int l0]) bf68_22 bf68_23 rfl rfl).trans ?_
  refine (bu (ls'' := [some (.int l0), none, some (.ref l2), none, none, some (.int l5), some (.int l6)]) (st' := [.int (-100 : Int32), .int l0]) bf68_23 bf68_25 rfl rfl).trans ?_
  exact bic bf68_25 rfl bf68_72 bf68_28 rfl rfl rfl
theorem bk68_19 {w : am_Wd} {l0 : Int32} {l2 : Nat} {l5 : Int32} {l6 : Int32} : am_run 68 19 [some (.int l0), none, some (.ref l2), none, none, some (.int l5), some (.int l6)] [] w = am_run 68 22 [some (.int (-l0)), none, some (.ref l2), none, none, some (.int l5), some (.int l6)] [] w := by
  refine (bu (ls'' := [none, none, some (.ref l2), none, none, some (.int l5), some (.int l6)]) (st' := [.int l0]) bf68_19 bf68_20 rfl rfl).trans ?_
  refine (bu (ls'' := [none, none, some (.ref l2), none, none, some (.int l5), some (.int l6)]) (st' := [.int (-l0)]) bf68_20 bf68_21 rfl rfl).trans ?_
  refine (bu (ls'' := [some (.int (-l0)), none, some (.ref l2), none, none, some (.int l5), some (.int l6)]) (st' := []) bf68_21 bf68_22 rfl rfl).trans ?_
  rfl
theorem bk68_72 {w : am_Wd} {l0 : Int32} {l2 : Nat} {l5 : Int32} {l6 : Int32} {sg : Nat} (hg : w.2.2.2 2 = some sg) : am_run 68 72 [some (.int l0), none, some (.ref l2), none, none, some (.int l5), some (.int l6)] [] w = am_run 68 81 [some (.int l0), none, some (.ref l2), none, none, some (.int (l5 + (-1 : Int32))), some (.int l6)] (.ref sg :: [.int (l5 + (-1 : Int32)), .ref l2]) w := by
  refine (bu (ls'' := [some (.int l0), none, some (.ref l2), none, none, some (.int l5), some (.int l6)]) (st' := [.ref l2]) bf68_72 bf68_73 rfl rfl).trans ?_
  refine (bu (ls'' := [some (.int l0), none, some (.ref l2), none, none, some (.int (l5 + (-1 : Int32))), some (.int l6)]) (st' := [.ref l2]) bf68_73 bf68_76 rfl rfl).trans ?_
  refine (bu (ls'' := [some (.int l0), none, some (.ref l2), none, none, some (.int (l5 + (-1 : Int32))), some (.int l6)]) (st' := [.int (l5 + (-1 : Int32)), .ref l2]) bf68_76 bf68_78 rfl rfl).trans ?_
  exact bu (ls'' := [some (.int l0), none, some (.ref l2), none, none, some (.int (l5 + (-1 : Int32))), some (.int l6)]) (st' := .ref sg :: [.int (l5 + (-1 : Int32)), .ref l2]) bf68_78 bf68_81 (by show some _ = _; rw [hg]; rfl) rfl
theorem bk68_28 {w : am_Wd} {l0 : Int32} {l2 : Nat} {l5 : Int32} {l6 : Int32} {sg : Nat} (hg : w.2.2.2 2 = some sg) : am_run 68 28 [some (.int l0), none, some (.ref l2), none, none, some (.int l5), some (.int l6)] [] w = am_run 68 52 [some (.int (l0 / (nI 100))), none, some (.ref l2), none, some (.int (((l0 / (nI 100)) * (nI 100)) - l0)), some (.int (l5 + (-1 : Int32))), some (.int l6)] (.ref sg :: [.int (l5 + (-1 : Int32)), .ref l2]) w := by
  refine (bu (ls'' := [some (.int l0), none, some (.ref l2), none, none, some (.int l5), some (.int l6)]) (st' := [.int l0]) bf68_28 bf68_29 rfl rfl).trans ?_
  refine (bu (ls'' := [some (.int l0), none, some (.ref l2), none, none, some (.int l5), some (.int l6)]) (st' := [.int (nI 100), .int l0]) bf68_29 bf68_31 rfl rfl).trans ?_
  refine (bu (ls'' := [some (.int l0), none, some (.ref l2), none, none, some (.int l5), some (.int l6)]) (st' := [.int (l0 / (nI 100))]) bf68_31 bf68_32 rfl rfl).trans ?_
  refine (bu (ls'' := [some (.int l0), none, some (.ref l2), some (.int (l0 / (nI 100))), none, some (.int l5), some (.int l6)]) (st' := []) bf68_32 bf68_33 rfl rfl).trans ?_
  refine (bu (ls'' := [some (.int l0), none, some (.ref l2), some (.int (l0 / (nI 100))), none, some (.int l5), some (.int l6)]) (st' := [.int (l0 / (nI 100))]) bf68_33 bf68_34 rfl rfl).trans ?_
  refine (bu (ls'' := [some (.int l0), none, some (.ref l2), some (.int (l0 / (nI 100))), none, some (.int l5), some (.int l6)]) (st' := [.int (nI 100), .int (l0 / (nI 100))]) bf68_34 bf68_36 rfl rfl).trans ?_
  refine (bu (ls'' := [some (.int l0), none, some (.ref l2), some (.int (l0 / (nI 100))), none, some (.int l5), some (.int l6)]) (st' := [.int ((l0 / (nI 100)) * (nI 100))]) bf68_36 bf68_37 rfl rfl).trans ?_
  refine (bu (ls'' := [none, none, some (.ref l2), some (.int (l0 / (nI 100))), none, some (.int l5), some (.int l6)]) (st' := [.int l0, .int ((l0 / (nI 100)) * (nI 100))]) bf68_37 bf68_38 rfl rfl).trans ?_
  refine (bu (ls'' := [none, none, some (.ref l2), some (.int (l0 / (nI 100))), none, some (.int l5), some (.int l6)]) (st' := [.int (((l0 / (nI 100)) * (nI 100)) - l0)]) bf68_38 bf68_39 rfl rfl).trans ?_
  refine (bu (ls'' := [none, none, some (.ref l2), some (.int (l0 / (nI 100))), some (.int (((l0 / (nI 100)) * (nI 100)) - l0)), some (.int l5), some (.int l6)]) (st' := []) bf68_39 bf68_41 rfl rfl).trans ?_
  refine (bu (ls'' := [none, none, some (.ref l2), none, some (.int (((l0 / (nI 100)) * (nI 100)) - l0)), some (.int l5), some (.int l6)]) (st' := [.int (l0 / (nI 100))]) bf68_41 bf68_42 rfl rfl).trans ?_
  refine (bu (ls'' := [some (.int (l0 / (nI 100))), none, some (.ref l2), none, some (.int (((l0 / (nI 100)) * (nI 100)) - l0)), some (.int l5), some (.int l6)]) (st' := []) bf68_42 bf68_43 rfl rfl).trans ?_
  refine (bu (ls'' := [some (.int (l0 / (nI 100))), none, some (.ref l2), none, some (.int (((l0 / (nI 100)) * (nI 100)) - l0)), some (.int l5), some (.int l6)]) (st' := [.ref l2]) bf68_43 bf68_44 rfl rfl).trans ?_
  refine (bu (ls'' := [some (.int (l0 / (nI 100))), none, some (.ref l2), none, some (.int (((l0 / (nI 100)) * (nI 100)) - l0)), some (.int (l5 + (-1 : Int32))), some (.int l6)]) (st' := [.ref l2]) bf68_44 bf68_47 rfl rfl).trans ?_
  refine (bu (ls'' := [some (.int (l0 / (nI 100))), none, some (.ref l2), none, some (.int (((l0 / (nI 100)) * (nI 100)) - l0)), some (.int (l5 + (-1 : Int32))), some (.int l6)]) (st' := [.int (l5 + (-1 : Int32)), .ref l2]) bf68_47 bf68_49 rfl rfl).trans ?_
  exact bu (ls'' := [some (.int (l0 / (nI 100))), none, some (.ref l2), none, some (.int (((l0 / (nI 100)) * (nI 100)) - l0)), some (.int (l5 + (-1 : Int32))), some (.int l6)]) (st' := .ref sg :: [.int (l5 + (-1 : Int32)), .ref l2]) bf68_49 bf68_52 (by show some _ = _; rw [hg]; rfl) rfl
theorem bk68_81 {w : am_Wd} {l0 : Int32} {l2 : Nat} {l5 : Int32} {l6 : Int32} {s0 : Nat} {s1 : Int32} {s2 : Nat} : am_run 68 81 [some (.int l0), none, some (.ref l2), none, none, some (.int l5), some (.int l6)] [.ref s0, .int s1, .ref s2] w = (am_ri 3 w s0 (-l0)).bind fun v => am_run 68 84 [some (.int l0), none, some (.ref l2), none, none, some (.int l5), some (.int l6)] (.int v :: [.int s1, .ref s2]) w := by
  refine (bu (ls'' := [some (.int l0), none, some (.ref l2), none, none, some (.int l5), some (.int l6)]) (st' := [.int l0, .ref s0, .int s1, .ref s2]) bf68_81 bf68_82 rfl rfl).trans ?_
  refine (bu (ls'' := [some (.int l0), none, some (.ref l2), none, none, some (.int l5), some (.int l6)]) (st' := [.int (-l0), .ref s0, .int s1, .ref s2]) bf68_82 bf68_83 rfl rfl).trans ?_
  exact bh bf68_83 bf68_84 rfl (fun _ _ => am_ge_rf w) rfl
theorem bk68_52 {w : am_Wd} {l0 : Int32} {l2 : Nat} {l4 : Int32} {l5 : Int32} {l6 : Int32} {s0 : Nat} {s1 : Int32} {s2 : Nat} : am_run 68 52 [some (.int l0), none, some (.ref l2), none, some (.int l4), some (.int l5), some (.int l6)] [.ref s0, .int s1, .ref s2] w = (am_ri 3 w s0 l4).bind fun v => am_run 68 55 [some (.int l0), none, some (.ref l2), none, some (.int l4), some (.int l5), some (.int l6)] (.int v :: [.int s1, .ref s2]) w := by
  refine (bu (ls'' := [some (.int l0), none, some (.ref l2), none, some (.int l4), some (.int l5), some (.int l6)]) (st' := [.int l4, .ref s0, .int s1, .ref s2]) bf68_52 bf68_54 rfl rfl).trans ?_
  exact bh bf68_54 bf68_55 rfl (fun _ _ => am_ge_rf w) rfl
theorem bk68_84 {w : am_Wd} {l0 : Int32} {l2 : Nat} {l5 : Int32} {l6 : Int32} {s0 : Int32} {s1 : Int32} {s2 : Nat} : am_run 68 84 [some (.int l0), none, some (.ref l2), none, none, some (.int l5), some (.int l6)] [.int s0, .int s1, .ref s2] w = (am_wi 3 w s2 s1 (vp_nar .byte s0)).bind fun w' => am_run 68 85 [some (.int l0), none, some (.ref l2), none, none, some (.int l5), some (.int l6)] [] w' := by
  exact bh bf68_84 bf68_85 rfl (bge_wi) rfl
theorem bk68_55 {w : am_Wd} {l0 : Int32} {l2 : Nat} {l4 : Int32} {l5 : Int32} {l6 : Int32} {s0 : Int32} {s1 : Int32} {s2 : Nat} : am_run 68 55 [some (.int l0), none, some (.ref l2), none, some (.int l4), some (.int l5), some (.int l6)] [.int s0, .int s1, .ref s2] w = (am_wi 3 w s2 s1 (vp_nar .byte s0)).bind fun w' => am_run 68 56 [some (.int l0), none, some (.ref l2), none, some (.int l4), some (.int l5), some (.int l6)] [] w' := by
  exact bh bf68_55 bf68_56 rfl (bge_wi) rfl
theorem bk68_85 {w : am_Wd} {l0 : Int32} {l2 : Nat} {l5 : Int32} {l6 : Int32} : am_run 68 85 [some (.int l0), none, some (.ref l2), none, none, some (.int l5), some (.int l6)] [] w = if (-9 : Int32) ≤ l0 then am_run 68 104 [none, none, some (.ref l2), none, none, some (.int l5), some (.int l6)] [] w else am_run 68 91 [some (.int l0), none, some (.ref l2), none, none, some (.int l5), some (.int l6)] [] w := by
  refine (bu (ls'' := [some (.int l0), none, some (.ref l2), none, none, some (.int l5), some (.int l6)]) (st' := [.int l0]) bf68_85 bf68_86 rfl rfl).trans ?_
  refine (bu (ls'' := [some (.int l0), none, some (.ref l2), none, none, some (.int l5), some (.int l6)]) (st' := [.int (-9 : Int32), .int l0]) bf68_86 bf68_88 rfl rfl).trans ?_
  exact bic bf68_88 rfl bf68_104 bf68_91 rfl rfl rfl
theorem bk68_56 {w : am_Wd} {l0 : Int32} {l2 : Nat} {l4 : Int32} {l5 : Int32} {l6 : Int32} {sg : Nat} (hg : w.2.2.2 3 = some sg) : am_run 68 56 [some (.int l0), none, some (.ref l2), none, some (.int l4), some (.int l5), some (.int l6)] [] w = am_run 68 65 [some (.int l0), none, some (.ref l2), none, some (.int l4), some (.int (l5 + (-1 : Int32))), some (.int l6)] (.ref sg :: [.int (l5 + (-1 : Int32)), .ref l2]) w := by
  refine (bu (ls'' := [some (.int l0), none, some (.ref l2), none, some (.int l4), some (.int l5), some (.int l6)]) (st' := [.ref l2]) bf68_56 bf68_57 rfl rfl).trans ?_
  refine (bu (ls'' := [some (.int l0), none, some (.ref l2), none, some (.int l4), some (.int (l5 + (-1 : Int32))), some (.int l6)]) (st' := [.ref l2]) bf68_57 bf68_60 rfl rfl).trans ?_
  refine (bu (ls'' := [some (.int l0), none, some (.ref l2), none, some (.int l4), some (.int (l5 + (-1 : Int32))), some (.int l6)]) (st' := [.int (l5 + (-1 : Int32)), .ref l2]) bf68_60 bf68_62 rfl rfl).trans ?_
  exact bu (ls'' := [some (.int l0), none, some (.ref l2), none, some (.int l4), some (.int (l5 + (-1 : Int32))), some (.int l6)]) (st' := .ref sg :: [.int (l5 + (-1 : Int32)), .ref l2]) bf68_62 bf68_65 (by show some _ = _; rw [hg]; rfl) rfl
theorem bk68_104 {w : am_Wd} {l2 : Nat} {l5 : Int32} {l6 : Int32} : am_run 68 104 [none, none, some (.ref l2), none, none, some (.int l5), some (.int l6)] [] w = if l6 = nI 0 then am_run 68 118 [none, none, none, none, none, some (.int l5), none] [] w else am_run 68 109 [none, none, some (.ref l2), none, none, some (.int l5), none] [] w := by
  refine (bu (ls'' := [none, none, some (.ref l2), none, none, some (.int l5), none]) (st' := [.int l6]) bf68_104 bf68_106 rfl rfl).trans ?_
  exact bifc bf68_106 rfl bf68_118 bf68_109 rfl rfl rfl
theorem bk68_91 {w : am_Wd} {l0 : Int32} {l2 : Nat} {l5 : Int32} {l6 : Int32} {sg : Nat} (hg : w.2.2.2 3 = some sg) : am_run 68 91 [some (.int l0), none, some (.ref l2), none, none, some (.int l5), some (.int l6)] [] w = am_run 68 100 [some (.int l0), none, some (.ref l2), none, none, some (.int (l5 + (-1 : Int32))), some (.int l6)] (.ref sg :: [.int (l5 + (-1 : Int32)), .ref l2]) w := by
  refine (bu (ls'' := [some (.int l0), none, some (.ref l2), none, none, some (.int l5), some (.int l6)]) (st' := [.ref l2]) bf68_91 bf68_92 rfl rfl).trans ?_
  refine (bu (ls'' := [some (.int l0), none, some (.ref l2), none, none, some (.int (l5 + (-1 : Int32))), some (.int l6)]) (st' := [.ref l2]) bf68_92 bf68_95 rfl rfl).trans ?_
  refine (bu (ls'' := [some (.int l0), none, some (.ref l2), none, none, some (.int (l5 + (-1 : Int32))), some (.int l6)]) (st' := [.int (l5 + (-1 : Int32)), .ref l2]) bf68_95 bf68_97 rfl rfl).trans ?_
  exact bu (ls'' := [some (.int l0), none, some (.ref l2), none, none, some (.int (l5 + (-1 : Int32))), some (.int l6)]) (st' := .ref sg :: [.int (l5 + (-1 : Int32)), .ref l2]) bf68_97 bf68_100 (by show some _ = _; rw [hg]; rfl) rfl
theorem bk68_65 {w : am_Wd} {l0 : Int32} {l2 : Nat} {l4 : Int32} {l5 : Int32} {l6 : Int32} {s0 : Nat} {s1 : Int32} {s2 : Nat} : am_run 68 65 [some (.int l0), none, some (.ref l2), none, some (.int l4), some (.int l5), some (.int l6)] [.ref s0, .int s1, .ref s2] w = (am_ri 3 w s0 l4).bind fun v => am_run 68 68 [some (.int l0), none, some (.ref l2), none, none, some (.int l5), some (.int l6)] (.int v :: [.int s1, .ref s2]) w := by
  refine (bu (ls'' := [some (.int l0), none, some (.ref l2), none, none, some (.int l5), some (.int l6)]) (st' := [.int l4, .ref s0, .int s1, .ref s2]) bf68_65 bf68_67 rfl rfl).trans ?_
  exact bh bf68_67 bf68_68 rfl (fun _ _ => am_ge_rf w) rfl
theorem bk68_118 {w : am_Wd} {l5 : Int32} : am_run 68 118 [none, none, none, none, none, some (.int l5), none] [] w = some (.inl (some (.int l5)), w) := by
  refine (bu (ls'' := [none, none, none, none, none, none, none]) (st' := [.int l5]) bf68_118 bf68_120 rfl rfl).trans ?_
  exact am_e2 bf68_120 rfl (am_ge_rf w)
theorem bk68_109 {w : am_Wd} {l2 : Nat} {l5 : Int32} : am_run 68 109 [none, none, some (.ref l2), none, none, some (.int l5), none] [] w = (am_wi 3 w l2 (l5 + (-1 : Int32)) (vp_nar .byte (nI 45))).bind fun w' => am_run 68 118 [none, none, none, none, none, some (.int (l5 + (-1 : Int32))), none] [] w' := by
  refine (bu (ls'' := [none, none, none, none, none, some (.int l5), none]) (st' := [.ref l2]) bf68_109 bf68_110 rfl rfl).trans ?_
  refine (bu (ls'' := [none, none, none, none, none, some (.int (l5 + (-1 : Int32))), none]) (st' := [.ref l2]) bf68_110 bf68_113 rfl rfl).trans ?_
  refine (bu (ls'' := [none, none, none, none, none, some (.int (l5 + (-1 : Int32))), none]) (st' := [.int (l5 + (-1 : Int32)), .ref l2]) bf68_113 bf68_115 rfl rfl).trans ?_
  refine (bu (ls'' := [none, none, none, none, none, some (.int (l5 + (-1 : Int32))), none]) (st' := [.int (nI 45), .int (l5 + (-1 : Int32)), .ref l2]) bf68_115 bf68_117 rfl rfl).trans ?_
  exact bh bf68_117 bf68_118 rfl (bge_wi) rfl
theorem bk68_100 {w : am_Wd} {l0 : Int32} {l2 : Nat} {l5 : Int32} {l6 : Int32} {s0 : Nat} {s1 : Int32} {s2 : Nat} : am_run 68 100 [some (.int l0), none, some (.ref l2), none, none, some (.int l5), some (.int l6)] [.ref s0, .int s1, .ref s2] w = (am_ri 3 w s0 (-l0)).bind fun v => am_run 68 103 [none, none, some (.ref l2), none, none, some (.int l5), some (.int l6)] (.int v :: [.int s1, .ref s2]) w := by
  refine (bu (ls'' := [none, none, some (.ref l2), none, none, some (.int l5), some (.int l6)]) (st' := [.int l0, .ref s0, .int s1, .ref s2]) bf68_100 bf68_101 rfl rfl).trans ?_
  refine (bu (ls'' := [none, none, some (.ref l2), none, none, some (.int l5), some (.int l6)]) (st' := [.int (-l0), .ref s0, .int s1, .ref s2]) bf68_101 bf68_102 rfl rfl).trans ?_
  exact bh bf68_102 bf68_103 rfl (fun _ _ => am_ge_rf w) rfl
theorem bk68_68 {w : am_Wd} {l0 : Int32} {l2 : Nat} {l5 : Int32} {l6 : Int32} {s0 : Int32} {s1 : Int32} {s2 : Nat} : am_run 68 68 [some (.int l0), none, some (.ref l2), none, none, some (.int l5), some (.int l6)] [.int s0, .int s1, .ref s2] w = (am_wi 3 w s2 s1 (vp_nar .byte s0)).bind fun w' => am_run 68 69 [some (.int l0), none, some (.ref l2), none, none, some (.int l5), some (.int l6)] [] w' := by
  exact bh bf68_68 bf68_69 rfl (bge_wi) rfl
theorem bk68_103 {w : am_Wd} {l2 : Nat} {l5 : Int32} {l6 : Int32} {s0 : Int32} {s1 : Int32} {s2 : Nat} : am_run 68 103 [none, none, some (.ref l2), none, none, some (.int l5), some (.int l6)] [.int s0, .int s1, .ref s2] w = (am_wi 3 w s2 s1 (vp_nar .byte s0)).bind fun w' => am_run 68 104 [none, none, some (.ref l2), none, none, some (.int l5), some (.int l6)] [] w' := by
  exact bh bf68_103 bf68_104 rfl (bge_wi) rfl
theorem bk68_69 {w : am_Wd} {l0 : Int32} {l2 : Nat} {l5 : Int32} {l6 : Int32} : am_run 68 69 [some (.int l0), none, some (.ref l2), none, none, some (.int l5), some (.int l6)] [] w = am_run 68 22 [some (.int l0), none, some (.ref l2), none, none, some (.int l5), some (.int l6)] [] w := by
  refine (bu (ls'' := [some (.int l0), none, some (.ref l2), none, none, some (.int l5), some (.int l6)]) (st' := []) bf68_69 bf68_22 rfl rfl).trans ?_
  rfl
theorem bf69_0 : am_fetch (am_mth 69) 0 = some (.iconst 1, 1, [], [1, 2, 3]) := by decide +kernel
theorem bf69_1 : am_fetch (am_mth 69) 1 = some (.istore_n 1, 1, [], [1, 2, 3]) := by decide +kernel
theorem bf69_2 : am_fetch (am_mth 69) 2 = some (.iload_n 0, 1, [], [2, 3]) := by decide +kernel
theorem bf69_3 : am_fetch (am_mth 69) 3 = some (.ifCond .lt 8, 3, [], [2, 3]) := by decide +kernel
theorem bf69_6 : am_fetch (am_mth 69) 6 = some (.iconst 0, 1, [], [1, 2, 3]) := by decide +kernel
theorem bf69_7 : am_fetch (am_mth 69) 7 = some (.istore_n 1, 1, [], [1, 2, 3]) := by decide +kernel
theorem bf69_8 : am_fetch (am_mth 69) 8 = some (.iload_n 0, 1, [], [2, 3]) := by decide +kernel
theorem bf69_9 : am_fetch (am_mth 69) 9 = some (.ineg, 1, [], [0, 2, 3]) := by decide +kernel
theorem bf69_10 : am_fetch (am_mth 69) 10 = some (.istore_n 0, 1, [], [0, 2, 3]) := by decide +kernel
theorem bf69_11 : am_fetch (am_mth 69) 11 = some (.bipush (-10), 2, [], [2, 3]) := by decide +kernel
theorem bf69_13 : am_fetch (am_mth 69) 13 = some (.istore_n 2, 1, [], [2, 3]) := by decide +kernel
theorem bf69_14 : am_fetch (am_mth 69) 14 = some (.iconst 1, 1, [], [3]) := by decide +kernel
theorem bf69_15 : am_fetch (am_mth 69) 15 = some (.istore_n 3, 1, [], [3]) := by decide +kernel
theorem bf69_16 : am_fetch (am_mth 69) 16 = some (.iload_n 3, 1, [], []) := by decide +kernel
theorem bf69_17 : am_fetch (am_mth 69) 17 = some (.bipush 10, 2, [], []) := by decide +kernel
theorem bf69_19 : am_fetch (am_mth 69) 19 = some (.if_icmp .ge 23, 3, [], []) := by decide +kernel
theorem bf69_22 : am_fetch (am_mth 69) 22 = some (.iload_n 0, 1, [], []) := by decide +kernel
theorem bf69_23 : am_fetch (am_mth 69) 23 = some (.iload_n 2, 1, [], []) := by decide +kernel
theorem bf69_24 : am_fetch (am_mth 69) 24 = some (.if_icmp .le 7, 3, [], []) := by decide +kernel
theorem bf69_27 : am_fetch (am_mth 69) 27 = some (.iload_n 3, 1, [], [0, 2]) := by decide +kernel
theorem bf69_28 : am_fetch (am_mth 69) 28 = some (.iload_n 1, 1, [], [0, 2, 3]) := by decide +kernel
theorem bf69_29 : am_fetch (am_mth 69) 29 = some (.iadd, 1, [], [0, 1, 2, 3]) := by decide +kernel
theorem bf69_30 : am_fetch (am_mth 69) 30 = some (.ireturn, 1, [0], [0, 1, 2, 3]) := by decide +kernel
theorem bf69_31 : am_fetch (am_mth 69) 31 = some (.bipush 10, 2, [], []) := by decide +kernel
theorem bf69_33 : am_fetch (am_mth 69) 33 = some (.iload_n 2, 1, [], []) := by decide +kernel
theorem bf69_34 : am_fetch (am_mth 69) 34 = some (.imul, 1, [], [2]) := by decide +kernel
theorem bf69_35 : am_fetch (am_mth 69) 35 = some (.istore_n 2, 1, [], [2]) := by decide +kernel
theorem bf69_36 : am_fetch (am_mth 69) 36 = some (.iinc 3 1, 3, [], []) := by decide +kernel
theorem bf69_39 : am_fetch (am_mth 69) 39 = some (.goto (-23), 3, [], []) := by decide +kernel
theorem bf69_42 : am_fetch (am_mth 69) 42 = some (.bipush 10, 2, [], [0, 2, 3]) := by decide +kernel
theorem bf69_44 : am_fetch (am_mth 69) 44 = some (.iload_n 1, 1, [], [0, 2, 3]) := by decide +kernel
theorem bf69_45 : am_fetch (am_mth 69) 45 = some (.iadd, 1, [], [0, 1, 2, 3]) := by decide +kernel
theorem bf69_46 : am_fetch (am_mth 69) 46 = some (.ireturn, 1, [0], [0, 1, 2, 3]) := by decide +kernel
theorem bk69_0 {w : am_Wd} {l0 : Int32} : am_run 69 0 [some (.int l0), none, none, none] [] w = if l0 < nI 0 then am_run 69 11 [some (.int l0), some (.int (nI 1)), none, none] [] w else am_run 69 6 [some (.int l0), none, none, none] [] w := by
  refine (bu (ls'' := [some (.int l0), none, none, none]) (st' := [.int (nI 1)]) bf69_0 bf69_1 rfl rfl).trans ?_
  refine (bu (ls'' := [some (.int l0), some (.int (nI 1)), none, none]) (st' := []) bf69_1 bf69_2 rfl rfl).trans ?_
  refine (bu (ls'' := [some (.int l0), some (.int (nI 1)), none, none]) (st' := [.int l0]) bf69_2 bf69_3 rfl rfl).trans ?_
  exact bifc bf69_3 rfl bf69_11 bf69_6 rfl rfl rfl
theorem bk69_11 {w : am_Wd} {l0 : Int32} {l1 : Int32} : am_run 69 11 [some (.int l0), some (.int l1), none, none] [] w = am_run 69 16 [some (.int l0), some (.int l1), some (.int (-10 : Int32)), some (.int (nI 1))] [] w := by
  refine (bu (ls'' := [some (.int l0), some (.int l1), none, none]) (st' := [.int (-10 : Int32)]) bf69_11 bf69_13 rfl rfl).trans ?_
  refine (bu (ls'' := [some (.int l0), some (.int l1), some (.int (-10 : Int32)), none]) (st' := []) bf69_13 bf69_14 rfl rfl).trans ?_
  refine (bu (ls'' := [some (.int l0), some (.int l1), some (.int (-10 : Int32)), none]) (st' := [.int (nI 1)]) bf69_14 bf69_15 rfl rfl).trans ?_
  refine (bu (ls'' := [some (.int l0), some (.int l1), some (.int (-10 : Int32)), some (.int (nI 1))]) (st' := []) bf69_15 bf69_16 rfl rfl).trans ?_
  rfl
theorem bk69_6 {w : am_Wd} {l0 : Int32} : am_run 69 6 [some (.int l0), none, none, none] [] w = am_run 69 11 [some (.int (-l0)), some (.int (nI 0)), none, none] [] w := by
  refine (bu (ls'' := [some (.int l0), none, none, none]) (st' := [.int (nI 0)]) bf69_6 bf69_7 rfl rfl).trans ?_
  refine (bu (ls'' := [some (.int l0), some (.int (nI 0)), none, none]) (st' := []) bf69_7 bf69_8 rfl rfl).trans ?_
  refine (bu (ls'' := [none, some (.int (nI 0)), none, none]) (st' := [.int l0]) bf69_8 bf69_9 rfl rfl).trans ?_
  refine (bu (ls'' := [none, some (.int (nI 0)), none, none]) (st' := [.int (-l0)]) bf69_9 bf69_10 rfl rfl).trans ?_
  refine (bu (ls'' := [some (.int (-l0)), some (.int (nI 0)), none, none]) (st' := []) bf69_10 bf69_11 rfl rfl).trans ?_
  rfl
theorem bk69_16 {w : am_Wd} {l0 : Int32} {l1 : Int32} {l2 : Int32} {l3 : Int32} : am_run 69 16 [some (.int l0), some (.int l1), some (.int l2), some (.int l3)] [] w = if (nI 10) ≤ l3 then am_run 69 42 [none, some (.int l1), none, none] [] w else am_run 69 22 [some (.int l0), some (.int l1), some (.int l2), some (.int l3)] [] w := by
  refine (bu (ls'' := [some (.int l0), some (.int l1), some (.int l2), some (.int l3)]) (st' := [.int l3]) bf69_16 bf69_17 rfl rfl).trans ?_
  refine (bu (ls'' := [some (.int l0), some (.int l1), some (.int l2), some (.int l3)]) (st' := [.int (nI 10), .int l3]) bf69_17 bf69_19 rfl rfl).trans ?_
  exact bic bf69_19 rfl bf69_42 bf69_22 rfl rfl rfl
theorem bk69_42 {w : am_Wd} {l1 : Int32} : am_run 69 42 [none, some (.int l1), none, none] [] w = some (.inl (some (.int ((nI 10) + l1))), w) := by
  refine (bu (ls'' := [none, some (.int l1), none, none]) (st' := [.int (nI 10)]) bf69_42 bf69_44 rfl rfl).trans ?_
  refine (bu (ls'' := [none, none, none, none]) (st' := [.int l1, .int (nI 10)]) bf69_44 bf69_45 rfl rfl).trans ?_
  refine (bu (ls'' := [none, none, none, none]) (st' := [.int ((nI 10) + l1)]) bf69_45 bf69_46 rfl rfl).trans ?_
  exact am_e2 bf69_46 rfl (am_ge_rf w)
theorem bk69_22 {w : am_Wd} {l0 : Int32} {l1 : Int32} {l2 : Int32} {l3 : Int32} : am_run 69 22 [some (.int l0), some (.int l1), some (.int l2), some (.int l3)] [] w = if l0 ≤ l2 then am_run 69 31 [some (.int l0), some (.int l1), some (.int l2), some (.int l3)] [] w else am_run 69 27 [none, some (.int l1), none, some (.int l3)] [] w := by
  refine (bu (ls'' := [some (.int l0), some (.int l1), some (.int l2), some (.int l3)]) (st' := [.int l0]) bf69_22 bf69_23 rfl rfl).trans ?_
  refine (bu (ls'' := [some (.int l0), some (.int l1), some (.int l2), some (.int l3)]) (st' := [.int l2, .int l0]) bf69_23 bf69_24 rfl rfl).trans ?_
  exact bic bf69_24 rfl bf69_31 bf69_27 rfl rfl rfl
theorem bk69_31 {w : am_Wd} {l0 : Int32} {l1 : Int32} {l2 : Int32} {l3 : Int32} : am_run 69 31 [some (.int l0), some (.int l1), some (.int l2), some (.int l3)] [] w = am_run 69 16 [some (.int l0), some (.int l1), some (.int ((nI 10) * l2)), some (.int (l3 + (nI 1)))] [] w := by
  refine (bu (ls'' := [some (.int l0), some (.int l1), some (.int l2), some (.int l3)]) (st' := [.int (nI 10)]) bf69_31 bf69_33 rfl rfl).trans ?_
  refine (bu (ls'' := [some (.int l0), some (.int l1), none, some (.int l3)]) (st' := [.int l2, .int (nI 10)]) bf69_33 bf69_34 rfl rfl).trans ?_
  refine (bu (ls'' := [some (.int l0), some (.int l1), none, some (.int l3)]) (st' := [.int ((nI 10) * l2)]) bf69_34 bf69_35 rfl rfl).trans ?_
  refine (bu (ls'' := [some (.int l0), some (.int l1), some (.int ((nI 10) * l2)), some (.int l3)]) (st' := []) bf69_35 bf69_36 rfl rfl).trans ?_
  refine (bu (ls'' := [some (.int l0), some (.int l1), some (.int ((nI 10) * l2)), some (.int (l3 + (nI 1)))]) (st' := []) bf69_36 bf69_39 rfl rfl).trans ?_
  refine (bu (ls'' := [some (.int l0), some (.int l1), some (.int ((nI 10) * l2)), some (.int (l3 + (nI 1)))]) (st' := []) bf69_39 bf69_16 rfl rfl).trans ?_
  rfl
theorem bk69_27 {w : am_Wd} {l1 : Int32} {l3 : Int32} : am_run 69 27 [none, some (.int l1), none, some (.int l3)] [] w = some (.inl (some (.int (l3 + l1))), w) := by
  refine (bu (ls'' := [none, some (.int l1), none, none]) (st' := [.int l3]) bf69_27 bf69_28 rfl rfl).trans ?_
  refine (bu (ls'' := [none, none, none, none]) (st' := [.int l1, .int l3]) bf69_28 bf69_29 rfl rfl).trans ?_
  refine (bu (ls'' := [none, none, none, none]) (st' := [.int (l3 + l1)]) bf69_29 bf69_30 rfl rfl).trans ?_
  exact am_e2 bf69_30 rfl (am_ge_rf w)
theorem bf70_0 : am_fetch (am_mth 70) 0 = some (.iload_n 1, 1, [], []) := by decide +kernel
theorem bf70_1 : am_fetch (am_mth 70) 1 = some (.iload_n 0, 1, [], [1]) := by decide +kernel
theorem bf70_2 : am_fetch (am_mth 70) 2 = some (.if_icmp .ge 35, 3, [], [0, 1]) := by decide +kernel
theorem bf70_36 : am_fetch (am_mth 70) 36 = some (.athrow, 1, [], [0, 1]) := by decide +kernel
theorem bf70_37 : am_fetch (am_mth 70) 37 = some (.return_, 1, [], [0, 1]) := by decide +kernel
theorem bk70_0 {w : am_Wd} {l0 : Int32} {l1 : Int32} (hq : l0 ≤ l1) : am_run 70 0 [some (.int l0), some (.int l1)] [] w = am_run 70 37 [none, none] [] w := by
  refine (bu (ls'' := [some (.int l0), none]) (st' := [.int l1]) bf70_0 bf70_1 rfl rfl).trans ?_
  refine (bu (ls'' := [none, none]) (st' := [.int l0, .int l1]) bf70_1 bf70_2 rfl rfl).trans ?_
  refine bu (ls' := [none, none]) bf70_2 bf70_37 ?_ rfl
  show am_br (decide (l0 ≤ l1)) 2 35 _ _ _ = _
  rw [decide_eq_true hq]
  rfl
theorem bk70_37 {w : am_Wd}  : am_run 70 37 [none, none] [] w = some (.inl none, w) := by
  exact am_e2 bf70_37 rfl (am_ge_rf w)
theorem bf108_0 : am_fetch (am_mth 108) 0 = some (.iload_n 0, 1, [], []) := by decide +kernel
theorem bf108_1 : am_fetch (am_mth 108) 1 = some (.iload_n 1, 1, [], [0]) := by decide +kernel
theorem bf108_2 : am_fetch (am_mth 108) 2 = some (.getstatic 1053, 3, [1, 4, 933], [0, 1]) := by decide +kernel
theorem bf108_5 : am_fetch (am_mth 108) 5 = some (.invokestatic 1059, 3, [0, 58, 3, 956, 957, 71], [0, 1]) := by decide +kernel
theorem bf108_8 : am_fetch (am_mth 108) 8 = some (.pop, 1, [], [0, 1]) := by decide +kernel
theorem bf108_9 : am_fetch (am_mth 108) 9 = some (.return_, 1, [], [0, 1]) := by decide +kernel
theorem bk108_0 {w : am_Wd} {l0 : Int32} {l1 : Int32} {sg : Nat} (hg : w.2.2.2 4 = some sg) : am_run 108 0 [some (.int l0), some (.int l1)] [] w = am_run 108 5 [none, none] (.ref sg :: [.int l1, .int l0]) w := by
  refine (bu (ls'' := [none, some (.int l1)]) (st' := [.int l0]) bf108_0 bf108_1 rfl rfl).trans ?_
  refine (bu (ls'' := [none, none]) (st' := [.int l1, .int l0]) bf108_1 bf108_2 rfl rfl).trans ?_
  exact bu (ls'' := [none, none]) (st' := .ref sg :: [.int l1, .int l0]) bf108_2 bf108_5 (by show some _ = _; rw [hg]; rfl) rfl
theorem bk108_5 {w : am_Wd} {s0 : Nat} {s1 : Int32} {s2 : Int32} : am_run 108 5 [none, none] [.ref s0, .int s1, .int s2] w = (am_x 58 [.int s2, .int s1, .ref s0] w).bind fun r => bct r fun v w' => am_run 108 8 [none, none] (v.toList ++ []) w' := by
  exact bkS bf108_5 bf108_8 rfl (by decide +kernel) (Nat.le_of_ble_eq_true rfl) rfl (bhd rfl)
theorem bk108_8 {w : am_Wd} {s0 : Int32} : am_run 108 8 [none, none] [.int s0] w = some (.inl none, w) := by
  refine (bu (ls'' := [none, none]) (st' := []) bf108_8 bf108_9 rfl rfl).trans ?_
  exact am_e2 bf108_9 rfl (am_ge_rf w)
theorem bf109_0 : am_fetch (am_mth 109) 0 = some (.aload_n 0, 1, [], []) := by decide +kernel
theorem bf109_1 : am_fetch (am_mth 109) 1 = some (.invokevirtual 335, 3, [0, 59, 0, 0, 1054, 1055, 1056, 75], []) := by decide +kernel
theorem bf109_4 : am_fetch (am_mth 109) 4 = some (.iload_n 3, 1, [], []) := by decide +kernel
theorem bf109_5 : am_fetch (am_mth 109) 5 = some (.if_icmp .ne 23, 3, [], []) := by decide +kernel
theorem bf109_8 : am_fetch (am_mth 109) 8 = some (.aload_n 0, 1, [], []) := by decide +kernel
theorem bf109_9 : am_fetch (am_mth 109) 9 = some (.getfield 9, 3, [0, 0, 0, 1089], []) := by decide +kernel
theorem bf109_12 : am_fetch (am_mth 109) 12 = some (.iconst 0, 1, [], []) := by decide +kernel
theorem bf109_13 : am_fetch (am_mth 109) 13 = some (.aload_n 1, 1, [], []) := by decide +kernel
theorem bf109_14 : am_fetch (am_mth 109) 14 = some (.iload_n 2, 1, [], [1]) := by decide +kernel
theorem bf109_15 : am_fetch (am_mth 109) 15 = some (.iload_n 3, 1, [], [1, 2]) := by decide +kernel
theorem bf109_16 : am_fetch (am_mth 109) 16 = some (.ishl, 1, [], [1, 2, 3]) := by decide +kernel
theorem bf109_17 : am_fetch (am_mth 109) 17 = some (.aload_n 0, 1, [], [1, 2, 3]) := by decide +kernel
theorem bf109_18 : am_fetch (am_mth 109) 18 = some (.getfield 9, 3, [0, 0, 0, 1089], [0, 1, 2, 3]) := by decide +kernel
theorem bf109_21 : am_fetch (am_mth 109) 21 = some (.arraylength, 1, [], [0, 1, 2, 3]) := by decide +kernel
theorem bf109_22 : am_fetch (am_mth 109) 22 = some (.invokestatic 212, 3, [4, 1072, 905, 904, 69], [0, 1, 2, 3]) := by decide +kernel
theorem bf109_25 : am_fetch (am_mth 109) 25 = some (.goto 18, 3, [], [0, 1, 2, 3]) := by decide +kernel
theorem bf109_28 : am_fetch (am_mth 109) 28 = some (.aload_n 0, 1, [], [3]) := by decide +kernel
theorem bf109_29 : am_fetch (am_mth 109) 29 = some (.getfield 9, 3, [0, 0, 0, 1089], [3]) := by decide +kernel
theorem bf109_32 : am_fetch (am_mth 109) 32 = some (.iconst 0, 1, [], [3]) := by decide +kernel
theorem bf109_33 : am_fetch (am_mth 109) 33 = some (.aload_n 1, 1, [], [3]) := by decide +kernel
theorem bf109_34 : am_fetch (am_mth 109) 34 = some (.iload_n 2, 1, [], [1, 3]) := by decide +kernel
theorem bf109_35 : am_fetch (am_mth 109) 35 = some (.aload_n 0, 1, [], [1, 2, 3]) := by decide +kernel
theorem bf109_36 : am_fetch (am_mth 109) 36 = some (.getfield 9, 3, [0, 0, 0, 1089], [0, 1, 2, 3]) := by decide +kernel
theorem bf109_39 : am_fetch (am_mth 109) 39 = some (.arraylength, 1, [], [0, 1, 2, 3]) := by decide +kernel
theorem bf109_40 : am_fetch (am_mth 109) 40 = some (.invokestatic 106, 3, [], [0, 1, 2, 3]) := by decide +kernel
theorem bf109_43 : am_fetch (am_mth 109) 43 = some (.return_, 1, [], [0, 1, 2, 3]) := by decide +kernel
theorem bk109_0 {w : am_Wd} {l0 : Nat} {l1 : Nat} {l2 : Int32} {l3 : Int32} : am_run 109 0 [some (.ref l0), some (.ref l1), some (.int l2), some (.int l3)] [] w = (am_kf w l0 0).bind fun _ => (am_x 59 [.ref l0] w).bind fun r => bct r fun v w' => am_run 109 4 [some (.ref l0), some (.ref l1), some (.int l2), some (.int l3)] (v.toList ++ []) w' := by
  refine (bu (ls'' := [some (.ref l0), some (.ref l1), some (.int l2), some (.int l3)]) (st' := [.ref l0]) bf109_0 bf109_1 rfl rfl).trans ?_
  exact bkV bf109_1 bf109_4 rfl (by decide +kernel) (Nat.le_of_ble_eq_true rfl) rfl (bhd rfl)
theorem bk109_4 {w : am_Wd} {l0 : Nat} {l1 : Nat} {l2 : Int32} {l3 : Int32} {s0 : Int32} : am_run 109 4 [some (.ref l0), some (.ref l1), some (.int l2), some (.int l3)] [.int s0] w = if ¬ s0 = l3 then am_run 109 28 [some (.ref l0), some (.ref l1), some (.int l2), none] [] w else am_run 109 8 [some (.ref l0), some (.ref l1), some (.int l2), some (.int l3)] [] w := by
  refine (bu (ls'' := [some (.ref l0), some (.ref l1), some (.int l2), some (.int l3)]) (st' := [.int l3, .int s0]) bf109_4 bf109_5 rfl rfl).trans ?_
  exact bic bf109_5 rfl bf109_28 bf109_8 rfl rfl rfl
theorem bk109_28 {w : am_Wd} {l0 : Nat} {l1 : Nat} {l2 : Int32} : am_run 109 28 [some (.ref l0), some (.ref l1), some (.int l2), none] [] w = (am_gf w l0 0 0).bind fun v => am_run 109 32 [some (.ref l0), some (.ref l1), some (.int l2), none] (v :: []) w := by
  refine (bu (ls'' := [some (.ref l0), some (.ref l1), some (.int l2), none]) (st' := [.ref l0]) bf109_28 bf109_29 rfl rfl).trans ?_
  exact bh bf109_29 bf109_32 rfl (fun _ _ => am_ge_rf w) rfl
theorem bk109_8 {w : am_Wd} {l0 : Nat} {l1 : Nat} {l2 : Int32} {l3 : Int32} : am_run 109 8 [some (.ref l0), some (.ref l1), some (.int l2), some (.int l3)] [] w = (am_gf w l0 0 0).bind fun v => am_run 109 12 [some (.ref l0), some (.ref l1), some (.int l2), some (.int l3)] (v :: []) w := by
  refine (bu (ls'' := [some (.ref l0), some (.ref l1), some (.int l2), some (.int l3)]) (st' := [.ref l0]) bf109_8 bf109_9 rfl rfl).trans ?_
  exact bh bf109_9 bf109_12 rfl (fun _ _ => am_ge_rf w) rfl
theorem bk109_32 {w : am_Wd} {l0 : Nat} {l1 : Nat} {l2 : Int32} {s0 : Nat} : am_run 109 32 [some (.ref l0), some (.ref l1), some (.int l2), none] [.ref s0] w = (am_gf w l0 0 0).bind fun v => am_run 109 39 [none, none, none, none] (v :: [.int l2, .ref l1, .int (nI 0), .ref s0]) w := by
  refine (bu (ls'' := [some (.ref l0), some (.ref l1), some (.int l2), none]) (st' := [.int (nI 0), .ref s0]) bf109_32 bf109_33 rfl rfl).trans ?_
  refine (bu (ls'' := [some (.ref l0), none, some (.int l2), none]) (st' := [.ref l1, .int (nI 0), .ref s0]) bf109_33 bf109_34 rfl rfl).trans ?_
  refine (bu (ls'' := [some (.ref l0), none, none, none]) (st' := [.int l2, .ref l1, .int (nI 0), .ref s0]) bf109_34 bf109_35 rfl rfl).trans ?_
  refine (bu (ls'' := [none, none, none, none]) (st' := [.ref l0, .int l2, .ref l1, .int (nI 0), .ref s0]) bf109_35 bf109_36 rfl rfl).trans ?_
  exact bh bf109_36 bf109_39 rfl (fun _ _ => am_ge_rf w) rfl
theorem bk109_12 {w : am_Wd} {l0 : Nat} {l1 : Nat} {l2 : Int32} {l3 : Int32} {s0 : Nat} : am_run 109 12 [some (.ref l0), some (.ref l1), some (.int l2), some (.int l3)] [.ref s0] w = (am_gf w l0 0 0).bind fun v => am_run 109 21 [none, none, none, none] (v :: [.int (bj_ishl l2 l3), .ref l1, .int (nI 0), .ref s0]) w := by
  refine (bu (ls'' := [some (.ref l0), some (.ref l1), some (.int l2), some (.int l3)]) (st' := [.int (nI 0), .ref s0]) bf109_12 bf109_13 rfl rfl).trans ?_
  refine (bu (ls'' := [some (.ref l0), none, some (.int l2), some (.int l3)]) (st' := [.ref l1, .int (nI 0), .ref s0]) bf109_13 bf109_14 rfl rfl).trans ?_
  refine (bu (ls'' := [some (.ref l0), none, none, some (.int l3)]) (st' := [.int l2, .ref l1, .int (nI 0), .ref s0]) bf109_14 bf109_15 rfl rfl).trans ?_
  refine (bu (ls'' := [some (.ref l0), none, none, none]) (st' := [.int l3, .int l2, .ref l1, .int (nI 0), .ref s0]) bf109_15 bf109_16 rfl rfl).trans ?_
  refine (bu (ls'' := [some (.ref l0), none, none, none]) (st' := [.int (bj_ishl l2 l3), .ref l1, .int (nI 0), .ref s0]) bf109_16 bf109_17 rfl rfl).trans ?_
  refine (bu (ls'' := [none, none, none, none]) (st' := [.ref l0, .int (bj_ishl l2 l3), .ref l1, .int (nI 0), .ref s0]) bf109_17 bf109_18 rfl rfl).trans ?_
  exact bh bf109_18 bf109_21 rfl (fun _ _ => am_ge_rf w) rfl
theorem bk109_39 {w : am_Wd} {s0 : Nat} {s1 : Int32} {s2 : Nat} {s3 : Int32} {s4 : Nat} : am_run 109 39 [none, none, none, none] [.ref s0, .int s1, .ref s2, .int s3, .ref s4] w = (am_len w s0).bind fun v => am_run 109 40 [none, none, none, none] (.int (nI v) :: [.int s1, .ref s2, .int s3, .ref s4]) w := by
  exact bh bf109_39 bf109_40 rfl (fun _ _ => am_ge_rf w) rfl
theorem bk109_21 {w : am_Wd} {s0 : Nat} {s1 : Int32} {s2 : Nat} {s3 : Int32} {s4 : Nat} : am_run 109 21 [none, none, none, none] [.ref s0, .int s1, .ref s2, .int s3, .ref s4] w = (am_len w s0).bind fun v => am_run 109 22 [none, none, none, none] (.int (nI v) :: [.int s1, .ref s2, .int s3, .ref s4]) w := by
  exact bh bf109_21 bf109_22 rfl (fun _ _ => am_ge_rf w) rfl
-- bk109_40: list index out of range
theorem bk109_22 {w : am_Wd} {s0 : Int32} {s1 : Int32} {s2 : Nat} {s3 : Int32} {s4 : Nat} : am_run 109 22 [none, none, none, none] [.int s0, .int s1, .ref s2, .int s3, .ref s4] w = (am_cy w s4 s3 s2 s1 s0).bind fun w' => am_run 109 25 [none, none, none, none] [] w' := by
  exact bh bf109_22 bf109_25 rfl (bge_cy) rfl
theorem bk109_25 {w : am_Wd}  : am_run 109 25 [none, none, none, none] [] w = am_run 109 43 [none, none, none, none] [] w := by
  refine (bu (ls'' := [none, none, none, none]) (st' := []) bf109_25 bf109_43 rfl rfl).trans ?_
  rfl
theorem bk109_43 {w : am_Wd}  : am_run 109 43 [none, none, none, none] [] w = some (.inl none, w) := by
  exact am_e2 bf109_43 rfl (am_ge_rf w)
theorem bf110_0 : am_fetch (am_mth 110) 0 = some (.aload_n 0, 1, [], []) := by decide +kernel
theorem bf110_1 : am_fetch (am_mth 110) 1 = some (.getfield 9, 3, [0, 0, 0, 1089], []) := by decide +kernel
theorem bf110_4 : am_fetch (am_mth 110) 4 = some (.arraylength, 1, [], []) := by decide +kernel
theorem bf110_5 : am_fetch (am_mth 110) 5 = some (.aload_n 0, 1, [], []) := by decide +kernel
theorem bf110_6 : am_fetch (am_mth 110) 6 = some (.invokevirtual 335, 3, [0, 59, 0, 0, 1054, 1055, 1056, 75], [0]) := by decide +kernel
theorem bf110_9 : am_fetch (am_mth 110) 9 = some (.ishr, 1, [], [0]) := by decide +kernel
theorem bf110_10 : am_fetch (am_mth 110) 10 = some (.ireturn, 1, [0], [0]) := by decide +kernel
theorem bk110_0 {w : am_Wd} {l0 : Nat} : am_run 110 0 [some (.ref l0)] [] w = (am_gf w l0 0 0).bind fun v => am_run 110 4 [some (.ref l0)] (v :: []) w := by
  refine (bu (ls'' := [some (.ref l0)]) (st' := [.ref l0]) bf110_0 bf110_1 rfl rfl).trans ?_
  exact bh bf110_1 bf110_4 rfl (fun _ _ => am_ge_rf w) rfl
theorem bk110_4 {w : am_Wd} {l0 : Nat} {s0 : Nat} : am_run 110 4 [some (.ref l0)] [.ref s0] w = (am_len w s0).bind fun v => am_run 110 5 [some (.ref l0)] (.int (nI v) :: []) w := by
  exact bh bf110_4 bf110_5 rfl (fun _ _ => am_ge_rf w) rfl
theorem bk110_5 {w : am_Wd} {l0 : Nat} {s0 : Int32} : am_run 110 5 [some (.ref l0)] [.int s0] w = (am_kf w l0 0).bind fun _ => (am_x 59 [.ref l0] w).bind fun r => bct r fun v w' => am_run 110 9 [none] (v.toList ++ [.int s0]) w' := by
  refine (bu (ls'' := [none]) (st' := [.ref l0, .int s0]) bf110_5 bf110_6 rfl rfl).trans ?_
  exact bkV bf110_6 bf110_9 rfl (by decide +kernel) (Nat.le_of_ble_eq_true rfl) rfl (bhd rfl)
theorem bk110_9 {w : am_Wd} {s0 : Int32} {s1 : Int32} : am_run 110 9 [none] [.int s0, .int s1] w = some (.inl (some (.int (bj_ishr s1 s0))), w) := by
  refine (bu (ls'' := [none]) (st' := [.int (bj_ishr s1 s0)]) bf110_9 bf110_10 rfl rfl).trans ?_
  exact am_e2 bf110_10 rfl (am_ge_rf w)
theorem bf111_0 : am_fetch (am_mth 111) 0 = some (.aload_n 0, 1, [], []) := by decide +kernel
theorem bf111_1 : am_fetch (am_mth 111) 1 = some (.bipush 16, 2, [], [0]) := by decide +kernel
theorem bf111_3 : am_fetch (am_mth 111) 3 = some (.invokespecial 1, 3, [0, 65, 1, 840, 841, 73], [0]) := by decide +kernel
theorem bf111_6 : am_fetch (am_mth 111) 6 = some (.return_, 1, [], [0]) := by decide +kernel
theorem bk111_0 {w : am_Wd} {l0 : Nat} : am_run 111 0 [some (.ref l0)] [] w = (am_x 65 [.ref l0, .int (nI 16)] w).bind fun r => bct r fun v w' => am_run 111 6 [none] (v.toList ++ []) w' := by
  refine (bu (ls'' := [none]) (st' := [.ref l0]) bf111_0 bf111_1 rfl rfl).trans ?_
  refine (bu (ls'' := [none]) (st' := [.int (nI 16), .ref l0]) bf111_1 bf111_3 rfl rfl).trans ?_
  exact bkS bf111_3 bf111_6 rfl (by decide +kernel) (Nat.le_of_ble_eq_true rfl) rfl (bhd rfl)
theorem bk111_6 {w : am_Wd}  : am_run 111 6 [none] [] w = some (.inl none, w) := by
  exact am_e2 bf111_6 rfl (am_ge_rf w)
theorem bf112_0 : am_fetch (am_mth 112) 0 = some (.aload_n 0, 1, [], []) := by decide +kernel
theorem bf112_1 : am_fetch (am_mth 112) 1 = some (.invokespecial 343, 3, [2, 67, 0, 1, 986, 982, 865, 981, 73], [0]) := by decide +kernel
theorem bf112_4 : am_fetch (am_mth 112) 4 = some (.ireturn, 1, [0], [0]) := by decide +kernel
theorem bk112_0 {w : am_Wd} {l0 : Nat} : am_run 112 0 [some (.ref l0)] [] w = (am_kf w l0 1).bind fun _ => (am_x 67 [.ref l0] w).bind fun r => bct r fun v w' => am_run 112 4 [none] (v.toList ++ []) w' := by
  refine (bu (ls'' := [none]) (st' := [.ref l0]) bf112_0 bf112_1 rfl rfl).trans ?_
  exact bkV bf112_1 bf112_4 rfl (by decide +kernel) (Nat.le_of_ble_eq_true rfl) rfl (bhd rfl)
theorem bk112_4 {w : am_Wd} {s0 : Int32} : am_run 112 4 [none] [.int s0] w = some (.inl (some (.int s0)), w) := by
  exact am_e2 bf112_4 rfl (am_ge_rf w)
theorem bf113_0 : am_fetch (am_mth 113) 0 = some (.aload_n 0, 1, [], []) := by decide +kernel
theorem bf113_1 : am_fetch (am_mth 113) 1 = some (.aload_n 0, 1, [], []) := by decide +kernel
theorem bf113_2 : am_fetch (am_mth 113) 2 = some (.getfield 79, 3, [0, 1, 3, 856], []) := by decide +kernel
theorem bf113_5 : am_fetch (am_mth 113) 5 = some (.iconst 1, 1, [], []) := by decide +kernel
theorem bf113_6 : am_fetch (am_mth 113) 6 = some (.iadd, 1, [], []) := by decide +kernel
theorem bf113_7 : am_fetch (am_mth 113) 7 = some (.invokevirtual 100, 3, [2, 63, 1, 1, 877, 1711, 1745, 879, 73], []) := by decide +kernel
theorem bf113_10 : am_fetch (am_mth 113) 10 = some (.aload_n 0, 1, [], []) := by decide +kernel
theorem bf113_11 : am_fetch (am_mth 113) 11 = some (.invokevirtual 83, 3, [2, 66, 0, 1, 906, 908, 909, 907, 73], []) := by decide +kernel
theorem bf113_14 : am_fetch (am_mth 113) 14 = some (.ifCond .eq 31, 3, [], []) := by decide +kernel
theorem bf113_17 : am_fetch (am_mth 113) 17 = some (.iload_n 1, 1, [], []) := by decide +kernel
theorem bf113_18 : am_fetch (am_mth 113) 18 = some (.invokestatic 191, 3, [0, 62, 1, 911, 912, 77], []) := by decide +kernel
theorem bf113_21 : am_fetch (am_mth 113) 21 = some (.ifCond .eq 24, 3, [], []) := by decide +kernel
theorem bf113_24 : am_fetch (am_mth 113) 24 = some (.aload_n 0, 1, [], []) := by decide +kernel
theorem bf113_25 : am_fetch (am_mth 113) 25 = some (.getfield 15, 3, [0, 1, 0, 853], []) := by decide +kernel
theorem bf113_28 : am_fetch (am_mth 113) 28 = some (.aload_n 0, 1, [], []) := by decide +kernel
theorem bf113_29 : am_fetch (am_mth 113) 29 = some (.dup, 1, [], []) := by decide +kernel
theorem bf113_30 : am_fetch (am_mth 113) 30 = some (.getfield 79, 3, [0, 1, 3, 856], []) := by decide +kernel
theorem bf113_33 : am_fetch (am_mth 113) 33 = some (.dup_x1, 1, [], []) := by decide +kernel
theorem bf113_34 : am_fetch (am_mth 113) 34 = some (.iconst 1, 1, [], []) := by decide +kernel
theorem bf113_35 : am_fetch (am_mth 113) 35 = some (.iadd, 1, [], []) := by decide +kernel
theorem bf113_36 : am_fetch (am_mth 113) 36 = some (.putfield 79, 3, [0, 1, 3, 856], []) := by decide +kernel
theorem bf113_39 : am_fetch (am_mth 113) 39 = some (.iload_n 1, 1, [], []) := by decide +kernel
theorem bf113_40 : am_fetch (am_mth 113) 40 = some (.i2b, 1, [], [1]) := by decide +kernel
theorem bf113_41 : am_fetch (am_mth 113) 41 = some (.bastore, 1, [3], [1]) := by decide +kernel
theorem bf113_42 : am_fetch (am_mth 113) 42 = some (.goto 33, 3, [], [1]) := by decide +kernel
theorem bf113_45 : am_fetch (am_mth 113) 45 = some (.aload_n 0, 1, [], []) := by decide +kernel
theorem bf113_46 : am_fetch (am_mth 113) 46 = some (.invokevirtual 83, 3, [2, 66, 0, 1, 906, 908, 909, 907, 73], []) := by decide +kernel
theorem bf113_49 : am_fetch (am_mth 113) 49 = some (.ifCond .eq 7, 3, [], []) := by decide +kernel
theorem bf113_52 : am_fetch (am_mth 113) 52 = some (.aload_n 0, 1, [], []) := by decide +kernel
theorem bf113_53 : am_fetch (am_mth 113) 53 = some (.invokevirtual 195, 3, [], []) := by decide +kernel
theorem bf113_56 : am_fetch (am_mth 113) 56 = some (.aload_n 0, 1, [], []) := by decide +kernel
theorem bf113_57 : am_fetch (am_mth 113) 57 = some (.getfield 15, 3, [0, 1, 0, 853], []) := by decide +kernel
theorem bf113_60 : am_fetch (am_mth 113) 60 = some (.aload_n 0, 1, [], []) := by decide +kernel
theorem bf113_61 : am_fetch (am_mth 113) 61 = some (.dup, 1, [], []) := by decide +kernel
theorem bf113_62 : am_fetch (am_mth 113) 62 = some (.getfield 79, 3, [0, 1, 3, 856], []) := by decide +kernel
theorem bf113_65 : am_fetch (am_mth 113) 65 = some (.dup_x1, 1, [], []) := by decide +kernel
theorem bf113_66 : am_fetch (am_mth 113) 66 = some (.iconst 1, 1, [], []) := by decide +kernel
theorem bf113_67 : am_fetch (am_mth 113) 67 = some (.iadd, 1, [], []) := by decide +kernel
theorem bf113_68 : am_fetch (am_mth 113) 68 = some (.putfield 79, 3, [0, 1, 3, 856], []) := by decide +kernel
theorem bf113_71 : am_fetch (am_mth 113) 71 = some (.iload_n 1, 1, [], []) := by decide +kernel
theorem bf113_72 : am_fetch (am_mth 113) 72 = some (.invokestatic 197, 3, [], [1]) := by decide +kernel
theorem bf113_75 : am_fetch (am_mth 113) 75 = some (.aload_n 0, 1, [], [1]) := by decide +kernel
theorem bf113_76 : am_fetch (am_mth 113) 76 = some (.areturn, 1, [], [0, 1]) := by decide +kernel
theorem bk113_0 {w : am_Wd} {l0 : Nat} {l1 : Int32} : am_run 113 0 [some (.ref l0), some (.int l1)] [] w = (am_gf w l0 1 3).bind fun v => am_run 113 5 [some (.ref l0), some (.int l1)] (v :: [.ref l0]) w := by
  refine (bu (ls'' := [some (.ref l0), some (.int l1)]) (st' := [.ref l0]) bf113_0 bf113_1 rfl rfl).trans ?_
  refine (bu (ls'' := [some (.ref l0), some (.int l1)]) (st' := [.ref l0, .ref l0]) bf113_1 bf113_2 rfl rfl).trans ?_
  exact bh bf113_2 bf113_5 rfl (fun _ _ => am_ge_rf w) rfl
theorem bk113_5 {w : am_Wd} {l0 : Nat} {l1 : Int32} {s0 : Int32} {s1 : Nat} : am_run 113 5 [some (.ref l0), some (.int l1)] [.int s0, .ref s1] w = (am_kf w s1 1).bind fun _ => (am_x 63 [.ref s1, .int (s0 + (nI 1))] w).bind fun r => bct r fun v w' => am_run 113 10 [some (.ref l0), some (.int l1)] (v.toList ++ []) w' := by
  refine (bu (ls'' := [some (.ref l0), some (.int l1)]) (st' := [.int (nI 1), .int s0, .ref s1]) bf113_5 bf113_6 rfl rfl).trans ?_
  refine (bu (ls'' := [some (.ref l0), some (.int l1)]) (st' := [.int (s0 + (nI 1)), .ref s1]) bf113_6 bf113_7 rfl rfl).trans ?_
  exact bkV bf113_7 bf113_10 rfl (by decide +kernel) (Nat.le_of_ble_eq_true rfl) rfl (bhd rfl)
theorem bk113_10 {w : am_Wd} {l0 : Nat} {l1 : Int32} : am_run 113 10 [some (.ref l0), some (.int l1)] [] w = (am_kf w l0 1).bind fun _ => (am_x 66 [.ref l0] w).bind fun r => bct r fun v w' => am_run 113 14 [some (.ref l0), some (.int l1)] (v.toList ++ []) w' := by
  refine (bu (ls'' := [some (.ref l0), some (.int l1)]) (st' := [.ref l0]) bf113_10 bf113_11 rfl rfl).trans ?_
  exact bkV bf113_11 bf113_14 rfl (by decide +kernel) (Nat.le_of_ble_eq_true rfl) rfl (bhd rfl)
theorem bk113_14 {w : am_Wd} {l0 : Nat} {l1 : Int32} {s0 : Int32} : am_run 113 14 [some (.ref l0), some (.int l1)] [.int s0] w = if s0 = nI 0 then am_run 113 45 [some (.ref l0), some (.int l1)] [] w else am_run 113 17 [some (.ref l0), some (.int l1)] [] w := by
  exact bifc bf113_14 rfl bf113_45 bf113_17 rfl rfl rfl
theorem bk113_45 {w : am_Wd} {l0 : Nat} {l1 : Int32} : am_run 113 45 [some (.ref l0), some (.int l1)] [] w = (am_kf w l0 1).bind fun _ => (am_x 66 [.ref l0] w).bind fun r => bct r fun v w' => am_run 113 49 [some (.ref l0), some (.int l1)] (v.toList ++ []) w' := by
  refine (bu (ls'' := [some (.ref l0), some (.int l1)]) (st' := [.ref l0]) bf113_45 bf113_46 rfl rfl).trans ?_
  exact bkV bf113_46 bf113_49 rfl (by decide +kernel) (Nat.le_of_ble_eq_true rfl) rfl (bhd rfl)
theorem bk113_17 {w : am_Wd} {l0 : Nat} {l1 : Int32} : am_run 113 17 [some (.ref l0), some (.int l1)] [] w = (am_x 62 [.int l1] w).bind fun r => bct r fun v w' => am_run 113 21 [some (.ref l0), some (.int l1)] (v.toList ++ []) w' := by
  refine (bu (ls'' := [some (.ref l0), some (.int l1)]) (st' := [.int l1]) bf113_17 bf113_18 rfl rfl).trans ?_
  exact bkS bf113_18 bf113_21 rfl (by decide +kernel) (Nat.le_of_ble_eq_true rfl) rfl (bhd rfl)
theorem bk113_49 {w : am_Wd} {l0 : Nat} {l1 : Int32} {s0 : Int32} : am_run 113 49 [some (.ref l0), some (.int l1)] [.int s0] w = if s0 = nI 0 then am_run 113 56 [some (.ref l0), some (.int l1)] [] w else am_run 113 52 [some (.ref l0), some (.int l1)] [] w := by
  exact bifc bf113_49 rfl bf113_56 bf113_52 rfl rfl rfl
theorem bk113_21 {w : am_Wd} {l0 : Nat} {l1 : Int32} {s0 : Int32} : am_run 113 21 [some (.ref l0), some (.int l1)] [.int s0] w = if s0 = nI 0 then am_run 113 45 [some (.ref l0), some (.int l1)] [] w else am_run 113 24 [some (.ref l0), some (.int l1)] [] w := by
  exact bifc bf113_21 rfl bf113_45 bf113_24 rfl rfl rfl
theorem bk113_56 {w : am_Wd} {l0 : Nat} {l1 : Int32} : am_run 113 56 [some (.ref l0), some (.int l1)] [] w = (am_gf w l0 1 0).bind fun v => am_run 113 60 [some (.ref l0), some (.int l1)] (v :: []) w := by
  refine (bu (ls'' := [some (.ref l0), some (.int l1)]) (st' := [.ref l0]) bf113_56 bf113_57 rfl rfl).trans ?_
  exact bh bf113_57 bf113_60 rfl (fun _ _ => am_ge_rf w) rfl
-- bk113_52: list index out of range
theorem bk113_24 {w : am_Wd} {l0 : Nat} {l1 : Int32} : am_run 113 24 [some (.ref l0), some (.int l1)] [] w = (am_gf w l0 1 0).bind fun v => am_run 113 28 [some (.ref l0), some (.int l1)] (v :: []) w := by
  refine (bu (ls'' := [some (.ref l0), some (.int l1)]) (st' := [.ref l0]) bf113_24 bf113_25 rfl rfl).trans ?_
  exact bh bf113_25 bf113_28 rfl (fun _ _ => am_ge_rf w) rfl
theorem bk113_60 {w : am_Wd} {l0 : Nat} {l1 : Int32} {s0 : Nat} : am_run 113 60 [some (.ref l0), some (.int l1)] [.ref s0] w = (am_gf w l0 1 3).bind fun v => am_run 113 65 [some (.ref l0), some (.int l1)] (v :: [.ref l0, .ref s0]) w := by
  refine (bu (ls'' := [some (.ref l0), some (.int l1)]) (st' := [.ref l0, .ref s0]) bf113_60 bf113_61 rfl rfl).trans ?_
  refine (bu (ls'' := [some (.ref l0), some (.int l1)]) (st' := [.ref l0, .ref l0, .ref s0]) bf113_61 bf113_62 rfl rfl).trans ?_
  exact bh bf113_62 bf113_65 rfl (fun _ _ => am_ge_rf w) rfl
theorem bk113_28 {w : am_Wd} {l0 : Nat} {l1 : Int32} {s0 : Nat} : am_run 113 28 [some (.ref l0), some (.int l1)] [.ref s0] w = (am_gf w l0 1 3).bind fun v => am_run 113 33 [some (.ref l0), some (.int l1)] (v :: [.ref l0, .ref s0]) w := by
  refine (bu (ls'' := [some (.ref l0), some (.int l1)]) (st' := [.ref l0, .ref s0]) bf113_28 bf113_29 rfl rfl).trans ?_
  refine (bu (ls'' := [some (.ref l0), some (.int l1)]) (st' := [.ref l0, .ref l0, .ref s0]) bf113_29 bf113_30 rfl rfl).trans ?_
  exact bh bf113_30 bf113_33 rfl (fun _ _ => am_ge_rf w) rfl
theorem bk113_65 {w : am_Wd} {l0 : Nat} {l1 : Int32} {s0 : Int32} {s1 : Nat} {s2 : Nat} : am_run 113 65 [some (.ref l0), some (.int l1)] [.int s0, .ref s1, .ref s2] w = (am_pf w s1 1 3 (.int (s0 + (nI 1)))).bind fun w' => am_run 113 71 [some (.ref l0), some (.int l1)] [.int s0, .ref s2] w' := by
  refine (bu (ls'' := [some (.ref l0), some (.int l1)]) (st' := [.int s0, .ref s1, .int s0, .ref s2]) bf113_65 bf113_66 rfl rfl).trans ?_
  refine (bu (ls'' := [some (.ref l0), some (.int l1)]) (st' := [.int (nI 1), .int s0, .ref s1, .int s0, .ref s2]) bf113_66 bf113_67 rfl rfl).trans ?_
  refine (bu (ls'' := [some (.ref l0), some (.int l1)]) (st' := [.int (s0 + (nI 1)), .ref s1, .int s0, .ref s2]) bf113_67 bf113_68 rfl rfl).trans ?_
  exact bh bf113_68 bf113_71 rfl (bge_pf) rfl
theorem bk113_33 {w : am_Wd} {l0 : Nat} {l1 : Int32} {s0 : Int32} {s1 : Nat} {s2 : Nat} : am_run 113 33 [some (.ref l0), some (.int l1)] [.int s0, .ref s1, .ref s2] w = (am_pf w s1 1 3 (.int (s0 + (nI 1)))).bind fun w' => am_run 113 39 [some (.ref l0), some (.int l1)] [.int s0, .ref s2] w' := by
  refine (bu (ls'' := [some (.ref l0), some (.int l1)]) (st' := [.int s0, .ref s1, .int s0, .ref s2]) bf113_33 bf113_34 rfl rfl).trans ?_
  refine (bu (ls'' := [some (.ref l0), some (.int l1)]) (st' := [.int (nI 1), .int s0, .ref s1, .int s0, .ref s2]) bf113_34 bf113_35 rfl rfl).trans ?_
  refine (bu (ls'' := [some (.ref l0), some (.int l1)]) (st' := [.int (s0 + (nI 1)), .ref s1, .int s0, .ref s2]) bf113_35 bf113_36 rfl rfl).trans ?_
  exact bh bf113_36 bf113_39 rfl (bge_pf) rfl
-- bk113_71: list index out of range
theorem bk113_39 {w : am_Wd} {l0 : Nat} {l1 : Int32} {s0 : Int32} {s1 : Nat} : am_run 113 39 [some (.ref l0), some (.int l1)] [.int s0, .ref s1] w = (am_wi 3 w s1 s0 (vp_nar .byte ((Int32.toInt8 l1).toInt32))).bind fun w' => am_run 113 42 [some (.ref l0), none] [] w' := by
  refine (bu (ls'' := [some (.ref l0), none]) (st' := [.int l1, .int s0, .ref s1]) bf113_39 bf113_40 rfl rfl).trans ?_
  refine (bu (ls'' := [some (.ref l0), none]) (st' := [.int (Int32.toInt8 l1).toInt32, .int s0, .ref s1]) bf113_40 bf113_41 rfl rfl).trans ?_
  exact bh bf113_41 bf113_42 rfl (bge_wi) rfl
theorem bk113_42 {w : am_Wd} {l0 : Nat} : am_run 113 42 [some (.ref l0), none] [] w = am_run 113 75 [some (.ref l0), none] [] w := by
  refine (bu (ls'' := [some (.ref l0), none]) (st' := []) bf113_42 bf113_75 rfl rfl).trans ?_
  rfl
theorem bk113_75 {w : am_Wd} {l0 : Nat} : am_run 113 75 [some (.ref l0), none] [] w = some (.inl (some (.ref l0)), w) := by
  refine (bu (ls'' := [none, none]) (st' := [.ref l0]) bf113_75 bf113_76 rfl rfl).trans ?_
  exact am_e2 bf113_76 rfl (am_ge_rf w)
theorem bf114_0 : am_fetch (am_mth 114) 0 = some (.getstatic 18, 3, [0, 1, 844], []) := by decide +kernel
theorem bf114_3 : am_fetch (am_mth 114) 3 = some (.ifCond .eq 18, 3, [], []) := by decide +kernel
theorem bf114_6 : am_fetch (am_mth 114) 6 = some (.aload_n 0, 1, [], []) := by decide +kernel
theorem bf114_7 : am_fetch (am_mth 114) 7 = some (.getfield 22, 3, [0, 1, 1, 854], []) := by decide +kernel
theorem bf114_10 : am_fetch (am_mth 114) 10 = some (.aload_n 1, 1, [], []) := by decide +kernel
theorem bf114_11 : am_fetch (am_mth 114) 11 = some (.invokevirtual 40, 3, [0, 59, 0, 0, 1067, 1055, 1056, 75], [1]) := by decide +kernel
theorem bf114_14 : am_fetch (am_mth 114) 14 = some (.if_icmp .eq 7, 3, [], [1]) := by decide +kernel
theorem bf114_17 : am_fetch (am_mth 114) 17 = some (.aload_n 0, 1, [], [1]) := by decide +kernel
theorem bf114_18 : am_fetch (am_mth 114) 18 = some (.invokevirtual 195, 3, [], [0, 1]) := by decide +kernel
theorem bf114_21 : am_fetch (am_mth 114) 21 = some (.return_, 1, [], [0, 1]) := by decide +kernel
theorem bk114_0 {w : am_Wd} {l0 : Nat} {l1 : Nat} : am_run 114 0 [some (.ref l0), some (.ref l1)] [] w = if (nI 1) = nI 0 then am_run 114 21 [none, none] [] w else am_run 114 6 [some (.ref l0), some (.ref l1)] [] w := by
  refine (bu (ls'' := [some (.ref l0), some (.ref l1)]) (st' := [.int (nI 1)]) bf114_0 bf114_3 rfl rfl).trans ?_
  exact bifc bf114_3 rfl bf114_21 bf114_6 rfl rfl rfl
theorem bk114_21 {w : am_Wd}  : am_run 114 21 [none, none] [] w = some (.inl none, w) := by
  exact am_e2 bf114_21 rfl (am_ge_rf w)
theorem bk114_6 {w : am_Wd} {l0 : Nat} {l1 : Nat} : am_run 114 6 [some (.ref l0), some (.ref l1)] [] w = (am_gf w l0 1 1).bind fun v => am_run 114 10 [some (.ref l0), some (.ref l1)] (v :: []) w := by
  refine (bu (ls'' := [some (.ref l0), some (.ref l1)]) (st' := [.ref l0]) bf114_6 bf114_7 rfl rfl).trans ?_
  exact bh bf114_7 bf114_10 rfl (fun _ _ => am_ge_rf w) rfl
theorem bk114_10 {w : am_Wd} {l0 : Nat} {l1 : Nat} {s0 : Int32} : am_run 114 10 [some (.ref l0), some (.ref l1)] [.int s0] w = (am_kf w l1 0).bind fun _ => (am_x 59 [.ref l1] w).bind fun r => bct r fun v w' => am_run 114 14 [some (.ref l0), none] (v.toList ++ [.int s0]) w' := by
  refine (bu (ls'' := [some (.ref l0), none]) (st' := [.ref l1, .int s0]) bf114_10 bf114_11 rfl rfl).trans ?_
  exact bkV bf114_11 bf114_14 rfl (by decide +kernel) (Nat.le_of_ble_eq_true rfl) rfl (bhd rfl)
theorem bk114_14 {w : am_Wd} {l0 : Nat} {s0 : Int32} {s1 : Int32} : am_run 114 14 [some (.ref l0), none] [.int s0, .int s1] w = if s1 = s0 then am_run 114 21 [none, none] [] w else am_run 114 17 [some (.ref l0), none] [] w := by
  exact bic bf114_14 rfl bf114_21 bf114_17 rfl rfl rfl
-- bk114_17: list index out of range
theorem bf115_0 : am_fetch (am_mth 115) 0 = some (.iload_n 0, 1, [], [1, 2]) := by decide +kernel
theorem bf115_1 : am_fetch (am_mth 115) 1 = some (.invokestatic 72, 3, [0, 69, 1, 1590, 1009, 78], [1, 2]) := by decide +kernel
theorem bf115_4 : am_fetch (am_mth 115) 4 = some (.istore_n 1, 1, [], [1, 2]) := by decide +kernel
theorem bf115_5 : am_fetch (am_mth 115) 5 = some (.getstatic 13, 3, [0, 1, 1591], [2]) := by decide +kernel
theorem bf115_8 : am_fetch (am_mth 115) 8 = some (.ifCond .eq 24, 3, [], [2]) := by decide +kernel
theorem bf115_11 : am_fetch (am_mth 115) 11 = some (.iload_n 1, 1, [], [2]) := by decide +kernel
theorem bf115_12 : am_fetch (am_mth 115) 12 = some (.newarray .byte, 2, [3, 293], [2]) := by decide +kernel
theorem bf115_14 : am_fetch (am_mth 115) 14 = some (.astore_n 2, 1, [], [2]) := by decide +kernel
theorem bf115_15 : am_fetch (am_mth 115) 15 = some (.iload_n 0, 1, [], []) := by decide +kernel
theorem bf115_16 : am_fetch (am_mth 115) 16 = some (.iload_n 1, 1, [], [0]) := by decide +kernel
theorem bf115_17 : am_fetch (am_mth 115) 17 = some (.aload_n 2, 1, [], [0, 1]) := by decide +kernel
theorem bf115_18 : am_fetch (am_mth 115) 18 = some (.invokestatic 75, 3, [0, 68, 3, 1592, 1012, 78], [0, 1]) := by decide +kernel
theorem bf115_21 : am_fetch (am_mth 115) 21 = some (.pop, 1, [], [0, 1]) := by decide +kernel
theorem bf115_22 : am_fetch (am_mth 115) 22 = some (.new 5, 3, [0, 0, 4, 1593, 967, 75], [0, 1]) := by decide +kernel
theorem bf115_25 : am_fetch (am_mth 115) 25 = some (.dup, 1, [], [0, 1]) := by decide +kernel
theorem bf115_26 : am_fetch (am_mth 115) 26 = some (.aload_n 2, 1, [], [0, 1]) := by decide +kernel
theorem bf115_27 : am_fetch (am_mth 115) 27 = some (.iconst 0, 1, [], [0, 1, 2]) := by decide +kernel
theorem bf115_28 : am_fetch (am_mth 115) 28 = some (.invokespecial 65, 3, [0, 60, 2, 1594, 1595, 75], [0, 1, 2]) := by decide +kernel
theorem bf115_31 : am_fetch (am_mth 115) 31 = some (.areturn, 1, [], [0, 1, 2]) := by decide +kernel
theorem bf115_32 : am_fetch (am_mth 115) 32 = some (.iload_n 1, 1, [], [2]) := by decide +kernel
theorem bf115_33 : am_fetch (am_mth 115) 33 = some (.iconst 2, 1, [], [2]) := by decide +kernel
theorem bf115_34 : am_fetch (am_mth 115) 34 = some (.imul, 1, [], [2]) := by decide +kernel
theorem bf115_35 : am_fetch (am_mth 115) 35 = some (.newarray .byte, 2, [3, 293], [2]) := by decide +kernel
theorem bf115_37 : am_fetch (am_mth 115) 37 = some (.astore_n 2, 1, [], [2]) := by decide +kernel
theorem bf115_38 : am_fetch (am_mth 115) 38 = some (.iload_n 0, 1, [], []) := by decide +kernel
theorem bf115_39 : am_fetch (am_mth 115) 39 = some (.iload_n 1, 1, [], [0]) := by decide +kernel
theorem bf115_40 : am_fetch (am_mth 115) 40 = some (.aload_n 2, 1, [], [0, 1]) := by decide +kernel
theorem bf115_41 : am_fetch (am_mth 115) 41 = some (.invokestatic 79, 3, [], [0, 1]) := by decide +kernel
theorem bf115_44 : am_fetch (am_mth 115) 44 = some (.pop, 1, [], [0, 1]) := by decide +kernel
theorem bf115_45 : am_fetch (am_mth 115) 45 = some (.new 5, 3, [0, 0, 4, 1593, 967, 75], [0, 1]) := by decide +kernel
theorem bf115_48 : am_fetch (am_mth 115) 48 = some (.dup, 1, [], [0, 1]) := by decide +kernel
theorem bf115_49 : am_fetch (am_mth 115) 49 = some (.aload_n 2, 1, [], [0, 1]) := by decide +kernel
theorem bf115_50 : am_fetch (am_mth 115) 50 = some (.iconst 1, 1, [], [0, 1, 2]) := by decide +kernel
theorem bf115_51 : am_fetch (am_mth 115) 51 = some (.invokespecial 65, 3, [0, 60, 2, 1594, 1595, 75], [0, 1, 2]) := by decide +kernel
theorem bf115_54 : am_fetch (am_mth 115) 54 = some (.areturn, 1, [], [0, 1, 2]) := by decide +kernel
theorem bk115_0 {w : am_Wd} {l0 : Int32} : am_run 115 0 [some (.int l0), none, none] [] w = (am_x 69 [.int l0] w).bind fun r => bct r fun v w' => am_run 115 4 [some (.int l0), none, none] (v.toList ++ []) w' := by
  refine (bu (ls'' := [some (.int l0), none, none]) (st' := [.int l0]) bf115_0 bf115_1 rfl rfl).trans ?_
  exact bkS bf115_1 bf115_4 rfl (by decide +kernel) (Nat.le_of_ble_eq_true rfl) rfl (bhd rfl)
theorem bk115_4 {w : am_Wd} {l0 : Int32} {s0 : Int32} : am_run 115 4 [some (.int l0), none, none] [.int s0] w = if (nI 1) = nI 0 then am_run 115 32 [some (.int l0), some (.int s0), none] [] w else am_run 115 11 [some (.int l0), some (.int s0), none] [] w := by
  refine (bu (ls'' := [some (.int l0), some (.int s0), none]) (st' := []) bf115_4 bf115_5 rfl rfl).trans ?_
  refine (bu (ls'' := [some (.int l0), some (.int s0), none]) (st' := [.int (nI 1)]) bf115_5 bf115_8 rfl rfl).trans ?_
  exact bifc bf115_8 rfl bf115_32 bf115_11 rfl rfl rfl
theorem bk115_32 {w : am_Wd} {l0 : Int32} {l1 : Int32} : am_run 115 32 [some (.int l0), some (.int l1), none] [] w = (am_na w 3 (l1 * (nI 2))).bind fun w' => am_run 115 37 [some (.int l0), some (.int l1), none] (.ref w.2.1 :: []) w' := by
  refine (bu (ls'' := [some (.int l0), some (.int l1), none]) (st' := [.int l1]) bf115_32 bf115_33 rfl rfl).trans ?_
  refine (bu (ls'' := [some (.int l0), some (.int l1), none]) (st' := [.int (nI 2), .int l1]) bf115_33 bf115_34 rfl rfl).trans ?_
  refine (bu (ls'' := [some (.int l0), some (.int l1), none]) (st' := [.int (l1 * (nI 2))]) bf115_34 bf115_35 rfl rfl).trans ?_
  exact bh bf115_35 bf115_37 rfl (bge_na) rfl
theorem bk115_11 {w : am_Wd} {l0 : Int32} {l1 : Int32} : am_run 115 11 [some (.int l0), some (.int l1), none] [] w = (am_na w 3 l1).bind fun w' => am_run 115 14 [some (.int l0), some (.int l1), none] (.ref w.2.1 :: []) w' := by
  refine (bu (ls'' := [some (.int l0), some (.int l1), none]) (st' := [.int l1]) bf115_11 bf115_12 rfl rfl).trans ?_
  exact bh bf115_12 bf115_14 rfl (bge_na) rfl
-- bk115_37: list index out of range
theorem bk115_14 {w : am_Wd} {l0 : Int32} {l1 : Int32} {s0 : Nat} : am_run 115 14 [some (.int l0), some (.int l1), none] [.ref s0] w = (am_x 68 [.int l0, .int l1, .ref s0] w).bind fun r => bct r fun v w' => am_run 115 21 [none, none, some (.ref s0)] (v.toList ++ []) w' := by
  refine (bu (ls'' := [some (.int l0), some (.int l1), some (.ref s0)]) (st' := []) bf115_14 bf115_15 rfl rfl).trans ?_
  refine (bu (ls'' := [none, some (.int l1), some (.ref s0)]) (st' := [.int l0]) bf115_15 bf115_16 rfl rfl).trans ?_
  refine (bu (ls'' := [none, none, some (.ref s0)]) (st' := [.int l1, .int l0]) bf115_16 bf115_17 rfl rfl).trans ?_
  refine (bu (ls'' := [none, none, some (.ref s0)]) (st' := [.ref s0, .int l1, .int l0]) bf115_17 bf115_18 rfl rfl).trans ?_
  exact bkS bf115_18 bf115_21 rfl (by decide +kernel) (Nat.le_of_ble_eq_true rfl) rfl (bhd rfl)
theorem bk115_21 {w : am_Wd} {l2 : Nat} {s0 : Int32} : am_run 115 21 [none, none, some (.ref l2)] [.int s0] w = am_run 115 25 [none, none, some (.ref l2)] (.ref w.2.1 :: []) (am_nw w (.inr (0, am_df 0 4)) 4) := by
  refine (bu (ls'' := [none, none, some (.ref l2)]) (st' := []) bf115_21 bf115_22 rfl rfl).trans ?_
  exact bn bf115_22 bf115_25 rfl rfl (am_ge_nw _ _ _)
theorem bk115_25 {w : am_Wd} {l2 : Nat} {s0 : Nat} : am_run 115 25 [none, none, some (.ref l2)] [.ref s0] w = (am_x 60 [.ref s0, .ref l2, .int (nI 0)] w).bind fun r => bct r fun v w' => am_run 115 31 [none, none, none] (v.toList ++ [.ref s0]) w' := by
  refine (bu (ls'' := [none, none, some (.ref l2)]) (st' := [.ref s0, .ref s0]) bf115_25 bf115_26 rfl rfl).trans ?_
  refine (bu (ls'' := [none, none, none]) (st' := [.ref l2, .ref s0, .ref s0]) bf115_26 bf115_27 rfl rfl).trans ?_
  refine (bu (ls'' := [none, none, none]) (st' := [.int (nI 0), .ref l2, .ref s0, .ref s0]) bf115_27 bf115_28 rfl rfl).trans ?_
  exact bkS bf115_28 bf115_31 rfl (by decide +kernel) (Nat.le_of_ble_eq_true rfl) rfl (bhd rfl)
theorem bk115_31 {w : am_Wd} {s0 : Nat} : am_run 115 31 [none, none, none] [.ref s0] w = some (.inl (some (.ref s0)), w) := by
  exact am_e2 bf115_31 rfl (am_ge_rf w)
theorem bf116_0 : am_fetch (am_mth 116) 0 = some (.iload_n 1, 1, [], [3, 4]) := by decide +kernel
theorem bf116_1 : am_fetch (am_mth 116) 1 = some (.iload_n 2, 1, [], [3, 4]) := by decide +kernel
theorem bf116_2 : am_fetch (am_mth 116) 2 = some (.invokestatic 343, 3, [0, 70, 2, 995, 996, 68], [3, 4]) := by decide +kernel
theorem bf116_5 : am_fetch (am_mth 116) 5 = some (.iload_n 2, 1, [], [3, 4]) := by decide +kernel
theorem bf116_6 : am_fetch (am_mth 116) 6 = some (.iload_n 1, 1, [], [2, 3, 4]) := by decide +kernel
theorem bf116_7 : am_fetch (am_mth 116) 7 = some (.isub, 1, [], [2, 3, 4]) := by decide +kernel
theorem bf116_8 : am_fetch (am_mth 116) 8 = some (.istore_n 3, 1, [], [2, 3, 4]) := by decide +kernel
theorem bf116_9 : am_fetch (am_mth 116) 9 = some (.iload_n 3, 1, [], [2, 4]) := by decide +kernel
theorem bf116_10 : am_fetch (am_mth 116) 10 = some (.newarray .byte, 2, [3, 293], [2, 4]) := by decide +kernel
theorem bf116_12 : am_fetch (am_mth 116) 12 = some (.astore 4, 2, [], [2, 4]) := by decide +kernel
theorem bf116_14 : am_fetch (am_mth 116) 14 = some (.aload_n 0, 1, [], [2]) := by decide +kernel
theorem bf116_15 : am_fetch (am_mth 116) 15 = some (.iload_n 1, 1, [], [2]) := by decide +kernel
theorem bf116_16 : am_fetch (am_mth 116) 16 = some (.aload 4, 2, [], [2]) := by decide +kernel
theorem bf116_18 : am_fetch (am_mth 116) 18 = some (.iconst 0, 1, [], [2]) := by decide +kernel
theorem bf116_19 : am_fetch (am_mth 116) 19 = some (.aload_n 0, 1, [], [2]) := by decide +kernel
theorem bf116_20 : am_fetch (am_mth 116) 20 = some (.arraylength, 1, [], [0, 2]) := by decide +kernel
theorem bf116_21 : am_fetch (am_mth 116) 21 = some (.iload_n 1, 1, [], [0, 2]) := by decide +kernel
theorem bf116_22 : am_fetch (am_mth 116) 22 = some (.isub, 1, [], [0, 1, 2]) := by decide +kernel
theorem bf116_23 : am_fetch (am_mth 116) 23 = some (.iload_n 3, 1, [], [0, 1, 2]) := by decide +kernel
theorem bf116_24 : am_fetch (am_mth 116) 24 = some (.invokestatic 304, 3, [2, 902, 191, 59, 192], [0, 1, 2, 3]) := by decide +kernel
theorem bf116_27 : am_fetch (am_mth 116) 27 = some (.invokestatic 150, 3, [4, 903, 905, 904, 69], [0, 1, 2, 3]) := by decide +kernel
theorem bf116_30 : am_fetch (am_mth 116) 30 = some (.aload 4, 2, [], [0, 1, 2, 3]) := by decide +kernel
theorem bf116_32 : am_fetch (am_mth 116) 32 = some (.areturn, 1, [], [0, 1, 2, 3, 4]) := by decide +kernel
theorem bk116_0 {w : am_Wd} {l0 : Nat} {l1 : Int32} {l2 : Int32} : am_run 116 0 [some (.ref l0), some (.int l1), some (.int l2), none, none] [] w = (am_x 70 [.int l1, .int l2] w).bind fun r => bct r fun v w' => am_run 116 5 [some (.ref l0), some (.int l1), some (.int l2), none, none] (v.toList ++ []) w' := by
  refine (bu (ls'' := [some (.ref l0), some (.int l1), some (.int l2), none, none]) (st' := [.int l1]) bf116_0 bf116_1 rfl rfl).trans ?_
  refine (bu (ls'' := [some (.ref l0), some (.int l1), some (.int l2), none, none]) (st' := [.int l2, .int l1]) bf116_1 bf116_2 rfl rfl).trans ?_
  exact bkS bf116_2 bf116_5 rfl (by decide +kernel) (Nat.le_of_ble_eq_true rfl) rfl (bhd rfl)
theorem bk116_5 {w : am_Wd} {l0 : Nat} {l1 : Int32} {l2 : Int32} : am_run 116 5 [some (.ref l0), some (.int l1), some (.int l2), none, none] [] w = (am_na w 3 (l2 - l1)).bind fun w' => am_run 116 12 [some (.ref l0), some (.int l1), none, some (.int (l2 - l1)), none] (.ref w.2.1 :: []) w' := by
  refine (bu (ls'' := [some (.ref l0), some (.int l1), none, none, none]) (st' := [.int l2]) bf116_5 bf116_6 rfl rfl).trans ?_
  refine (bu (ls'' := [some (.ref l0), some (.int l1), none, none, none]) (st' := [.int l1, .int l2]) bf116_6 bf116_7 rfl rfl).trans ?_
  refine (bu (ls'' := [some (.ref l0), some (.int l1), none, none, none]) (st' := [.int (l2 - l1)]) bf116_7 bf116_8 rfl rfl).trans ?_
  refine (bu (ls'' := [some (.ref l0), some (.int l1), none, some (.int (l2 - l1)), none]) (st' := []) bf116_8 bf116_9 rfl rfl).trans ?_
  refine (bu (ls'' := [some (.ref l0), some (.int l1), none, some (.int (l2 - l1)), none]) (st' := [.int (l2 - l1)]) bf116_9 bf116_10 rfl rfl).trans ?_
  exact bh bf116_10 bf116_12 rfl (bge_na) rfl
theorem bk116_12 {w : am_Wd} {l0 : Nat} {l1 : Int32} {l3 : Int32} {s0 : Nat} : am_run 116 12 [some (.ref l0), some (.int l1), none, some (.int l3), none] [.ref s0] w = (am_len w l0).bind fun v => am_run 116 21 [none, some (.int l1), none, some (.int l3), some (.ref s0)] (.int (nI v) :: [.int (nI 0), .ref s0, .int l1, .ref l0]) w := by
  refine (bu (ls'' := [some (.ref l0), some (.int l1), none, some (.int l3), some (.ref s0)]) (st' := []) bf116_12 bf116_14 rfl rfl).trans ?_
  refine (bu (ls'' := [some (.ref l0), some (.int l1), none, some (.int l3), some (.ref s0)]) (st' := [.ref l0]) bf116_14 bf116_15 rfl rfl).trans ?_
  refine (bu (ls'' := [some (.ref l0), some (.int l1), none, some (.int l3), some (.ref s0)]) (st' := [.int l1, .ref l0]) bf116_15 bf116_16 rfl rfl).trans ?_
  refine (bu (ls'' := [some (.ref l0), some (.int l1), none, some (.int l3), some (.ref s0)]) (st' := [.ref s0, .int l1, .ref l0]) bf116_16 bf116_18 rfl rfl).trans ?_
  refine (bu (ls'' := [some (.ref l0), some (.int l1), none, some (.int l3), some (.ref s0)]) (st' := [.int (nI 0), .ref s0, .int l1, .ref l0]) bf116_18 bf116_19 rfl rfl).trans ?_
  refine (bu (ls'' := [none, some (.int l1), none, some (.int l3), some (.ref s0)]) (st' := [.ref l0, .int (nI 0), .ref s0, .int l1, .ref l0]) bf116_19 bf116_20 rfl rfl).trans ?_
  exact bh bf116_20 bf116_21 rfl (fun _ _ => am_ge_rf w) rfl
theorem bk116_21 {w : am_Wd} {l1 : Int32} {l3 : Int32} {l4 : Nat} {s0 : Int32} {s1 : Int32} {s2 : Nat} {s3 : Int32} {s4 : Nat} : am_run 116 21 [none, some (.int l1), none, some (.int l3), some (.ref l4)] [.int s0, .int s1, .ref s2, .int s3, .ref s4] w = (am_cy w s4 s3 s2 s1 (bj_min (s0 - l1) l3)).bind fun w' => am_run 116 30 [none, none, none, none, some (.ref l4)] [] w' := by
  refine (bu (ls'' := [none, none, none, some (.int l3), some (.ref l4)]) (st' := [.int l1, .int s0, .int s1, .ref s2, .int s3, .ref s4]) bf116_21 bf116_22 rfl rfl).trans ?_
  refine (bu (ls'' := [none, none, none, some (.int l3), some (.ref l4)]) (st' := [.int (s0 - l1), .int s1, .ref s2, .int s3, .ref s4]) bf116_22 bf116_23 rfl rfl).trans ?_
  refine (bu (ls'' := [none, none, none, none, some (.ref l4)]) (st' := [.int l3, .int (s0 - l1), .int s1, .ref s2, .int s3, .ref s4]) bf116_23 bf116_24 rfl rfl).trans ?_
  refine (bu (ls'' := [none, none, none, none, some (.ref l4)]) (st' := [.int (bj_min (s0 - l1) l3), .int s1, .ref s2, .int s3, .ref s4]) bf116_24 bf116_27 rfl rfl).trans ?_
  exact bh bf116_27 bf116_30 rfl (bge_cy) rfl
theorem bk116_30 {w : am_Wd} {l4 : Nat} : am_run 116 30 [none, none, none, none, some (.ref l4)] [] w = some (.inl (some (.ref l4)), w) := by
  refine (bu (ls'' := [none, none, none, none, none]) (st' := [.ref l4]) bf116_30 bf116_32 rfl rfl).trans ?_
  exact am_e2 bf116_32 rfl (am_ge_rf w)
theorem bf152_0 : am_fetch (am_mth 152) 0 = some (.iload_n 0, 1, [], []) := by decide +kernel
theorem bf152_1 : am_fetch (am_mth 152) 1 = some (.invokestatic 1022, 3, [0, 115, 1, 1587, 1588, 78], [0]) := by decide +kernel
theorem bf152_4 : am_fetch (am_mth 152) 4 = some (.areturn, 1, [], [0]) := by decide +kernel
theorem bk152_0 {w : am_Wd} {l0 : Int32} : am_run 152 0 [some (.int l0)] [] w = (am_x 115 [.int l0] w).bind fun r => bct r fun v w' => am_run 152 4 [none] (v.toList ++ []) w' := by
  refine (bu (ls'' := [none]) (st' := [.int l0]) bf152_0 bf152_1 rfl rfl).trans ?_
  exact bkS bf152_1 bf152_4 rfl (by decide +kernel) (Nat.le_of_ble_eq_true rfl) rfl (bhd rfl)
theorem bk152_4 {w : am_Wd} {s0 : Nat} : am_run 152 4 [none] [.ref s0] w = some (.inl (some (.ref s0)), w) := by
  exact am_e2 bf152_4 rfl (am_ge_rf w)
theorem bf153_0 : am_fetch (am_mth 153) 0 = some (.iload_n 1, 1, [], []) := by decide +kernel
theorem bf153_1 : am_fetch (am_mth 153) 1 = some (.aload_n 0, 1, [], []) := by decide +kernel
theorem bf153_2 : am_fetch (am_mth 153) 2 = some (.arraylength, 1, [], []) := by decide +kernel
theorem bf153_3 : am_fetch (am_mth 153) 3 = some (.invokestatic 9, 3, [0, 108, 2, 1614, 954, 75], []) := by decide +kernel
theorem bf153_6 : am_fetch (am_mth 153) 6 = some (.aload_n 0, 1, [], []) := by decide +kernel
theorem bf153_7 : am_fetch (am_mth 153) 7 = some (.iload_n 1, 1, [], [0]) := by decide +kernel
theorem bf153_8 : am_fetch (am_mth 153) 8 = some (.baload, 1, [3], [0, 1]) := by decide +kernel
theorem bf153_9 : am_fetch (am_mth 153) 9 = some (.sipush 255, 3, [], [0, 1]) := by decide +kernel
theorem bf153_12 : am_fetch (am_mth 153) 12 = some (.iand, 1, [], [0, 1]) := by decide +kernel
theorem bf153_13 : am_fetch (am_mth 153) 13 = some (.i2c, 1, [], [0, 1]) := by decide +kernel
theorem bf153_14 : am_fetch (am_mth 153) 14 = some (.ireturn, 1, [2], [0, 1]) := by decide +kernel
theorem bk153_0 {w : am_Wd} {l0 : Nat} {l1 : Int32} : am_run 153 0 [some (.ref l0), some (.int l1)] [] w = (am_len w l0).bind fun v => am_run 153 3 [some (.ref l0), some (.int l1)] (.int (nI v) :: [.int l1]) w := by
  refine (bu (ls'' := [some (.ref l0), some (.int l1)]) (st' := [.int l1]) bf153_0 bf153_1 rfl rfl).trans ?_
  refine (bu (ls'' := [some (.ref l0), some (.int l1)]) (st' := [.ref l0, .int l1]) bf153_1 bf153_2 rfl rfl).trans ?_
  exact bh bf153_2 bf153_3 rfl (fun _ _ => am_ge_rf w) rfl
theorem bk153_3 {w : am_Wd} {l0 : Nat} {l1 : Int32} {s0 : Int32} {s1 : Int32} : am_run 153 3 [some (.ref l0), some (.int l1)] [.int s0, .int s1] w = (am_x 108 [.int s1, .int s0] w).bind fun r => bct r fun v w' => am_run 153 6 [some (.ref l0), some (.int l1)] (v.toList ++ []) w' := by
  exact bkS bf153_3 bf153_6 rfl (by decide +kernel) (Nat.le_of_ble_eq_true rfl) rfl (bhd rfl)
theorem bk153_6 {w : am_Wd} {l0 : Nat} {l1 : Int32} : am_run 153 6 [some (.ref l0), some (.int l1)] [] w = (am_ri 3 w l0 l1).bind fun v => am_run 153 9 [none, none] (.int v :: []) w := by
  refine (bu (ls'' := [none, some (.int l1)]) (st' := [.ref l0]) bf153_6 bf153_7 rfl rfl).trans ?_
  refine (bu (ls'' := [none, none]) (st' := [.int l1, .ref l0]) bf153_7 bf153_8 rfl rfl).trans ?_
  exact bh bf153_8 bf153_9 rfl (fun _ _ => am_ge_rf w) rfl
theorem bk153_9 {w : am_Wd} {s0 : Int32} (hb : am_ok (am_rt 2) (.int (bj_i2c (s0 &&& (nI 255)))) = true) : am_run 153 9 [none, none] [.int s0] w = some (.inl (some (.int (bj_i2c (s0 &&& (nI 255))))), w) := by
  refine (bu (ls'' := [none, none]) (st' := [.int (nI 255), .int s0]) bf153_9 bf153_12 rfl rfl).trans ?_
  refine (bu (ls'' := [none, none]) (st' := [.int (s0 &&& (nI 255))]) bf153_12 bf153_13 rfl rfl).trans ?_
  refine (bu (ls'' := [none, none]) (st' := [.int (bj_i2c (s0 &&& (nI 255)))]) bf153_13 bf153_14 rfl rfl).trans ?_
  exact am_e2 bf153_14 (by unfold am_stp; exact if_pos ⟨by decide, hb⟩) (am_ge_rf w)
theorem bf154_0 : am_fetch (am_mth 154) 0 = some (.aload_n 0, 1, [], []) := by decide +kernel
theorem bf154_1 : am_fetch (am_mth 154) 1 = some (.iload_n 1, 1, [], []) := by decide +kernel
theorem bf154_2 : am_fetch (am_mth 154) 2 = some (.invokespecial 50, 3, [2, 113, 1, 1, 874, 1710, 865, 875, 73], [1]) := by decide +kernel
theorem bf154_5 : am_fetch (am_mth 154) 5 = some (.pop, 1, [], [1]) := by decide +kernel
theorem bf154_6 : am_fetch (am_mth 154) 6 = some (.aload_n 0, 1, [], [1]) := by decide +kernel
theorem bf154_7 : am_fetch (am_mth 154) 7 = some (.areturn, 1, [], [0, 1]) := by decide +kernel
theorem bk154_0 {w : am_Wd} {l0 : Nat} {l1 : Int32} : am_run 154 0 [some (.ref l0), some (.int l1)] [] w = (am_kf w l0 1).bind fun _ => (am_x 113 [.ref l0, .int l1] w).bind fun r => bct r fun v w' => am_run 154 5 [some (.ref l0), none] (v.toList ++ []) w' := by
  refine (bu (ls'' := [some (.ref l0), some (.int l1)]) (st' := [.ref l0]) bf154_0 bf154_1 rfl rfl).trans ?_
  refine (bu (ls'' := [some (.ref l0), none]) (st' := [.int l1, .ref l0]) bf154_1 bf154_2 rfl rfl).trans ?_
  exact bkV bf154_2 bf154_5 rfl (by decide +kernel) (Nat.le_of_ble_eq_true rfl) rfl (bhd rfl)
theorem bk154_5 {w : am_Wd} {l0 : Nat} {s0 : Nat} : am_run 154 5 [some (.ref l0), none] [.ref s0] w = some (.inl (some (.ref l0)), w) := by
  refine (bu (ls'' := [some (.ref l0), none]) (st' := []) bf154_5 bf154_6 rfl rfl).trans ?_
  refine (bu (ls'' := [none, none]) (st' := [.ref l0]) bf154_6 bf154_7 rfl rfl).trans ?_
  exact am_e2 bf154_7 rfl (am_ge_rf w)
theorem bf155_0 : am_fetch (am_mth 155) 0 = some (.aload_n 0, 1, [], []) := by decide +kernel
theorem bf155_1 : am_fetch (am_mth 155) 1 = some (.aload_n 2, 1, [], []) := by decide +kernel
theorem bf155_2 : am_fetch (am_mth 155) 2 = some (.invokevirtual 397, 3, [2, 114, 1, 1, 1063, 1718, 1747, 1065, 73], []) := by decide +kernel
theorem bf155_5 : am_fetch (am_mth 155) 5 = some (.aload_n 2, 1, [], []) := by decide +kernel
theorem bf155_6 : am_fetch (am_mth 155) 6 = some (.aload_n 0, 1, [], [2]) := by decide +kernel
theorem bf155_7 : am_fetch (am_mth 155) 7 = some (.getfield 15, 3, [0, 1, 0, 853], [2]) := by decide +kernel
theorem bf155_10 : am_fetch (am_mth 155) 10 = some (.iload_n 1, 1, [], [2]) := by decide +kernel
theorem bf155_11 : am_fetch (am_mth 155) 11 = some (.aload_n 0, 1, [], [1, 2]) := by decide +kernel
theorem bf155_12 : am_fetch (am_mth 155) 12 = some (.getfield 22, 3, [0, 1, 1, 854], [0, 1, 2]) := by decide +kernel
theorem bf155_15 : am_fetch (am_mth 155) 15 = some (.invokevirtual 399, 3, [0, 109, 3, 0, 1068, 1069, 1070, 75], [0, 1, 2]) := by decide +kernel
theorem bf155_18 : am_fetch (am_mth 155) 18 = some (.return_, 1, [], [0, 1, 2]) := by decide +kernel
theorem bk155_0 {w : am_Wd} {l0 : Nat} {l1 : Int32} {l2 : Nat} : am_run 155 0 [some (.ref l0), some (.int l1), some (.ref l2)] [] w = (am_kf w l0 1).bind fun _ => (am_x 114 [.ref l0, .ref l2] w).bind fun r => bct r fun v w' => am_run 155 5 [some (.ref l0), some (.int l1), some (.ref l2)] (v.toList ++ []) w' := by
  refine (bu (ls'' := [some (.ref l0), some (.int l1), some (.ref l2)]) (st' := [.ref l0]) bf155_0 bf155_1 rfl rfl).trans ?_
  refine (bu (ls'' := [some (.ref l0), some (.int l1), some (.ref l2)]) (st' := [.ref l2, .ref l0]) bf155_1 bf155_2 rfl rfl).trans ?_
  exact bkV bf155_2 bf155_5 rfl (by decide +kernel) (Nat.le_of_ble_eq_true rfl) rfl (bhd rfl)
theorem bk155_5 {w : am_Wd} {l0 : Nat} {l1 : Int32} {l2 : Nat} : am_run 155 5 [some (.ref l0), some (.int l1), some (.ref l2)] [] w = (am_gf w l0 1 0).bind fun v => am_run 155 10 [some (.ref l0), some (.int l1), none] (v :: [.ref l2]) w := by
  refine (bu (ls'' := [some (.ref l0), some (.int l1), none]) (st' := [.ref l2]) bf155_5 bf155_6 rfl rfl).trans ?_
  refine (bu (ls'' := [some (.ref l0), some (.int l1), none]) (st' := [.ref l0, .ref l2]) bf155_6 bf155_7 rfl rfl).trans ?_
  exact bh bf155_7 bf155_10 rfl (fun _ _ => am_ge_rf w) rfl
theorem bk155_10 {w : am_Wd} {l0 : Nat} {l1 : Int32} {s0 : Nat} {s1 : Nat} : am_run 155 10 [some (.ref l0), some (.int l1), none] [.ref s0, .ref s1] w = (am_gf w l0 1 1).bind fun v => am_run 155 15 [none, none, none] (v :: [.int l1, .ref s0, .ref s1]) w := by
  refine (bu (ls'' := [some (.ref l0), none, none]) (st' := [.int l1, .ref s0, .ref s1]) bf155_10 bf155_11 rfl rfl).trans ?_
  refine (bu (ls'' := [none, none, none]) (st' := [.ref l0, .int l1, .ref s0, .ref s1]) bf155_11 bf155_12 rfl rfl).trans ?_
  exact bh bf155_12 bf155_15 rfl (fun _ _ => am_ge_rf w) rfl
theorem bk155_15 {w : am_Wd} {s0 : Int32} {s1 : Int32} {s2 : Nat} {s3 : Nat} : am_run 155 15 [none, none, none] [.int s0, .int s1, .ref s2, .ref s3] w = (am_kf w s3 0).bind fun _ => (am_x 109 [.ref s3, .ref s2, .int s1, .int s0] w).bind fun r => bct r fun v w' => am_run 155 18 [none, none, none] (v.toList ++ []) w' := by
  exact bkV bf155_15 bf155_18 rfl (by decide +kernel) (Nat.le_of_ble_eq_true rfl) rfl (bhd rfl)
theorem bk155_18 {w : am_Wd}  : am_run 155 18 [none, none, none] [] w = some (.inl none, w) := by
  exact am_e2 bf155_18 rfl (am_ge_rf w)
theorem bf156_0 : am_fetch (am_mth 156) 0 = some (.iload_n 1, 1, [], []) := by decide +kernel
theorem bf156_1 : am_fetch (am_mth 156) 1 = some (.ifCond .ne 9, 3, [], []) := by decide +kernel
theorem bf156_4 : am_fetch (am_mth 156) 4 = some (.iload_n 2, 1, [], []) := by decide +kernel
theorem bf156_5 : am_fetch (am_mth 156) 5 = some (.aload_n 0, 1, [], []) := by decide +kernel
theorem bf156_6 : am_fetch (am_mth 156) 6 = some (.arraylength, 1, [], []) := by decide +kernel
theorem bf156_7 : am_fetch (am_mth 156) 7 = some (.if_icmp .eq 10, 3, [], []) := by decide +kernel
theorem bf156_10 : am_fetch (am_mth 156) 10 = some (.aload_n 0, 1, [], []) := by decide +kernel
theorem bf156_11 : am_fetch (am_mth 156) 11 = some (.iload_n 1, 1, [], [0]) := by decide +kernel
theorem bf156_12 : am_fetch (am_mth 156) 12 = some (.iload_n 2, 1, [], [0, 1]) := by decide +kernel
theorem bf156_13 : am_fetch (am_mth 156) 13 = some (.invokestatic 339, 3, [0, 116, 3, 992, 993, 68], [0, 1, 2]) := by decide +kernel
theorem bf156_16 : am_fetch (am_mth 156) 16 = some (.areturn, 1, [], [0, 1, 2]) := by decide +kernel
theorem bf156_17 : am_fetch (am_mth 156) 17 = some (.aload_n 0, 1, [], [1, 2]) := by decide +kernel
theorem bf156_18 : am_fetch (am_mth 156) 18 = some (.invokevirtual 310, 3, [], [0, 1, 2]) := by decide +kernel
theorem bf156_21 : am_fetch (am_mth 156) 21 = some (.checkcast 311, 3, [1, 3, 901], [0, 1, 2]) := by decide +kernel
theorem bf156_24 : am_fetch (am_mth 156) 24 = some (.areturn, 1, [], [0, 1, 2]) := by decide +kernel
theorem bk156_0 {w : am_Wd} {l0 : Nat} {l1 : Int32} {l2 : Int32} : am_run 156 0 [some (.ref l0), some (.int l1), some (.int l2)] [] w = if ¬ l1 = nI 0 then am_run 156 10 [some (.ref l0), some (.int l1), some (.int l2)] [] w else am_run 156 4 [some (.ref l0), some (.int l1), some (.int l2)] [] w := by
  refine (bu (ls'' := [some (.ref l0), some (.int l1), some (.int l2)]) (st' := [.int l1]) bf156_0 bf156_1 rfl rfl).trans ?_
  exact bifc bf156_1 rfl bf156_10 bf156_4 rfl rfl rfl
theorem bk156_10 {w : am_Wd} {l0 : Nat} {l1 : Int32} {l2 : Int32} : am_run 156 10 [some (.ref l0), some (.int l1), some (.int l2)] [] w = (am_x 116 [.ref l0, .int l1, .int l2] w).bind fun r => bct r fun v w' => am_run 156 16 [none, none, none] (v.toList ++ []) w' := by
  refine (bu (ls'' := [none, some (.int l1), some (.int l2)]) (st' := [.ref l0]) bf156_10 bf156_11 rfl rfl).trans ?_
  refine (bu (ls'' := [none, none, some (.int l2)]) (st' := [.int l1, .ref l0]) bf156_11 bf156_12 rfl rfl).trans ?_
  refine (bu (ls'' := [none, none, none]) (st' := [.int l2, .int l1, .ref l0]) bf156_12 bf156_13 rfl rfl).trans ?_
  exact bkS bf156_13 bf156_16 rfl (by decide +kernel) (Nat.le_of_ble_eq_true rfl) rfl (bhd rfl)
theorem bk156_4 {w : am_Wd} {l0 : Nat} {l1 : Int32} {l2 : Int32} : am_run 156 4 [some (.ref l0), some (.int l1), some (.int l2)] [] w = (am_len w l0).bind fun v => am_run 156 7 [some (.ref l0), some (.int l1), some (.int l2)] (.int (nI v) :: [.int l2]) w := by
  refine (bu (ls'' := [some (.ref l0), some (.int l1), some (.int l2)]) (st' := [.int l2]) bf156_4 bf156_5 rfl rfl).trans ?_
  refine (bu (ls'' := [some (.ref l0), some (.int l1), some (.int l2)]) (st' := [.ref l0, .int l2]) bf156_5 bf156_6 rfl rfl).trans ?_
  exact bh bf156_6 bf156_7 rfl (fun _ _ => am_ge_rf w) rfl
theorem bk156_16 {w : am_Wd} {s0 : Nat} : am_run 156 16 [none, none, none] [.ref s0] w = some (.inl (some (.ref s0)), w) := by
  exact am_e2 bf156_16 rfl (am_ge_rf w)
theorem bk156_7 {w : am_Wd} {l0 : Nat} {l1 : Int32} {l2 : Int32} {s0 : Int32} {s1 : Int32} : am_run 156 7 [some (.ref l0), some (.int l1), some (.int l2)] [.int s0, .int s1] w = if s1 = s0 then am_run 156 17 [some (.ref l0), none, none] [] w else am_run 156 10 [some (.ref l0), some (.int l1), some (.int l2)] [] w := by
  exact bic bf156_7 rfl bf156_17 bf156_10 rfl rfl rfl
-- bk156_17: list index out of range
theorem bf196_0 : am_fetch (am_mth 196) 0 = some (.aload_n 0, 1, [], []) := by decide +kernel
theorem bf196_1 : am_fetch (am_mth 196) 1 = some (.invokevirtual 492, 3, [0, 61, 0, 0, 1607, 1608, 1609, 75], []) := by decide +kernel
theorem bf196_4 : am_fetch (am_mth 196) 4 = some (.ifCond .eq 12, 3, [], []) := by decide +kernel
theorem bf196_7 : am_fetch (am_mth 196) 7 = some (.aload_n 0, 1, [], []) := by decide +kernel
theorem bf196_8 : am_fetch (am_mth 196) 8 = some (.getfield 9, 3, [0, 0, 0, 1089], [0]) := by decide +kernel
theorem bf196_11 : am_fetch (am_mth 196) 11 = some (.iload_n 1, 1, [], [0]) := by decide +kernel
theorem bf196_12 : am_fetch (am_mth 196) 12 = some (.invokestatic 495, 3, [0, 153, 2, 1611, 1612, 77], [0, 1]) := by decide +kernel
theorem bf196_15 : am_fetch (am_mth 196) 15 = some (.ireturn, 1, [2], [0, 1]) := by decide +kernel
theorem bf196_16 : am_fetch (am_mth 196) 16 = some (.aload_n 0, 1, [], []) := by decide +kernel
theorem bf196_17 : am_fetch (am_mth 196) 17 = some (.getfield 9, 3, [0, 0, 0, 1089], [0]) := by decide +kernel
theorem bf196_20 : am_fetch (am_mth 196) 20 = some (.iload_n 1, 1, [], [0]) := by decide +kernel
theorem bf196_21 : am_fetch (am_mth 196) 21 = some (.invokestatic 498, 3, [], [0, 1]) := by decide +kernel
theorem bf196_24 : am_fetch (am_mth 196) 24 = some (.ireturn, 1, [2], [0, 1]) := by decide +kernel
theorem bk196_0 {w : am_Wd} {l0 : Nat} {l1 : Int32} : am_run 196 0 [some (.ref l0), some (.int l1)] [] w = (am_kf w l0 0).bind fun _ => (am_x 61 [.ref l0] w).bind fun r => bct r fun v w' => am_run 196 4 [some (.ref l0), some (.int l1)] (v.toList ++ []) w' := by
  refine (bu (ls'' := [some (.ref l0), some (.int l1)]) (st' := [.ref l0]) bf196_0 bf196_1 rfl rfl).trans ?_
  exact bkV bf196_1 bf196_4 rfl (by decide +kernel) (Nat.le_of_ble_eq_true rfl) rfl (bhd rfl)
theorem bk196_4 {w : am_Wd} {l0 : Nat} {l1 : Int32} {s0 : Int32} : am_run 196 4 [some (.ref l0), some (.int l1)] [.int s0] w = if s0 = nI 0 then am_run 196 16 [some (.ref l0), some (.int l1)] [] w else am_run 196 7 [some (.ref l0), some (.int l1)] [] w := by
  exact bifc bf196_4 rfl bf196_16 bf196_7 rfl rfl rfl
theorem bk196_16 {w : am_Wd} {l0 : Nat} {l1 : Int32} : am_run 196 16 [some (.ref l0), some (.int l1)] [] w = (am_gf w l0 0 0).bind fun v => am_run 196 20 [none, some (.int l1)] (v :: []) w := by
  refine (bu (ls'' := [none, some (.int l1)]) (st' := [.ref l0]) bf196_16 bf196_17 rfl rfl).trans ?_
  exact bh bf196_17 bf196_20 rfl (fun _ _ => am_ge_rf w) rfl
theorem bk196_7 {w : am_Wd} {l0 : Nat} {l1 : Int32} : am_run 196 7 [some (.ref l0), some (.int l1)] [] w = (am_gf w l0 0 0).bind fun v => am_run 196 11 [none, some (.int l1)] (v :: []) w := by
  refine (bu (ls'' := [none, some (.int l1)]) (st' := [.ref l0]) bf196_7 bf196_8 rfl rfl).trans ?_
  exact bh bf196_8 bf196_11 rfl (fun _ _ => am_ge_rf w) rfl
-- bk196_20: list index out of range
theorem bk196_11 {w : am_Wd} {l1 : Int32} {s0 : Nat} : am_run 196 11 [none, some (.int l1)] [.ref s0] w = (am_x 153 [.ref s0, .int l1] w).bind fun r => bct r fun v w' => am_run 196 15 [none, none] (v.toList ++ []) w' := by
  refine (bu (ls'' := [none, none]) (st' := [.int l1, .ref s0]) bf196_11 bf196_12 rfl rfl).trans ?_
  exact bkS bf196_12 bf196_15 rfl (by decide +kernel) (Nat.le_of_ble_eq_true rfl) rfl (bhd rfl)
theorem bk196_15 {w : am_Wd} {s0 : Int32} (hb : am_ok (am_rt 2) (.int s0) = true) : am_run 196 15 [none, none] [.int s0] w = some (.inl (some (.int s0)), w) := by
  exact am_e2 bf196_15 (by unfold am_stp; exact if_pos ⟨by decide, hb⟩) (am_ge_rf w)
theorem bf197_0 : am_fetch (am_mth 197) 0 = some (.aload_n 0, 1, [], [2, 3, 4]) := by decide +kernel
theorem bf197_1 : am_fetch (am_mth 197) 1 = some (.invokespecial 1, 3, [1, 974, 85, 86], [2, 3, 4]) := by decide +kernel
theorem bf197_4 : am_fetch (am_mth 197) 4 = some (.aload_n 1, 1, [], [2, 3, 4]) := by decide +kernel
theorem bf197_5 : am_fetch (am_mth 197) 5 = some (.invokevirtual 552, 3, [2, 64, 0, 1, 975, 977, 978, 976, 73], [2, 3, 4]) := by decide +kernel
theorem bf197_8 : am_fetch (am_mth 197) 8 = some (.astore_n 3, 1, [], [2, 3, 4]) := by decide +kernel
theorem bf197_9 : am_fetch (am_mth 197) 9 = some (.aload_n 1, 1, [], [2, 4]) := by decide +kernel
theorem bf197_10 : am_fetch (am_mth 197) 10 = some (.invokevirtual 549, 3, [3, 112, 0, 1, 980, 982, 981, 983, 984, 74, 67], [2, 4]) := by decide +kernel
theorem bf197_13 : am_fetch (am_mth 197) 13 = some (.istore 4, 2, [], [2, 4]) := by decide +kernel
theorem bf197_15 : am_fetch (am_mth 197) 15 = some (.aload_n 1, 1, [], [2]) := by decide +kernel
theorem bf197_16 : am_fetch (am_mth 197) 16 = some (.invokevirtual 1047, 3, [2, 66, 0, 1, 988, 908, 909, 907, 73], [2]) := by decide +kernel
theorem bf197_19 : am_fetch (am_mth 197) 19 = some (.ifCond .eq 22, 3, [], [2]) := by decide +kernel
theorem bf197_22 : am_fetch (am_mth 197) 22 = some (.aload_n 0, 1, [], [1, 2]) := by decide +kernel
theorem bf197_23 : am_fetch (am_mth 197) 23 = some (.iconst 0, 1, [], [1, 2]) := by decide +kernel
theorem bf197_24 : am_fetch (am_mth 197) 24 = some (.putfield 15, 3, [0, 0, 1, 1090], [1, 2]) := by decide +kernel
theorem bf197_27 : am_fetch (am_mth 197) 27 = some (.aload_n 0, 1, [], [1, 2]) := by decide +kernel
theorem bf197_28 : am_fetch (am_mth 197) 28 = some (.aload_n 3, 1, [], [0, 1, 2]) := by decide +kernel
theorem bf197_29 : am_fetch (am_mth 197) 29 = some (.iconst 0, 1, [], [0, 1, 2, 3]) := by decide +kernel
theorem bf197_30 : am_fetch (am_mth 197) 30 = some (.iload 4, 2, [], [0, 1, 2, 3]) := by decide +kernel
theorem bf197_32 : am_fetch (am_mth 197) 32 = some (.invokestatic 54, 3, [0, 156, 3, 989, 990, 68], [0, 1, 2, 3, 4]) := by decide +kernel
theorem bf197_35 : am_fetch (am_mth 197) 35 = some (.putfield 9, 3, [0, 0, 0, 1089], [0, 1, 2, 3, 4]) := by decide +kernel
theorem bf197_38 : am_fetch (am_mth 197) 38 = some (.goto 59, 3, [], [0, 1, 2, 3, 4]) := by decide +kernel
theorem bf197_41 : am_fetch (am_mth 197) 41 = some (.getstatic 38, 3, [0, 1, 1058], [2]) := by decide +kernel
theorem bf197_44 : am_fetch (am_mth 197) 44 = some (.ifCond .eq 35, 3, [], [2]) := by decide +kernel
theorem bf197_47 : am_fetch (am_mth 197) 47 = some (.aload_n 1, 1, [], [2]) := by decide +kernel
theorem bf197_48 : am_fetch (am_mth 197) 48 = some (.getfield 1048, 3, [0, 1, 2, 855], [1, 2]) := by decide +kernel
theorem bf197_51 : am_fetch (am_mth 197) 51 = some (.ifCond .eq 28, 3, [], [1, 2]) := by decide +kernel
theorem bf197_54 : am_fetch (am_mth 197) 54 = some (.aload_n 0, 1, [], [1, 2]) := by decide +kernel
theorem bf197_55 : am_fetch (am_mth 197) 55 = some (.aload_n 3, 1, [], [1, 2]) := by decide +kernel
theorem bf197_56 : am_fetch (am_mth 197) 56 = some (.iconst 0, 1, [], [1, 2, 3]) := by decide +kernel
theorem bf197_57 : am_fetch (am_mth 197) 57 = some (.iload 4, 2, [], [1, 2, 3]) := by decide +kernel
theorem bf197_59 : am_fetch (am_mth 197) 59 = some (.invokestatic 1051, 3, [], [1, 2, 3]) := by decide +kernel
theorem bf197_62 : am_fetch (am_mth 197) 62 = some (.putfield 9, 3, [0, 0, 0, 1089], [1, 2, 3]) := by decide +kernel
theorem bf197_65 : am_fetch (am_mth 197) 65 = some (.aload_n 0, 1, [], [1, 2, 3]) := by decide +kernel
theorem bf197_66 : am_fetch (am_mth 197) 66 = some (.aload_n 0, 1, [], [1, 2, 3]) := by decide +kernel
theorem bf197_67 : am_fetch (am_mth 197) 67 = some (.getfield 9, 3, [0, 0, 0, 1089], [0, 1, 2, 3]) := by decide +kernel
theorem bf197_70 : am_fetch (am_mth 197) 70 = some (.iload 4, 2, [], [0, 1, 2, 3]) := by decide +kernel
theorem bf197_72 : am_fetch (am_mth 197) 72 = some (.invokestatic 47, 3, [], [0, 1, 2, 3, 4]) := by decide +kernel
theorem bf197_75 : am_fetch (am_mth 197) 75 = some (.putfield 15, 3, [0, 0, 1, 1090], [0, 1, 2, 3, 4]) := by decide +kernel
theorem bf197_78 : am_fetch (am_mth 197) 78 = some (.return_, 1, [], [0, 1, 2, 3, 4]) := by decide +kernel
theorem bf197_79 : am_fetch (am_mth 197) 79 = some (.aload_n 0, 1, [], [1, 2]) := by decide +kernel
theorem bf197_80 : am_fetch (am_mth 197) 80 = some (.iconst 1, 1, [], [1, 2]) := by decide +kernel
theorem bf197_81 : am_fetch (am_mth 197) 81 = some (.putfield 15, 3, [0, 0, 1, 1090], [1, 2]) := by decide +kernel
theorem bf197_84 : am_fetch (am_mth 197) 84 = some (.aload_n 0, 1, [], [1, 2]) := by decide +kernel
theorem bf197_85 : am_fetch (am_mth 197) 85 = some (.aload_n 3, 1, [], [0, 1, 2]) := by decide +kernel
theorem bf197_86 : am_fetch (am_mth 197) 86 = some (.iconst 0, 1, [], [0, 1, 2, 3]) := by decide +kernel
theorem bf197_87 : am_fetch (am_mth 197) 87 = some (.iload 4, 2, [], [0, 1, 2, 3]) := by decide +kernel
theorem bf197_89 : am_fetch (am_mth 197) 89 = some (.iconst 1, 1, [], [0, 1, 2, 3, 4]) := by decide +kernel
theorem bf197_90 : am_fetch (am_mth 197) 90 = some (.ishl, 1, [], [0, 1, 2, 3, 4]) := by decide +kernel
theorem bf197_91 : am_fetch (am_mth 197) 91 = some (.invokestatic 54, 3, [0, 156, 3, 989, 990, 68], [0, 1, 2, 3, 4]) := by decide +kernel
theorem bf197_94 : am_fetch (am_mth 197) 94 = some (.putfield 9, 3, [0, 0, 0, 1089], [0, 1, 2, 3, 4]) := by decide +kernel
theorem bf197_97 : am_fetch (am_mth 197) 97 = some (.return_, 1, [], [0, 1, 2, 3, 4]) := by decide +kernel
theorem bk197_0 {w : am_Wd} {l0 : Nat} {l1 : Nat} : am_run 197 0 [some (.ref l0), some (.ref l1), none, none, none] [] w = (am_kf w l1 1).bind fun _ => (am_x 64 [.ref l1] w).bind fun r => bct r fun v w' => am_run 197 8 [some (.ref l0), some (.ref l1), none, none, none] (v.toList ++ []) w' := by
  refine (bu (ls'' := [some (.ref l0), some (.ref l1), none, none, none]) (st' := [.ref l0]) bf197_0 bf197_1 rfl rfl).trans ?_
  refine (bu (ls'' := [some (.ref l0), some (.ref l1), none, none, none]) (st' := []) bf197_1 bf197_4 rfl rfl).trans ?_
  refine (bu (ls'' := [some (.ref l0), some (.ref l1), none, none, none]) (st' := [.ref l1]) bf197_4 bf197_5 rfl rfl).trans ?_
  exact bkV bf197_5 bf197_8 rfl (by decide +kernel) (Nat.le_of_ble_eq_true rfl) rfl (bhd rfl)
theorem bk197_8 {w : am_Wd} {l0 : Nat} {l1 : Nat} {s0 : Nat} : am_run 197 8 [some (.ref l0), some (.ref l1), none, none, none] [.ref s0] w = (am_kf w l1 1).bind fun _ => (am_x 112 [.ref l1] w).bind fun r => bct r fun v w' => am_run 197 13 [some (.ref l0), some (.ref l1), none, some (.ref s0), none] (v.toList ++ []) w' := by
  refine (bu (ls'' := [some (.ref l0), some (.ref l1), none, some (.ref s0), none]) (st' := []) bf197_8 bf197_9 rfl rfl).trans ?_
  refine (bu (ls'' := [some (.ref l0), some (.ref l1), none, some (.ref s0), none]) (st' := [.ref l1]) bf197_9 bf197_10 rfl rfl).trans ?_
  exact bkV bf197_10 bf197_13 rfl (by decide +kernel) (Nat.le_of_ble_eq_true rfl) rfl (bhd rfl)
theorem bk197_13 {w : am_Wd} {l0 : Nat} {l1 : Nat} {l3 : Nat} {s0 : Int32} : am_run 197 13 [some (.ref l0), some (.ref l1), none, some (.ref l3), none] [.int s0] w = (am_kf w l1 1).bind fun _ => (am_x 66 [.ref l1] w).bind fun r => bct r fun v w' => am_run 197 19 [some (.ref l0), some (.ref l1), none, some (.ref l3), some (.int s0)] (v.toList ++ []) w' := by
  refine (bu (ls'' := [some (.ref l0), some (.ref l1), none, some (.ref l3), some (.int s0)]) (st' := []) bf197_13 bf197_15 rfl rfl).trans ?_
  refine (bu (ls'' := [some (.ref l0), some (.ref l1), none, some (.ref l3), some (.int s0)]) (st' := [.ref l1]) bf197_15 bf197_16 rfl rfl).trans ?_
  exact bkV bf197_16 bf197_19 rfl (by decide +kernel) (Nat.le_of_ble_eq_true rfl) rfl (bhd rfl)
theorem bk197_19 {w : am_Wd} {l0 : Nat} {l1 : Nat} {l3 : Nat} {l4 : Int32} {s0 : Int32} : am_run 197 19 [some (.ref l0), some (.ref l1), none, some (.ref l3), some (.int l4)] [.int s0] w = if s0 = nI 0 then am_run 197 41 [some (.ref l0), some (.ref l1), none, some (.ref l3), some (.int l4)] [] w else am_run 197 22 [some (.ref l0), none, none, some (.ref l3), some (.int l4)] [] w := by
  exact bifc bf197_19 rfl bf197_41 bf197_22 rfl rfl rfl
theorem bk197_41 {w : am_Wd} {l0 : Nat} {l1 : Nat} {l3 : Nat} {l4 : Int32} : am_run 197 41 [some (.ref l0), some (.ref l1), none, some (.ref l3), some (.int l4)] [] w = if (nI 1) = nI 0 then am_run 197 79 [some (.ref l0), none, none, some (.ref l3), some (.int l4)] [] w else am_run 197 47 [some (.ref l0), some (.ref l1), none, some (.ref l3), some (.int l4)] [] w := by
  refine (bu (ls'' := [some (.ref l0), some (.ref l1), none, some (.ref l3), some (.int l4)]) (st' := [.int (nI 1)]) bf197_41 bf197_44 rfl rfl).trans ?_
  exact bifc bf197_44 rfl bf197_79 bf197_47 rfl rfl rfl
theorem bk197_22 {w : am_Wd} {l0 : Nat} {l3 : Nat} {l4 : Int32} : am_run 197 22 [some (.ref l0), none, none, some (.ref l3), some (.int l4)] [] w = (am_pf w l0 0 1 (.int (nI 0))).bind fun w' => am_run 197 27 [some (.ref l0), none, none, some (.ref l3), some (.int l4)] [] w' := by
  refine (bu (ls'' := [some (.ref l0), none, none, some (.ref l3), some (.int l4)]) (st' := [.ref l0]) bf197_22 bf197_23 rfl rfl).trans ?_
  refine (bu (ls'' := [some (.ref l0), none, none, some (.ref l3), some (.int l4)]) (st' := [.int (nI 0), .ref l0]) bf197_23 bf197_24 rfl rfl).trans ?_
  exact bh bf197_24 bf197_27 rfl (bge_pf) rfl
theorem bk197_79 {w : am_Wd} {l0 : Nat} {l3 : Nat} {l4 : Int32} : am_run 197 79 [some (.ref l0), none, none, some (.ref l3), some (.int l4)] [] w = (am_pf w l0 0 1 (.int (nI 1))).bind fun w' => am_run 197 84 [some (.ref l0), none, none, some (.ref l3), some (.int l4)] [] w' := by
  refine (bu (ls'' := [some (.ref l0), none, none, some (.ref l3), some (.int l4)]) (st' := [.ref l0]) bf197_79 bf197_80 rfl rfl).trans ?_
  refine (bu (ls'' := [some (.ref l0), none, none, some (.ref l3), some (.int l4)]) (st' := [.int (nI 1), .ref l0]) bf197_80 bf197_81 rfl rfl).trans ?_
  exact bh bf197_81 bf197_84 rfl (bge_pf) rfl
theorem bk197_47 {w : am_Wd} {l0 : Nat} {l1 : Nat} {l3 : Nat} {l4 : Int32} : am_run 197 47 [some (.ref l0), some (.ref l1), none, some (.ref l3), some (.int l4)] [] w = (am_gf w l1 1 2).bind fun v => am_run 197 51 [some (.ref l0), none, none, some (.ref l3), some (.int l4)] (v :: []) w := by
  refine (bu (ls'' := [some (.ref l0), none, none, some (.ref l3), some (.int l4)]) (st' := [.ref l1]) bf197_47 bf197_48 rfl rfl).trans ?_
  exact bh bf197_48 bf197_51 rfl (fun _ _ => am_ge_rf w) rfl
theorem bk197_27 {w : am_Wd} {l0 : Nat} {l3 : Nat} {l4 : Int32} : am_run 197 27 [some (.ref l0), none, none, some (.ref l3), some (.int l4)] [] w = (am_x 156 [.ref l3, .int (nI 0), .int l4] w).bind fun r => bct r fun v w' => am_run 197 35 [none, none, none, none, none] (v.toList ++ [.ref l0]) w' := by
  refine (bu (ls'' := [none, none, none, some (.ref l3), some (.int l4)]) (st' := [.ref l0]) bf197_27 bf197_28 rfl rfl).trans ?_
  refine (bu (ls'' := [none, none, none, none, some (.int l4)]) (st' := [.ref l3, .ref l0]) bf197_28 bf197_29 rfl rfl).trans ?_
  refine (bu (ls'' := [none, none, none, none, some (.int l4)]) (st' := [.int (nI 0), .ref l3, .ref l0]) bf197_29 bf197_30 rfl rfl).trans ?_
  refine (bu (ls'' := [none, none, none, none, none]) (st' := [.int l4, .int (nI 0), .ref l3, .ref l0]) bf197_30 bf197_32 rfl rfl).trans ?_
  exact bkS bf197_32 bf197_35 rfl (by decide +kernel) (Nat.le_of_ble_eq_true rfl) rfl (bhd rfl)
theorem bk197_84 {w : am_Wd} {l0 : Nat} {l3 : Nat} {l4 : Int32} : am_run 197 84 [some (.ref l0), none, none, some (.ref l3), some (.int l4)] [] w = (am_x 156 [.ref l3, .int (nI 0), .int (bj_ishl l4 (nI 1))] w).bind fun r => bct r fun v w' => am_run 197 94 [none, none, none, none, none] (v.toList ++ [.ref l0]) w' := by
  refine (bu (ls'' := [none, none, none, some (.ref l3), some (.int l4)]) (st' := [.ref l0]) bf197_84 bf197_85 rfl rfl).trans ?_
  refine (bu (ls'' := [none, none, none, none, some (.int l4)]) (st' := [.ref l3, .ref l0]) bf197_85 bf197_86 rfl rfl).trans ?_
  refine (bu (ls'' := [none, none, none, none, some (.int l4)]) (st' := [.int (nI 0), .ref l3, .ref l0]) bf197_86 bf197_87 rfl rfl).trans ?_
  refine (bu (ls'' := [none, none, none, none, none]) (st' := [.int l4, .int (nI 0), .ref l3, .ref l0]) bf197_87 bf197_89 rfl rfl).trans ?_
  refine (bu (ls'' := [none, none, none, none, none]) (st' := [.int (nI 1), .int l4, .int (nI 0), .ref l3, .ref l0]) bf197_89 bf197_90 rfl rfl).trans ?_
  refine (bu (ls'' := [none, none, none, none, none]) (st' := [.int (bj_ishl l4 (nI 1)), .int (nI 0), .ref l3, .ref l0]) bf197_90 bf197_91 rfl rfl).trans ?_
  exact bkS bf197_91 bf197_94 rfl (by decide +kernel) (Nat.le_of_ble_eq_true rfl) rfl (bhd rfl)
theorem bk197_51 {w : am_Wd} {l0 : Nat} {l3 : Nat} {l4 : Int32} {s0 : Int32} : am_run 197 51 [some (.ref l0), none, none, some (.ref l3), some (.int l4)] [.int s0] w = if s0 = nI 0 then am_run 197 79 [some (.ref l0), none, none, some (.ref l3), some (.int l4)] [] w else am_run 197 54 [some (.ref l0), none, none, some (.ref l3), some (.int l4)] [] w := by
  exact bifc bf197_51 rfl bf197_79 bf197_54 rfl rfl rfl
theorem bk197_35 {w : am_Wd} {s0 : Nat} {s1 : Nat} : am_run 197 35 [none, none, none, none, none] [.ref s0, .ref s1] w = (am_pf w s1 0 0 (.ref s0)).bind fun w' => am_run 197 38 [none, none, none, none, none] [] w' := by
  exact bh bf197_35 bf197_38 rfl (bge_pf) rfl
theorem bk197_94 {w : am_Wd} {s0 : Nat} {s1 : Nat} : am_run 197 94 [none, none, none, none, none] [.ref s0, .ref s1] w = (am_pf w s1 0 0 (.ref s0)).bind fun w' => am_run 197 97 [none, none, none, none, none] [] w' := by
  exact bh bf197_94 bf197_97 rfl (bge_pf) rfl
-- bk197_54: list index out of range
theorem bk197_38 {w : am_Wd}  : am_run 197 38 [none, none, none, none, none] [] w = am_run 197 97 [none, none, none, none, none] [] w := by
  refine (bu (ls'' := [none, none, none, none, none]) (st' := []) bf197_38 bf197_97 rfl rfl).trans ?_
  rfl
theorem bk197_97 {w : am_Wd}  : am_run 197 97 [none, none, none, none, none] [] w = some (.inl none, w) := by
  exact am_e2 bf197_97 rfl (am_ge_rf w)
theorem bf198_0 : am_fetch (am_mth 198) 0 = some (.aload_n 1, 1, [], [2]) := by decide +kernel
theorem bf198_1 : am_fetch (am_mth 198) 1 = some (.ifnonnull 8, 3, [], [2]) := by decide +kernel
theorem bf198_4 : am_fetch (am_mth 198) 4 = some (.aload_n 0, 1, [], [1, 2]) := by decide +kernel
theorem bf198_5 : am_fetch (am_mth 198) 5 = some (.invokevirtual 204, 3, [], [0, 1, 2]) := by decide +kernel
theorem bf198_8 : am_fetch (am_mth 198) 8 = some (.areturn, 1, [], [0, 1, 2]) := by decide +kernel
theorem bf198_9 : am_fetch (am_mth 198) 9 = some (.aload_n 1, 1, [], [2]) := by decide +kernel
theorem bf198_10 : am_fetch (am_mth 198) 10 = some (.invokevirtual 32, 3, [0, 110, 0, 0, 1050, 1051, 1052, 75], [2]) := by decide +kernel
theorem bf198_13 : am_fetch (am_mth 198) 13 = some (.istore_n 2, 1, [], [2]) := by decide +kernel
theorem bf198_14 : am_fetch (am_mth 198) 14 = some (.aload_n 0, 1, [], []) := by decide +kernel
theorem bf198_15 : am_fetch (am_mth 198) 15 = some (.aload_n 0, 1, [], []) := by decide +kernel
theorem bf198_16 : am_fetch (am_mth 198) 16 = some (.getfield 79, 3, [0, 1, 3, 856], []) := by decide +kernel
theorem bf198_19 : am_fetch (am_mth 198) 19 = some (.iload_n 2, 1, [], []) := by decide +kernel
theorem bf198_20 : am_fetch (am_mth 198) 20 = some (.iadd, 1, [], []) := by decide +kernel
theorem bf198_21 : am_fetch (am_mth 198) 21 = some (.invokevirtual 100, 3, [2, 63, 1, 1, 877, 1711, 1745, 879, 73], []) := by decide +kernel
theorem bf198_24 : am_fetch (am_mth 198) 24 = some (.aload_n 0, 1, [], []) := by decide +kernel
theorem bf198_25 : am_fetch (am_mth 198) 25 = some (.aload_n 0, 1, [], []) := by decide +kernel
theorem bf198_26 : am_fetch (am_mth 198) 26 = some (.getfield 79, 3, [0, 1, 3, 856], []) := by decide +kernel
theorem bf198_29 : am_fetch (am_mth 198) 29 = some (.aload_n 1, 1, [], []) := by decide +kernel
theorem bf198_30 : am_fetch (am_mth 198) 30 = some (.invokevirtual 208, 3, [2, 155, 2, 1, 1059, 1717, 1746, 1061, 73], [1]) := by decide +kernel
theorem bf198_33 : am_fetch (am_mth 198) 33 = some (.aload_n 0, 1, [], [1]) := by decide +kernel
theorem bf198_34 : am_fetch (am_mth 198) 34 = some (.dup, 1, [], [1]) := by decide +kernel
theorem bf198_35 : am_fetch (am_mth 198) 35 = some (.getfield 79, 3, [0, 1, 3, 856], [1]) := by decide +kernel
theorem bf198_38 : am_fetch (am_mth 198) 38 = some (.iload_n 2, 1, [], [1]) := by decide +kernel
theorem bf198_39 : am_fetch (am_mth 198) 39 = some (.iadd, 1, [], [1, 2]) := by decide +kernel
theorem bf198_40 : am_fetch (am_mth 198) 40 = some (.putfield 79, 3, [0, 1, 3, 856], [1, 2]) := by decide +kernel
theorem bf198_43 : am_fetch (am_mth 198) 43 = some (.aload_n 0, 1, [], [1, 2]) := by decide +kernel
theorem bf198_44 : am_fetch (am_mth 198) 44 = some (.areturn, 1, [], [0, 1, 2]) := by decide +kernel
theorem bk198_0 {w : am_Wd} {l0 : Nat} {l1 : Nat} : am_run 198 0 [some (.ref l0), some (.ref l1), none] [] w = (am_kf w l1 0).bind fun _ => (am_x 110 [.ref l1] w).bind fun r => bct r fun v w' => am_run 198 13 [some (.ref l0), some (.ref l1), none] (v.toList ++ []) w' := by
  refine (bu (ls'' := [some (.ref l0), some (.ref l1), none]) (st' := [.ref l1]) bf198_0 bf198_1 rfl rfl).trans ?_
  refine (bu (ls'' := [some (.ref l0), some (.ref l1), none]) (st' := []) bf198_1 bf198_9 rfl rfl).trans ?_
  refine (bu (ls'' := [some (.ref l0), some (.ref l1), none]) (st' := [.ref l1]) bf198_9 bf198_10 rfl rfl).trans ?_
  exact bkV bf198_10 bf198_13 rfl (by decide +kernel) (Nat.le_of_ble_eq_true rfl) rfl (bhd rfl)
theorem bk198_13 {w : am_Wd} {l0 : Nat} {l1 : Nat} {s0 : Int32} : am_run 198 13 [some (.ref l0), some (.ref l1), none] [.int s0] w = (am_gf w l0 1 3).bind fun v => am_run 198 19 [some (.ref l0), some (.ref l1), some (.int s0)] (v :: [.ref l0]) w := by
  refine (bu (ls'' := [some (.ref l0), some (.ref l1), some (.int s0)]) (st' := []) bf198_13 bf198_14 rfl rfl).trans ?_
  refine (bu (ls'' := [some (.ref l0), some (.ref l1), some (.int s0)]) (st' := [.ref l0]) bf198_14 bf198_15 rfl rfl).trans ?_
  refine (bu (ls'' := [some (.ref l0), some (.ref l1), some (.int s0)]) (st' := [.ref l0, .ref l0]) bf198_15 bf198_16 rfl rfl).trans ?_
  exact bh bf198_16 bf198_19 rfl (fun _ _ => am_ge_rf w) rfl
theorem bk198_19 {w : am_Wd} {l0 : Nat} {l1 : Nat} {l2 : Int32} {s0 : Int32} {s1 : Nat} : am_run 198 19 [some (.ref l0), some (.ref l1), some (.int l2)] [.int s0, .ref s1] w = (am_kf w s1 1).bind fun _ => (am_x 63 [.ref s1, .int (s0 + l2)] w).bind fun r => bct r fun v w' => am_run 198 24 [some (.ref l0), some (.ref l1), some (.int l2)] (v.toList ++ []) w' := by
  refine (bu (ls'' := [some (.ref l0), some (.ref l1), some (.int l2)]) (st' := [.int l2, .int s0, .ref s1]) bf198_19 bf198_20 rfl rfl).trans ?_
  refine (bu (ls'' := [some (.ref l0), some (.ref l1), some (.int l2)]) (st' := [.int (s0 + l2), .ref s1]) bf198_20 bf198_21 rfl rfl).trans ?_
  exact bkV bf198_21 bf198_24 rfl (by decide +kernel) (Nat.le_of_ble_eq_true rfl) rfl (bhd rfl)
theorem bk198_24 {w : am_Wd} {l0 : Nat} {l1 : Nat} {l2 : Int32} : am_run 198 24 [some (.ref l0), some (.ref l1), some (.int l2)] [] w = (am_gf w l0 1 3).bind fun v => am_run 198 29 [some (.ref l0), some (.ref l1), some (.int l2)] (v :: [.ref l0]) w := by
  refine (bu (ls'' := [some (.ref l0), some (.ref l1), some (.int l2)]) (st' := [.ref l0]) bf198_24 bf198_25 rfl rfl).trans ?_
  refine (bu (ls'' := [some (.ref l0), some (.ref l1), some (.int l2)]) (st' := [.ref l0, .ref l0]) bf198_25 bf198_26 rfl rfl).trans ?_
  exact bh bf198_26 bf198_29 rfl (fun _ _ => am_ge_rf w) rfl
theorem bk198_29 {w : am_Wd} {l0 : Nat} {l1 : Nat} {l2 : Int32} {s0 : Int32} {s1 : Nat} : am_run 198 29 [some (.ref l0), some (.ref l1), some (.int l2)] [.int s0, .ref s1] w = (am_kf w s1 1).bind fun _ => (am_x 155 [.ref s1, .int s0, .ref l1] w).bind fun r => bct r fun v w' => am_run 198 33 [some (.ref l0), none, some (.int l2)] (v.toList ++ []) w' := by
  refine (bu (ls'' := [some (.ref l0), none, some (.int l2)]) (st' := [.ref l1, .int s0, .ref s1]) bf198_29 bf198_30 rfl rfl).trans ?_
  exact bkV bf198_30 bf198_33 rfl (by decide +kernel) (Nat.le_of_ble_eq_true rfl) rfl (bhd rfl)
theorem bk198_33 {w : am_Wd} {l0 : Nat} {l2 : Int32} : am_run 198 33 [some (.ref l0), none, some (.int l2)] [] w = (am_gf w l0 1 3).bind fun v => am_run 198 38 [some (.ref l0), none, some (.int l2)] (v :: [.ref l0]) w := by
  refine (bu (ls'' := [some (.ref l0), none, some (.int l2)]) (st' := [.ref l0]) bf198_33 bf198_34 rfl rfl).trans ?_
  refine (bu (ls'' := [some (.ref l0), none, some (.int l2)]) (st' := [.ref l0, .ref l0]) bf198_34 bf198_35 rfl rfl).trans ?_
  exact bh bf198_35 bf198_38 rfl (fun _ _ => am_ge_rf w) rfl
theorem bk198_38 {w : am_Wd} {l0 : Nat} {l2 : Int32} {s0 : Int32} {s1 : Nat} : am_run 198 38 [some (.ref l0), none, some (.int l2)] [.int s0, .ref s1] w = (am_pf w s1 1 3 (.int (s0 + l2))).bind fun w' => am_run 198 43 [some (.ref l0), none, none] [] w' := by
  refine (bu (ls'' := [some (.ref l0), none, none]) (st' := [.int l2, .int s0, .ref s1]) bf198_38 bf198_39 rfl rfl).trans ?_
  refine (bu (ls'' := [some (.ref l0), none, none]) (st' := [.int (s0 + l2), .ref s1]) bf198_39 bf198_40 rfl rfl).trans ?_
  exact bh bf198_40 bf198_43 rfl (bge_pf) rfl
theorem bk198_43 {w : am_Wd} {l0 : Nat} : am_run 198 43 [some (.ref l0), none, none] [] w = some (.inl (some (.ref l0)), w) := by
  refine (bu (ls'' := [none, none, none]) (st' := [.ref l0]) bf198_43 bf198_44 rfl rfl).trans ?_
  exact am_e2 bf198_44 rfl (am_ge_rf w)
theorem bf221_0 : am_fetch (am_mth 221) 0 = some (.aload_n 0, 1, [], []) := by decide +kernel
theorem bf221_1 : am_fetch (am_mth 221) 1 = some (.aload_n 1, 1, [], [0]) := by decide +kernel
theorem bf221_2 : am_fetch (am_mth 221) 2 = some (.aconst_null, 1, [], [0, 1]) := by decide +kernel
theorem bf221_3 : am_fetch (am_mth 221) 3 = some (.invokespecial 489, 3, [0, 197, 2, 971, 972, 75], [0, 1]) := by decide +kernel
theorem bf221_6 : am_fetch (am_mth 221) 6 = some (.return_, 1, [], [0, 1]) := by decide +kernel
theorem bk221_0 {w : am_Wd} {l0 : Nat} {l1 : Nat} : am_run 221 0 [some (.ref l0), some (.ref l1)] [] w = (am_x 197 [.ref l0, .ref l1, .null] w).bind fun r => bct r fun v w' => am_run 221 6 [none, none] (v.toList ++ []) w' := by
  refine (bu (ls'' := [none, some (.ref l1)]) (st' := [.ref l0]) bf221_0 bf221_1 rfl rfl).trans ?_
  refine (bu (ls'' := [none, none]) (st' := [.ref l1, .ref l0]) bf221_1 bf221_2 rfl rfl).trans ?_
  refine (bu (ls'' := [none, none]) (st' := [.null, .ref l1, .ref l0]) bf221_2 bf221_3 rfl rfl).trans ?_
  exact bkS bf221_3 bf221_6 rfl (by decide +kernel) (Nat.le_of_ble_eq_true rfl) rfl (bhd rfl)
theorem bk221_6 {w : am_Wd}  : am_run 221 6 [none, none] [] w = some (.inl none, w) := by
  exact am_e2 bf221_6 rfl (am_ge_rf w)
theorem bf222_0 : am_fetch (am_mth 222) 0 = some (.aload_n 0, 1, [], []) := by decide +kernel
theorem bf222_1 : am_fetch (am_mth 222) 1 = some (.aload_n 1, 1, [], []) := by decide +kernel
theorem bf222_2 : am_fetch (am_mth 222) 2 = some (.invokespecial 29, 3, [2, 198, 1, 1, 1040, 1715, 865, 1041, 73], [1]) := by decide +kernel
theorem bf222_5 : am_fetch (am_mth 222) 5 = some (.pop, 1, [], [1]) := by decide +kernel
theorem bf222_6 : am_fetch (am_mth 222) 6 = some (.aload_n 0, 1, [], [1]) := by decide +kernel
theorem bf222_7 : am_fetch (am_mth 222) 7 = some (.areturn, 1, [], [0, 1]) := by decide +kernel
theorem bk222_0 {w : am_Wd} {l0 : Nat} {l1 : Nat} : am_run 222 0 [some (.ref l0), some (.ref l1)] [] w = (am_kf w l0 1).bind fun _ => (am_x 198 [.ref l0, .ref l1] w).bind fun r => bct r fun v w' => am_run 222 5 [some (.ref l0), none] (v.toList ++ []) w' := by
  refine (bu (ls'' := [some (.ref l0), some (.ref l1)]) (st' := [.ref l0]) bf222_0 bf222_1 rfl rfl).trans ?_
  refine (bu (ls'' := [some (.ref l0), none]) (st' := [.ref l1, .ref l0]) bf222_1 bf222_2 rfl rfl).trans ?_
  exact bkV bf222_2 bf222_5 rfl (by decide +kernel) (Nat.le_of_ble_eq_true rfl) rfl (bhd rfl)
theorem bk222_5 {w : am_Wd} {l0 : Nat} {s0 : Nat} : am_run 222 5 [some (.ref l0), none] [.ref s0] w = some (.inl (some (.ref l0)), w) := by
  refine (bu (ls'' := [some (.ref l0), none]) (st' := []) bf222_5 bf222_6 rfl rfl).trans ?_
  refine (bu (ls'' := [none, none]) (st' := [.ref l0]) bf222_6 bf222_7 rfl rfl).trans ?_
  exact am_e2 bf222_7 rfl (am_ge_rf w)
theorem bf238_0 : am_fetch (am_mth 238) 0 = some (.new 18, 3, [0, 0, 4, 966, 967, 75], []) := by decide +kernel
theorem bf238_3 : am_fetch (am_mth 238) 3 = some (.dup, 1, [], []) := by decide +kernel
theorem bf238_4 : am_fetch (am_mth 238) 4 = some (.aload_n 0, 1, [], []) := by decide +kernel
theorem bf238_5 : am_fetch (am_mth 238) 5 = some (.invokespecial 137, 3, [0, 221, 1, 968, 969, 75], [0]) := by decide +kernel
theorem bf238_8 : am_fetch (am_mth 238) 8 = some (.areturn, 1, [], [0]) := by decide +kernel
theorem bk238_0 {w : am_Wd} {l0 : Nat} : am_run 238 0 [some (.ref l0)] [] w = am_run 238 3 [some (.ref l0)] (.ref w.2.1 :: []) (am_nw w (.inr (0, am_df 0 4)) 4) := by
  exact bn bf238_0 bf238_3 rfl rfl (am_ge_nw _ _ _)
theorem bk238_3 {w : am_Wd} {l0 : Nat} {s0 : Nat} : am_run 238 3 [some (.ref l0)] [.ref s0] w = (am_x 221 [.ref s0, .ref l0] w).bind fun r => bct r fun v w' => am_run 238 8 [none] (v.toList ++ [.ref s0]) w' := by
  refine (bu (ls'' := [some (.ref l0)]) (st' := [.ref s0, .ref s0]) bf238_3 bf238_4 rfl rfl).trans ?_
  refine (bu (ls'' := [none]) (st' := [.ref l0, .ref s0, .ref s0]) bf238_4 bf238_5 rfl rfl).trans ?_
  exact bkS bf238_5 bf238_8 rfl (by decide +kernel) (Nat.le_of_ble_eq_true rfl) rfl (bhd rfl)
theorem bk238_8 {w : am_Wd} {s0 : Nat} : am_run 238 8 [none] [.ref s0] w = some (.inl (some (.ref s0)), w) := by
  exact am_e2 bf238_8 rfl (am_ge_rf w)
theorem bf267_0 : am_fetch (am_mth 267) 0 = some (.aload_n 0, 1, [], [2]) := by decide +kernel
theorem bf267_1 : am_fetch (am_mth 267) 1 = some (.arraylength, 1, [], [2]) := by decide +kernel
theorem bf267_2 : am_fetch (am_mth 267) 2 = some (.aload_n 1, 1, [], [2]) := by decide +kernel
theorem bf267_3 : am_fetch (am_mth 267) 3 = some (.arraylength, 1, [], [2]) := by decide +kernel
theorem bf267_4 : am_fetch (am_mth 267) 4 = some (.if_icmp .ne 30, 3, [], [2]) := by decide +kernel
theorem bf267_7 : am_fetch (am_mth 267) 7 = some (.iconst 0, 1, [], [2]) := by decide +kernel
theorem bf267_8 : am_fetch (am_mth 267) 8 = some (.istore_n 2, 1, [], [2]) := by decide +kernel
theorem bf267_9 : am_fetch (am_mth 267) 9 = some (.iload_n 2, 1, [], []) := by decide +kernel
theorem bf267_10 : am_fetch (am_mth 267) 10 = some (.aload_n 0, 1, [], []) := by decide +kernel
theorem bf267_11 : am_fetch (am_mth 267) 11 = some (.arraylength, 1, [], []) := by decide +kernel
theorem bf267_12 : am_fetch (am_mth 267) 12 = some (.if_icmp .ge 20, 3, [], []) := by decide +kernel
theorem bf267_15 : am_fetch (am_mth 267) 15 = some (.aload_n 0, 1, [], []) := by decide +kernel
theorem bf267_16 : am_fetch (am_mth 267) 16 = some (.iload_n 2, 1, [], []) := by decide +kernel
theorem bf267_17 : am_fetch (am_mth 267) 17 = some (.baload, 1, [3], []) := by decide +kernel
theorem bf267_18 : am_fetch (am_mth 267) 18 = some (.aload_n 1, 1, [], []) := by decide +kernel
theorem bf267_19 : am_fetch (am_mth 267) 19 = some (.iload_n 2, 1, [], []) := by decide +kernel
theorem bf267_20 : am_fetch (am_mth 267) 20 = some (.baload, 1, [3], []) := by decide +kernel
theorem bf267_21 : am_fetch (am_mth 267) 21 = some (.if_icmp .eq 5, 3, [], []) := by decide +kernel
theorem bf267_24 : am_fetch (am_mth 267) 24 = some (.iconst 0, 1, [], [0, 1, 2]) := by decide +kernel
theorem bf267_25 : am_fetch (am_mth 267) 25 = some (.ireturn, 1, [1], [0, 1, 2]) := by decide +kernel
theorem bf267_26 : am_fetch (am_mth 267) 26 = some (.iinc 2 1, 3, [], []) := by decide +kernel
theorem bf267_29 : am_fetch (am_mth 267) 29 = some (.goto (-20), 3, [], []) := by decide +kernel
theorem bf267_32 : am_fetch (am_mth 267) 32 = some (.iconst 1, 1, [], [0, 1, 2]) := by decide +kernel
theorem bf267_33 : am_fetch (am_mth 267) 33 = some (.ireturn, 1, [1], [0, 1, 2]) := by decide +kernel
theorem bf267_34 : am_fetch (am_mth 267) 34 = some (.iconst 0, 1, [], [0, 1, 2]) := by decide +kernel
theorem bf267_35 : am_fetch (am_mth 267) 35 = some (.ireturn, 1, [1], [0, 1, 2]) := by decide +kernel
theorem bk267_0 {w : am_Wd} {l0 : Nat} {l1 : Nat} : am_run 267 0 [some (.ref l0), some (.ref l1), none] [] w = (am_len w l0).bind fun v => am_run 267 2 [some (.ref l0), some (.ref l1), none] (.int (nI v) :: []) w := by
  refine (bu (ls'' := [some (.ref l0), some (.ref l1), none]) (st' := [.ref l0]) bf267_0 bf267_1 rfl rfl).trans ?_
  exact bh bf267_1 bf267_2 rfl (fun _ _ => am_ge_rf w) rfl
theorem bk267_2 {w : am_Wd} {l0 : Nat} {l1 : Nat} {s0 : Int32} : am_run 267 2 [some (.ref l0), some (.ref l1), none] [.int s0] w = (am_len w l1).bind fun v => am_run 267 4 [some (.ref l0), some (.ref l1), none] (.int (nI v) :: [.int s0]) w := by
  refine (bu (ls'' := [some (.ref l0), some (.ref l1), none]) (st' := [.ref l1, .int s0]) bf267_2 bf267_3 rfl rfl).trans ?_
  exact bh bf267_3 bf267_4 rfl (fun _ _ => am_ge_rf w) rfl
theorem bk267_4 {w : am_Wd} {l0 : Nat} {l1 : Nat} {s0 : Int32} {s1 : Int32} : am_run 267 4 [some (.ref l0), some (.ref l1), none] [.int s0, .int s1] w = if ¬ s1 = s0 then am_run 267 34 [none, none, none] [] w else am_run 267 7 [some (.ref l0), some (.ref l1), none] [] w := by
  exact bic bf267_4 rfl bf267_34 bf267_7 rfl rfl rfl
theorem bk267_34 {w : am_Wd}  : am_run 267 34 [none, none, none] [] w = some (.inl (some (.int (nI 0))), w) := by
  refine (bu (ls'' := [none, none, none]) (st' := [.int (nI 0)]) bf267_34 bf267_35 rfl rfl).trans ?_
  exact am_e2 bf267_35 rfl (am_ge_rf w)
theorem bk267_7 {w : am_Wd} {l0 : Nat} {l1 : Nat} : am_run 267 7 [some (.ref l0), some (.ref l1), none] [] w = am_run 267 9 [some (.ref l0), some (.ref l1), some (.int (nI 0))] [] w := by
  refine (bu (ls'' := [some (.ref l0), some (.ref l1), none]) (st' := [.int (nI 0)]) bf267_7 bf267_8 rfl rfl).trans ?_
  refine (bu (ls'' := [some (.ref l0), some (.ref l1), some (.int (nI 0))]) (st' := []) bf267_8 bf267_9 rfl rfl).trans ?_
  rfl
theorem bk267_9 {w : am_Wd} {l0 : Nat} {l1 : Nat} {l2 : Int32} : am_run 267 9 [some (.ref l0), some (.ref l1), some (.int l2)] [] w = (am_len w l0).bind fun v => am_run 267 12 [some (.ref l0), some (.ref l1), some (.int l2)] (.int (nI v) :: [.int l2]) w := by
  refine (bu (ls'' := [some (.ref l0), some (.ref l1), some (.int l2)]) (st' := [.int l2]) bf267_9 bf267_10 rfl rfl).trans ?_
  refine (bu (ls'' := [some (.ref l0), some (.ref l1), some (.int l2)]) (st' := [.ref l0, .int l2]) bf267_10 bf267_11 rfl rfl).trans ?_
  exact bh bf267_11 bf267_12 rfl (fun _ _ => am_ge_rf w) rfl
theorem bk267_12 {w : am_Wd} {l0 : Nat} {l1 : Nat} {l2 : Int32} {s0 : Int32} {s1 : Int32} : am_run 267 12 [some (.ref l0), some (.ref l1), some (.int l2)] [.int s0, .int s1] w = if s0 ≤ s1 then am_run 267 32 [none, none, none] [] w else am_run 267 15 [some (.ref l0), some (.ref l1), some (.int l2)] [] w := by
  exact bic bf267_12 rfl bf267_32 bf267_15 rfl rfl rfl
theorem bk267_32 {w : am_Wd}  : am_run 267 32 [none, none, none] [] w = some (.inl (some (.int (nI 1))), w) := by
  refine (bu (ls'' := [none, none, none]) (st' := [.int (nI 1)]) bf267_32 bf267_33 rfl rfl).trans ?_
  exact am_e2 bf267_33 rfl (am_ge_rf w)
theorem bk267_15 {w : am_Wd} {l0 : Nat} {l1 : Nat} {l2 : Int32} : am_run 267 15 [some (.ref l0), some (.ref l1), some (.int l2)] [] w = (am_ri 3 w l0 l2).bind fun v => am_run 267 18 [some (.ref l0), some (.ref l1), some (.int l2)] (.int v :: []) w := by
  refine (bu (ls'' := [some (.ref l0), some (.ref l1), some (.int l2)]) (st' := [.ref l0]) bf267_15 bf267_16 rfl rfl).trans ?_
  refine (bu (ls'' := [some (.ref l0), some (.ref l1), some (.int l2)]) (st' := [.int l2, .ref l0]) bf267_16 bf267_17 rfl rfl).trans ?_
  exact bh bf267_17 bf267_18 rfl (fun _ _ => am_ge_rf w) rfl
theorem bk267_18 {w : am_Wd} {l0 : Nat} {l1 : Nat} {l2 : Int32} {s0 : Int32} : am_run 267 18 [some (.ref l0), some (.ref l1), some (.int l2)] [.int s0] w = (am_ri 3 w l1 l2).bind fun v => am_run 267 21 [some (.ref l0), some (.ref l1), some (.int l2)] (.int v :: [.int s0]) w := by
  refine (bu (ls'' := [some (.ref l0), some (.ref l1), some (.int l2)]) (st' := [.ref l1, .int s0]) bf267_18 bf267_19 rfl rfl).trans ?_
  refine (bu (ls'' := [some (.ref l0), some (.ref l1), some (.int l2)]) (st' := [.int l2, .ref l1, .int s0]) bf267_19 bf267_20 rfl rfl).trans ?_
  exact bh bf267_20 bf267_21 rfl (fun _ _ => am_ge_rf w) rfl
theorem bk267_21 {w : am_Wd} {l0 : Nat} {l1 : Nat} {l2 : Int32} {s0 : Int32} {s1 : Int32} : am_run 267 21 [some (.ref l0), some (.ref l1), some (.int l2)] [.int s0, .int s1] w = if s1 = s0 then am_run 267 26 [some (.ref l0), some (.ref l1), some (.int l2)] [] w else am_run 267 24 [none, none, none] [] w := by
  exact bic bf267_21 rfl bf267_26 bf267_24 rfl rfl rfl
theorem bk267_26 {w : am_Wd} {l0 : Nat} {l1 : Nat} {l2 : Int32} : am_run 267 26 [some (.ref l0), some (.ref l1), some (.int l2)] [] w = am_run 267 9 [some (.ref l0), some (.ref l1), some (.int (l2 + (nI 1)))] [] w := by
  refine (bu (ls'' := [some (.ref l0), some (.ref l1), some (.int (l2 + (nI 1)))]) (st' := []) bf267_26 bf267_29 rfl rfl).trans ?_
  refine (bu (ls'' := [some (.ref l0), some (.ref l1), some (.int (l2 + (nI 1)))]) (st' := []) bf267_29 bf267_9 rfl rfl).trans ?_
  rfl
theorem bk267_24 {w : am_Wd}  : am_run 267 24 [none, none, none] [] w = some (.inl (some (.int (nI 0))), w) := by
  refine (bu (ls'' := [none, none, none]) (st' := [.int (nI 0)]) bf267_24 bf267_25 rfl rfl).trans ?_
  exact am_e2 bf267_25 rfl (am_ge_rf w)
theorem bf268_0 : am_fetch (am_mth 268) 0 = some (.aload_n 0, 1, [], [2]) := by decide +kernel
theorem bf268_1 : am_fetch (am_mth 268) 1 = some (.aload_n 1, 1, [], [2]) := by decide +kernel
theorem bf268_2 : am_fetch (am_mth 268) 2 = some (.if_acmp .ne 5, 3, [], [2]) := by decide +kernel
theorem bf268_5 : am_fetch (am_mth 268) 5 = some (.iconst 1, 1, [], [0, 1, 2]) := by decide +kernel
theorem bf268_6 : am_fetch (am_mth 268) 6 = some (.ireturn, 1, [1], [0, 1, 2]) := by decide +kernel
theorem bf268_7 : am_fetch (am_mth 268) 7 = some (.aload_n 1, 1, [], [2]) := by decide +kernel
theorem bf268_8 : am_fetch (am_mth 268) 8 = some (.instanceof 10, 3, [0, 0, 1705], [2]) := by decide +kernel
theorem bf268_11 : am_fetch (am_mth 268) 11 = some (.ifCond .eq 43, 3, [], [2]) := by decide +kernel
theorem bf268_14 : am_fetch (am_mth 268) 14 = some (.aload_n 1, 1, [], [2]) := by decide +kernel
theorem bf268_15 : am_fetch (am_mth 268) 15 = some (.checkcast 10, 3, [0, 0, 1705], [1, 2]) := by decide +kernel
theorem bf268_18 : am_fetch (am_mth 268) 18 = some (.astore_n 2, 1, [], [1, 2]) := by decide +kernel
theorem bf268_19 : am_fetch (am_mth 268) 19 = some (.getstatic 38, 3, [0, 1, 1058], [1]) := by decide +kernel
theorem bf268_22 : am_fetch (am_mth 268) 22 = some (.ifCond .eq 14, 3, [], [1]) := by decide +kernel
theorem bf268_25 : am_fetch (am_mth 268) 25 = some (.aload_n 0, 1, [], [1]) := by decide +kernel
theorem bf268_26 : am_fetch (am_mth 268) 26 = some (.getfield 15, 3, [0, 0, 1, 1090], [1]) := by decide +kernel
theorem bf268_29 : am_fetch (am_mth 268) 29 = some (.aload_n 2, 1, [], [1]) := by decide +kernel
theorem bf268_30 : am_fetch (am_mth 268) 30 = some (.getfield 15, 3, [0, 0, 1, 1090], [1]) := by decide +kernel
theorem bf268_33 : am_fetch (am_mth 268) 33 = some (.if_icmp .ne 21, 3, [], [1]) := by decide +kernel
theorem bf268_36 : am_fetch (am_mth 268) 36 = some (.aload_n 0, 1, [], [1]) := by decide +kernel
theorem bf268_37 : am_fetch (am_mth 268) 37 = some (.getfield 9, 3, [0, 0, 0, 1089], [0, 1]) := by decide +kernel
theorem bf268_40 : am_fetch (am_mth 268) 40 = some (.aload_n 2, 1, [], [0, 1]) := by decide +kernel
theorem bf268_41 : am_fetch (am_mth 268) 41 = some (.getfield 9, 3, [0, 0, 0, 1089], [0, 1, 2]) := by decide +kernel
theorem bf268_44 : am_fetch (am_mth 268) 44 = some (.invokestatic 541, 3, [0, 267, 2, 1706, 1707, 77], [0, 1, 2]) := by decide +kernel
theorem bf268_47 : am_fetch (am_mth 268) 47 = some (.ifCond .eq 7, 3, [], [0, 1, 2]) := by decide +kernel
theorem bf268_50 : am_fetch (am_mth 268) 50 = some (.iconst 1, 1, [], [0, 1, 2]) := by decide +kernel
theorem bf268_51 : am_fetch (am_mth 268) 51 = some (.goto 4, 3, [], [0, 1, 2]) := by decide +kernel
theorem bf268_54 : am_fetch (am_mth 268) 54 = some (.iconst 0, 1, [], [0, 1, 2]) := by decide +kernel
theorem bf268_55 : am_fetch (am_mth 268) 55 = some (.ireturn, 1, [1], [0, 1, 2]) := by decide +kernel
theorem bk268_0 {w : am_Wd} {l0 : Nat} {l1 : Nat} : am_run 268 0 [some (.ref l0), some (.ref l1), none] [] w = if ¬ l0 = l1 then am_run 268 7 [some (.ref l0), some (.ref l1), none] [] w else am_run 268 5 [none, none, none] [] w := by
  refine (bu (ls'' := [some (.ref l0), some (.ref l1), none]) (st' := [.ref l0]) bf268_0 bf268_1 rfl rfl).trans ?_
  refine (bu (ls'' := [some (.ref l0), some (.ref l1), none]) (st' := [.ref l1, .ref l0]) bf268_1 bf268_2 rfl rfl).trans ?_
  exact bia bf268_2 rfl bf268_7 bf268_5 rfl rfl rfl
theorem bk268_7 {w : am_Wd} {l0 : Nat} {l1 : Nat} : am_run 268 7 [some (.ref l0), some (.ref l1), none] [] w = (am_kf w l1 0).bind fun _ => am_run 268 11 [some (.ref l0), some (.ref l1), none] (.int (nI 1) :: []) w := by
  refine (bu (ls'' := [some (.ref l0), some (.ref l1), none]) (st' := [.ref l1]) bf268_7 bf268_8 rfl rfl).trans ?_
  exact bh bf268_8 bf268_11 rfl (fun _ _ => am_ge_rf w) rfl
theorem bk268_5 {w : am_Wd}  : am_run 268 5 [none, none, none] [] w = some (.inl (some (.int (nI 1))), w) := by
  refine (bu (ls'' := [none, none, none]) (st' := [.int (nI 1)]) bf268_5 bf268_6 rfl rfl).trans ?_
  exact am_e2 bf268_6 rfl (am_ge_rf w)
theorem bk268_11 {w : am_Wd} {l0 : Nat} {l1 : Nat} {s0 : Int32} : am_run 268 11 [some (.ref l0), some (.ref l1), none] [.int s0] w = if s0 = nI 0 then am_run 268 54 [none, none, none] [] w else am_run 268 14 [some (.ref l0), some (.ref l1), none] [] w := by
  exact bifc bf268_11 rfl bf268_54 bf268_14 rfl rfl rfl
theorem bk268_54 {w : am_Wd}  : am_run 268 54 [none, none, none] [] w = am_run 268 55 [none, none, none] [.int (nI 0)] w := by
  refine (bu (ls'' := [none, none, none]) (st' := [.int (nI 0)]) bf268_54 bf268_55 rfl rfl).trans ?_
  rfl
theorem bk268_14 {w : am_Wd} {l0 : Nat} {l1 : Nat} : am_run 268 14 [some (.ref l0), some (.ref l1), none] [] w = (am_kf w l1 0).bind fun _ => am_run 268 18 [some (.ref l0), none, none] [.ref l1] w := by
  refine (bu (ls'' := [some (.ref l0), none, none]) (st' := [.ref l1]) bf268_14 bf268_15 rfl rfl).trans ?_
  exact bh bf268_15 bf268_18 rfl (fun _ _ => am_ge_rf w) rfl
theorem bk268_55 {w : am_Wd} {s0 : Int32} (hb : am_ok (am_rt 1) (.int s0) = true) : am_run 268 55 [none, none, none] [.int s0] w = some (.inl (some (.int s0)), w) := by
  exact am_e2 bf268_55 (by unfold am_stp; exact if_pos ⟨by decide, hb⟩) (am_ge_rf w)
theorem bk268_18 {w : am_Wd} {l0 : Nat} {s0 : Nat} : am_run 268 18 [some (.ref l0), none, none] [.ref s0] w = if (nI 1) = nI 0 then am_run 268 36 [some (.ref l0), none, some (.ref s0)] [] w else am_run 268 25 [some (.ref l0), none, some (.ref s0)] [] w := by
  refine (bu (ls'' := [some (.ref l0), none, some (.ref s0)]) (st' := []) bf268_18 bf268_19 rfl rfl).trans ?_
  refine (bu (ls'' := [some (.ref l0), none, some (.ref s0)]) (st' := [.int (nI 1)]) bf268_19 bf268_22 rfl rfl).trans ?_
  exact bifc bf268_22 rfl bf268_36 bf268_25 rfl rfl rfl
theorem bk268_36 {w : am_Wd} {l0 : Nat} {l2 : Nat} : am_run 268 36 [some (.ref l0), none, some (.ref l2)] [] w = (am_gf w l0 0 0).bind fun v => am_run 268 40 [none, none, some (.ref l2)] (v :: []) w := by
  refine (bu (ls'' := [none, none, some (.ref l2)]) (st' := [.ref l0]) bf268_36 bf268_37 rfl rfl).trans ?_
  exact bh bf268_37 bf268_40 rfl (fun _ _ => am_ge_rf w) rfl
theorem bk268_25 {w : am_Wd} {l0 : Nat} {l2 : Nat} : am_run 268 25 [some (.ref l0), none, some (.ref l2)] [] w = (am_gf w l0 0 1).bind fun v => am_run 268 29 [some (.ref l0), none, some (.ref l2)] (v :: []) w := by
  refine (bu (ls'' := [some (.ref l0), none, some (.ref l2)]) (st' := [.ref l0]) bf268_25 bf268_26 rfl rfl).trans ?_
  exact bh bf268_26 bf268_29 rfl (fun _ _ => am_ge_rf w) rfl
theorem bk268_40 {w : am_Wd} {l2 : Nat} {s0 : Nat} : am_run 268 40 [none, none, some (.ref l2)] [.ref s0] w = (am_gf w l2 0 0).bind fun v => am_run 268 44 [none, none, none] (v :: [.ref s0]) w := by
  refine (bu (ls'' := [none, none, none]) (st' := [.ref l2, .ref s0]) bf268_40 bf268_41 rfl rfl).trans ?_
  exact bh bf268_41 bf268_44 rfl (fun _ _ => am_ge_rf w) rfl
theorem bk268_29 {w : am_Wd} {l0 : Nat} {l2 : Nat} {s0 : Int32} : am_run 268 29 [some (.ref l0), none, some (.ref l2)] [.int s0] w = (am_gf w l2 0 1).bind fun v => am_run 268 33 [some (.ref l0), none, some (.ref l2)] (v :: [.int s0]) w := by
  refine (bu (ls'' := [some (.ref l0), none, some (.ref l2)]) (st' := [.ref l2, .int s0]) bf268_29 bf268_30 rfl rfl).trans ?_
  exact bh bf268_30 bf268_33 rfl (fun _ _ => am_ge_rf w) rfl
theorem bk268_44 {w : am_Wd} {s0 : Nat} {s1 : Nat} : am_run 268 44 [none, none, none] [.ref s0, .ref s1] w = (am_x 267 [.ref s1, .ref s0] w).bind fun r => bct r fun v w' => am_run 268 47 [none, none, none] (v.toList ++ []) w' := by
  exact bkS bf268_44 bf268_47 rfl (by decide +kernel) (Nat.le_of_ble_eq_true rfl) rfl (bhd rfl)
theorem bk268_33 {w : am_Wd} {l0 : Nat} {l2 : Nat} {s0 : Int32} {s1 : Int32} : am_run 268 33 [some (.ref l0), none, some (.ref l2)] [.int s0, .int s1] w = if ¬ s1 = s0 then am_run 268 54 [none, none, none] [] w else am_run 268 36 [some (.ref l0), none, some (.ref l2)] [] w := by
  exact bic bf268_33 rfl bf268_54 bf268_36 rfl rfl rfl
theorem bk268_47 {w : am_Wd} {s0 : Int32} : am_run 268 47 [none, none, none] [.int s0] w = if s0 = nI 0 then am_run 268 54 [none, none, none] [] w else am_run 268 50 [none, none, none] [] w := by
  exact bifc bf268_47 rfl bf268_54 bf268_50 rfl rfl rfl
theorem bk268_50 {w : am_Wd}  : am_run 268 50 [none, none, none] [] w = am_run 268 55 [none, none, none] [.int (nI 1)] w := by
  refine (bu (ls'' := [none, none, none]) (st' := [.int (nI 1)]) bf268_50 bf268_51 rfl rfl).trans ?_
  refine (bu (ls'' := [none, none, none]) (st' := [.int (nI 1)]) bf268_51 bf268_55 rfl rfl).trans ?_
  rfl
theorem bx59 {w : am_Wd} {a0 : Nat} : am_x 59 [.ref a0] w = am_run 59 0 [some (.ref a0)] [] w :=
  congrArg (fun l => am_run 59 0 l [] w) (bnr (ls := am_xp [.ref a0] ++ List.replicate (am_ml 59 - (am_xp [.ref a0]).length) none) (ls' := [some (.ref a0)]) bf59_0 rfl)
theorem bx60 {w : am_Wd} {a0 : Nat} {a1 : Nat} {a2 : Int32} : am_x 60 [.ref a0, .ref a1, .int a2] w = am_run 60 0 [some (.ref a0), some (.ref a1), some (.int a2)] [] w :=
  congrArg (fun l => am_run 60 0 l [] w) (bnr (ls := am_xp [.ref a0, .ref a1, .int a2] ++ List.replicate (am_ml 60 - (am_xp [.ref a0, .ref a1, .int a2]).length) none) (ls' := [some (.ref a0), some (.ref a1), some (.int a2)]) bf60_0 rfl)
theorem bx61 {w : am_Wd} {a0 : Nat} : am_x 61 [.ref a0] w = am_run 61 0 [some (.ref a0)] [] w :=
  congrArg (fun l => am_run 61 0 l [] w) (bnr (ls := am_xp [.ref a0] ++ List.replicate (am_ml 61 - (am_xp [.ref a0]).length) none) (ls' := [some (.ref a0)]) bf61_0 rfl)
theorem bx62 {w : am_Wd} {a0 : Int32} : am_x 62 [.int a0] w = am_run 62 0 [some (.int a0)] [] w :=
  congrArg (fun l => am_run 62 0 l [] w) (bnr (ls := am_xp [.int a0] ++ List.replicate (am_ml 62 - (am_xp [.int a0]).length) none) (ls' := [some (.int a0)]) bf62_0 rfl)
theorem bx63 {w : am_Wd} {a0 : Nat} {a1 : Int32} : am_x 63 [.ref a0, .int a1] w = am_run 63 0 [some (.ref a0), some (.int a1), none] [] w :=
  congrArg (fun l => am_run 63 0 l [] w) (bnr (ls := am_xp [.ref a0, .int a1] ++ List.replicate (am_ml 63 - (am_xp [.ref a0, .int a1]).length) none) (ls' := [some (.ref a0), some (.int a1), none]) bf63_0 rfl)
theorem bx64 {w : am_Wd} {a0 : Nat} : am_x 64 [.ref a0] w = am_run 64 0 [some (.ref a0)] [] w :=
  congrArg (fun l => am_run 64 0 l [] w) (bnr (ls := am_xp [.ref a0] ++ List.replicate (am_ml 64 - (am_xp [.ref a0]).length) none) (ls' := [some (.ref a0)]) bf64_0 rfl)
theorem bx65 {w : am_Wd} {a0 : Nat} {a1 : Int32} : am_x 65 [.ref a0, .int a1] w = am_run 65 0 [some (.ref a0), some (.int a1)] [] w :=
  congrArg (fun l => am_run 65 0 l [] w) (bnr (ls := am_xp [.ref a0, .int a1] ++ List.replicate (am_ml 65 - (am_xp [.ref a0, .int a1]).length) none) (ls' := [some (.ref a0), some (.int a1)]) bf65_0 rfl)
theorem bx66 {w : am_Wd} {a0 : Nat} : am_x 66 [.ref a0] w = am_run 66 0 [some (.ref a0)] [] w :=
  congrArg (fun l => am_run 66 0 l [] w) (bnr (ls := am_xp [.ref a0] ++ List.replicate (am_ml 66 - (am_xp [.ref a0]).length) none) (ls' := [some (.ref a0)]) bf66_0 rfl)
theorem bx67 {w : am_Wd} {a0 : Nat} : am_x 67 [.ref a0] w = am_run 67 0 [some (.ref a0)] [] w :=
  congrArg (fun l => am_run 67 0 l [] w) (bnr (ls := am_xp [.ref a0] ++ List.replicate (am_ml 67 - (am_xp [.ref a0]).length) none) (ls' := [some (.ref a0)]) bf67_0 rfl)
theorem bx68 {w : am_Wd} {a0 : Int32} {a1 : Int32} {a2 : Nat} : am_x 68 [.int a0, .int a1, .ref a2] w = am_run 68 0 [some (.int a0), some (.int a1), some (.ref a2), none, none, none, none] [] w :=
  congrArg (fun l => am_run 68 0 l [] w) (bnr (ls := am_xp [.int a0, .int a1, .ref a2] ++ List.replicate (am_ml 68 - (am_xp [.int a0, .int a1, .ref a2]).length) none) (ls' := [some (.int a0), some (.int a1), some (.ref a2), none, none, none, none]) bf68_0 rfl)
theorem bx69 {w : am_Wd} {a0 : Int32} : am_x 69 [.int a0] w = am_run 69 0 [some (.int a0), none, none, none] [] w :=
  congrArg (fun l => am_run 69 0 l [] w) (bnr (ls := am_xp [.int a0] ++ List.replicate (am_ml 69 - (am_xp [.int a0]).length) none) (ls' := [some (.int a0), none, none, none]) bf69_0 rfl)
theorem bx70 {w : am_Wd} {a0 : Int32} {a1 : Int32} : am_x 70 [.int a0, .int a1] w = am_run 70 0 [some (.int a0), some (.int a1)] [] w :=
  congrArg (fun l => am_run 70 0 l [] w) (bnr (ls := am_xp [.int a0, .int a1] ++ List.replicate (am_ml 70 - (am_xp [.int a0, .int a1]).length) none) (ls' := [some (.int a0), some (.int a1)]) bf70_0 rfl)
theorem bx108 {w : am_Wd} {a0 : Int32} {a1 : Int32} : am_x 108 [.int a0, .int a1] w = am_run 108 0 [some (.int a0), some (.int a1)] [] w :=
  congrArg (fun l => am_run 108 0 l [] w) (bnr (ls := am_xp [.int a0, .int a1] ++ List.replicate (am_ml 108 - (am_xp [.int a0, .int a1]).length) none) (ls' := [some (.int a0), some (.int a1)]) bf108_0 rfl)
theorem bx109 {w : am_Wd} {a0 : Nat} {a1 : Nat} {a2 : Int32} {a3 : Int32} : am_x 109 [.ref a0, .ref a1, .int a2, .int a3] w = am_run 109 0 [some (.ref a0), some (.ref a1), some (.int a2), some (.int a3)] [] w :=
  congrArg (fun l => am_run 109 0 l [] w) (bnr (ls := am_xp [.ref a0, .ref a1, .int a2, .int a3] ++ List.replicate (am_ml 109 - (am_xp [.ref a0, .ref a1, .int a2, .int a3]).length) none) (ls' := [some (.ref a0), some (.ref a1), some (.int a2), some (.int a3)]) bf109_0 rfl)
theorem bx110 {w : am_Wd} {a0 : Nat} : am_x 110 [.ref a0] w = am_run 110 0 [some (.ref a0)] [] w :=
  congrArg (fun l => am_run 110 0 l [] w) (bnr (ls := am_xp [.ref a0] ++ List.replicate (am_ml 110 - (am_xp [.ref a0]).length) none) (ls' := [some (.ref a0)]) bf110_0 rfl)
theorem bx111 {w : am_Wd} {a0 : Nat} : am_x 111 [.ref a0] w = am_run 111 0 [some (.ref a0)] [] w :=
  congrArg (fun l => am_run 111 0 l [] w) (bnr (ls := am_xp [.ref a0] ++ List.replicate (am_ml 111 - (am_xp [.ref a0]).length) none) (ls' := [some (.ref a0)]) bf111_0 rfl)
theorem bx112 {w : am_Wd} {a0 : Nat} : am_x 112 [.ref a0] w = am_run 112 0 [some (.ref a0)] [] w :=
  congrArg (fun l => am_run 112 0 l [] w) (bnr (ls := am_xp [.ref a0] ++ List.replicate (am_ml 112 - (am_xp [.ref a0]).length) none) (ls' := [some (.ref a0)]) bf112_0 rfl)
theorem bx113 {w : am_Wd} {a0 : Nat} {a1 : Int32} : am_x 113 [.ref a0, .int a1] w = am_run 113 0 [some (.ref a0), some (.int a1)] [] w :=
  congrArg (fun l => am_run 113 0 l [] w) (bnr (ls := am_xp [.ref a0, .int a1] ++ List.replicate (am_ml 113 - (am_xp [.ref a0, .int a1]).length) none) (ls' := [some (.ref a0), some (.int a1)]) bf113_0 rfl)
theorem bx114 {w : am_Wd} {a0 : Nat} {a1 : Nat} : am_x 114 [.ref a0, .ref a1] w = am_run 114 0 [some (.ref a0), some (.ref a1)] [] w :=
  congrArg (fun l => am_run 114 0 l [] w) (bnr (ls := am_xp [.ref a0, .ref a1] ++ List.replicate (am_ml 114 - (am_xp [.ref a0, .ref a1]).length) none) (ls' := [some (.ref a0), some (.ref a1)]) bf114_0 rfl)
theorem bx115 {w : am_Wd} {a0 : Int32} : am_x 115 [.int a0] w = am_run 115 0 [some (.int a0), none, none] [] w :=
  congrArg (fun l => am_run 115 0 l [] w) (bnr (ls := am_xp [.int a0] ++ List.replicate (am_ml 115 - (am_xp [.int a0]).length) none) (ls' := [some (.int a0), none, none]) bf115_0 rfl)
theorem bx116 {w : am_Wd} {a0 : Nat} {a1 : Int32} {a2 : Int32} : am_x 116 [.ref a0, .int a1, .int a2] w = am_run 116 0 [some (.ref a0), some (.int a1), some (.int a2), none, none] [] w :=
  congrArg (fun l => am_run 116 0 l [] w) (bnr (ls := am_xp [.ref a0, .int a1, .int a2] ++ List.replicate (am_ml 116 - (am_xp [.ref a0, .int a1, .int a2]).length) none) (ls' := [some (.ref a0), some (.int a1), some (.int a2), none, none]) bf116_0 rfl)
theorem bx152 {w : am_Wd} {a0 : Int32} : am_x 152 [.int a0] w = am_run 152 0 [some (.int a0)] [] w :=
  congrArg (fun l => am_run 152 0 l [] w) (bnr (ls := am_xp [.int a0] ++ List.replicate (am_ml 152 - (am_xp [.int a0]).length) none) (ls' := [some (.int a0)]) bf152_0 rfl)
theorem bx153 {w : am_Wd} {a0 : Nat} {a1 : Int32} : am_x 153 [.ref a0, .int a1] w = am_run 153 0 [some (.ref a0), some (.int a1)] [] w :=
  congrArg (fun l => am_run 153 0 l [] w) (bnr (ls := am_xp [.ref a0, .int a1] ++ List.replicate (am_ml 153 - (am_xp [.ref a0, .int a1]).length) none) (ls' := [some (.ref a0), some (.int a1)]) bf153_0 rfl)
theorem bx154 {w : am_Wd} {a0 : Nat} {a1 : Int32} : am_x 154 [.ref a0, .int a1] w = am_run 154 0 [some (.ref a0), some (.int a1)] [] w :=
  congrArg (fun l => am_run 154 0 l [] w) (bnr (ls := am_xp [.ref a0, .int a1] ++ List.replicate (am_ml 154 - (am_xp [.ref a0, .int a1]).length) none) (ls' := [some (.ref a0), some (.int a1)]) bf154_0 rfl)
theorem bx155 {w : am_Wd} {a0 : Nat} {a1 : Int32} {a2 : Nat} : am_x 155 [.ref a0, .int a1, .ref a2] w = am_run 155 0 [some (.ref a0), some (.int a1), some (.ref a2)] [] w :=
  congrArg (fun l => am_run 155 0 l [] w) (bnr (ls := am_xp [.ref a0, .int a1, .ref a2] ++ List.replicate (am_ml 155 - (am_xp [.ref a0, .int a1, .ref a2]).length) none) (ls' := [some (.ref a0), some (.int a1), some (.ref a2)]) bf155_0 rfl)
theorem bx156 {w : am_Wd} {a0 : Nat} {a1 : Int32} {a2 : Int32} : am_x 156 [.ref a0, .int a1, .int a2] w = am_run 156 0 [some (.ref a0), some (.int a1), some (.int a2)] [] w :=
  congrArg (fun l => am_run 156 0 l [] w) (bnr (ls := am_xp [.ref a0, .int a1, .int a2] ++ List.replicate (am_ml 156 - (am_xp [.ref a0, .int a1, .int a2]).length) none) (ls' := [some (.ref a0), some (.int a1), some (.int a2)]) bf156_0 rfl)
theorem bx196 {w : am_Wd} {a0 : Nat} {a1 : Int32} : am_x 196 [.ref a0, .int a1] w = am_run 196 0 [some (.ref a0), some (.int a1)] [] w :=
  congrArg (fun l => am_run 196 0 l [] w) (bnr (ls := am_xp [.ref a0, .int a1] ++ List.replicate (am_ml 196 - (am_xp [.ref a0, .int a1]).length) none) (ls' := [some (.ref a0), some (.int a1)]) bf196_0 rfl)
theorem bx197 {w : am_Wd} {a0 : Nat} {a1 : Nat}  : am_x 197 [.ref a0, .ref a1, .null] w = am_run 197 0 [some (.ref a0), some (.ref a1), none, none, none] [] w :=
  congrArg (fun l => am_run 197 0 l [] w) (bnr (ls := am_xp [.ref a0, .ref a1, .null] ++ List.replicate (am_ml 197 - (am_xp [.ref a0, .ref a1, .null]).length) none) (ls' := [some (.ref a0), some (.ref a1), none, none, none]) bf197_0 rfl)
theorem bx198 {w : am_Wd} {a0 : Nat} {a1 : Nat} : am_x 198 [.ref a0, .ref a1] w = am_run 198 0 [some (.ref a0), some (.ref a1), none] [] w :=
  congrArg (fun l => am_run 198 0 l [] w) (bnr (ls := am_xp [.ref a0, .ref a1] ++ List.replicate (am_ml 198 - (am_xp [.ref a0, .ref a1]).length) none) (ls' := [some (.ref a0), some (.ref a1), none]) bf198_0 rfl)
theorem bx221 {w : am_Wd} {a0 : Nat} {a1 : Nat} : am_x 221 [.ref a0, .ref a1] w = am_run 221 0 [some (.ref a0), some (.ref a1)] [] w :=
  congrArg (fun l => am_run 221 0 l [] w) (bnr (ls := am_xp [.ref a0, .ref a1] ++ List.replicate (am_ml 221 - (am_xp [.ref a0, .ref a1]).length) none) (ls' := [some (.ref a0), some (.ref a1)]) bf221_0 rfl)
theorem bx222 {w : am_Wd} {a0 : Nat} {a1 : Nat} : am_x 222 [.ref a0, .ref a1] w = am_run 222 0 [some (.ref a0), some (.ref a1)] [] w :=
  congrArg (fun l => am_run 222 0 l [] w) (bnr (ls := am_xp [.ref a0, .ref a1] ++ List.replicate (am_ml 222 - (am_xp [.ref a0, .ref a1]).length) none) (ls' := [some (.ref a0), some (.ref a1)]) bf222_0 rfl)
theorem bx238 {w : am_Wd} {a0 : Nat} : am_x 238 [.ref a0] w = am_run 238 0 [some (.ref a0)] [] w :=
  congrArg (fun l => am_run 238 0 l [] w) (bnr (ls := am_xp [.ref a0] ++ List.replicate (am_ml 238 - (am_xp [.ref a0]).length) none) (ls' := [some (.ref a0)]) bf238_0 rfl)
theorem bx267 {w : am_Wd} {a0 : Nat} {a1 : Nat} : am_x 267 [.ref a0, .ref a1] w = am_run 267 0 [some (.ref a0), some (.ref a1), none] [] w :=
  congrArg (fun l => am_run 267 0 l [] w) (bnr (ls := am_xp [.ref a0, .ref a1] ++ List.replicate (am_ml 267 - (am_xp [.ref a0, .ref a1]).length) none) (ls' := [some (.ref a0), some (.ref a1), none]) bf267_0 rfl)
theorem bx268 {w : am_Wd} {a0 : Nat} {a1 : Nat} : am_x 268 [.ref a0, .ref a1] w = am_run 268 0 [some (.ref a0), some (.ref a1), none] [] w :=
  congrArg (fun l => am_run 268 0 l [] w) (bnr (ls := am_xp [.ref a0, .ref a1] ++ List.replicate (am_ml 268 - (am_xp [.ref a0, .ref a1]).length) none) (ls' := [some (.ref a0), some (.ref a1), none]) bf268_0 rfl)
end
section
/-! STRINGS BEING BUILT: what they hold, what appending comes to. Mine. -/
theorem byte_ok (x : Int32) : am_ok .byte (.int (vp_nar .byte x)) = true := by
  rw [vp_nar_byte]
  have h1 := Int8.le_toInt x.toInt8
  have h2 := Int8.toInt_lt x.toInt8
  have h3 : (x.toInt8.toInt32).toInt = x.toInt8.toInt := Int8.toInt_toInt32 _
  refine decide_eq_true ⟨?_, ?_⟩
  · rw [Int32.le_iff_toInt_le, h3]
    exact h1
  · rw [Int32.le_iff_toInt_le, h3]
    show x.toInt8.toInt ≤ 127
    omega
theorem byte_0 : am_ok .byte (.int (0 : Int32)) = true := by decide
/-- nothing old is changed but b and va -/
def chB (w w' : am_Wd) (b va k s : Nat) : Prop := (∀ c, c < w.2.1 → c ≠ b → c ≠ va → w'.1 c = w.1 c) ∧ w.2.1 ≤ w'.2.1 ∧ w'.2.1 ≤ w.2.1 + k ∧ w.2.2.1 ≤ w'.2.2.1 ∧ w'.2.2.1 ≤ w.2.2.1 + s ∧ w'.2.2.2 = w.2.2.2
theorem chB_tr {w w' w'' : am_Wd} {b va k s k' s' : Nat} (h : chB w w' b va k s) (h' : chB w' w'' b va k' s') : chB w w'' b va (k + k') (s + s') := by
  obtain ⟨a1, a2, a3, a4, a5, a6⟩ := h
  obtain ⟨b1, b2, b3, b4, b5, b6⟩ := h'
  exact ⟨fun c hc h1 h2 => (b1 c (by omega) h1 h2).trans (a1 c hc h1 h2), by omega, by omega, by omega, by omega, b6.trans a6⟩
theorem chB_pb {w : am_Wd} {b va : Nat} {e : am_En} : chB w (am_pt w b e) b va 0 0 := ⟨fun c _ h1 _ => pt_n h1, Nat.le_refl _, Nat.le_refl _, Nat.le_refl _, Nat.le_refl _, rfl⟩
theorem chB_pv {w : am_Wd} {b va : Nat} {e : am_En} : chB w (am_pt w va e) b va 0 0 := ⟨fun c _ _ h2 => pt_n h2, Nat.le_refl _, Nat.le_refl _, Nat.le_refl _, Nat.le_refl _, rfl⟩
theorem ext_chB {w0 w w' : am_Wd} {b va k s k' s' : Nat} (e : ext w0 w k s) (hb : w0.2.1 ≤ b) (hv : w0.2.1 ≤ va) (h : chB w w' b va k' s') : ext w0 w' (k + k') (s + s') := by
  obtain ⟨a1, a2, a3, a4, a5, a6⟩ := h
  obtain ⟨b1, b2, b3, b4, b5, b6⟩ := e
  exact ⟨fun c hc => (a1 c (by omega) (by omega) (by omega)).trans (b1 c hc), by omega, by omega, by omega, by omega, a6.trans b6⟩
/-- a string being built: k characters in a row of 16, the first k2 places those of the text T -/
def sBx (w : am_Wd) (b va k k2 : Nat) (T : Nat → Int32) : Prop := cO w b 1 [.ref va, .int (nI 0), .int (nI 0), .int (nI k)] ∧ (∃ f, cI w va 3 16 f ∧ ∀ j, j < 16 → am_ok .byte (.int (f j)) = true ∧ (j < k2 → f j = T j)) ∧ b ≠ va
def sB (w : am_Wd) (b va k : Nat) (T : Nat → Int32) : Prop := sBx w b va k k T
theorem sB.ext {w w' : am_Wd} {b va k c s : Nat} {T : Nat → Int32} (h : sB w b va k T) (hb : b < w.2.1) (hv : va < w.2.1) (e : ext w w' c s) : sB w' b va k T := by
  obtain ⟨h1, ⟨f, h2, h3⟩, h4⟩ := h
  exact ⟨cO_of h1 (e.1 b hb), ⟨f, cI_of h2 (e.1 va hv), h3⟩, h4⟩
theorem bO_0 {va k : Nat} : ([.ref va, .int (nI 0), .int (nI 0), .int (nI k)] : List Value)[0]? = some (.ref va) := rfl
theorem bO_1 {va k : Nat} : ([.ref va, .int (nI 0), .int (nI 0), .int (nI k)] : List Value)[1]? = some (.int (nI 0)) := rfl
theorem bO_3 {va k : Nat} : ([.ref va, .int (nI 0), .int (nI 0), .int (nI k)] : List Value)[3]? = some (.int (nI k)) := rfl
theorem n10 : (nI 1 = nI 0) = False := eq_false (by decide)
theorem shr16 : bj_ishr (nI 16) (nI 0) = nI 16 := by decide
theorem sub16 : ∀ j, j ≤ 16 → (nI j - nI 16 ≤ nI 0) = True := by
  intro j hj
  have h : ∀ j : Fin 17, nI j.val - nI 16 ≤ nI 0 := by decide +kernel
  exact eq_true (h ⟨j, by omega⟩)
/-- a text -/
def sT (w : am_Wd) (s v len : Nat) (F : Nat → Int32) : Prop := am_gf w s 0 0 = some (.ref v) ∧ am_gf w s 0 1 = some (.int (nI 0)) ∧ am_kf w s 0 = some () ∧ (∃ t f, w.1 v = some (.inl (t, len, .inl f)) ∧ t % 8 = 3 ∧ ∀ j, j < len → am_ok .byte (.int (f j)) = true ∧ f j = F j) ∧ len ≤ 3
theorem gf_of {w w' : am_Wd} {a ci k : Nat} (e : w'.1 a = w.1 a) : am_gf w' a ci k = am_gf w a ci k := by unfold am_gf; rw [e]
theorem kf_of {w w' : am_Wd} {a ci : Nat} (e : w'.1 a = w.1 a) : am_kf w' a ci = am_kf w a ci := by unfold am_kf; rw [e]
theorem sT.of {w w' : am_Wd} {s v len : Nat} {F : Nat → Int32} (h : sT w s v len F) (e1 : w'.1 s = w.1 s) (e2 : w'.1 v = w.1 v) : sT w' s v len F := by
  obtain ⟨h1, h2, h3, ⟨t, f, h4, h5, h6⟩, h7⟩ := h
  exact ⟨(gf_of e1).trans h1, (gf_of e1).trans h2, (kf_of e1).trans h3, ⟨t, f, e2.trans h4, h5, h6⟩, h7⟩
theorem sT_lit {w : am_Wd} {g : Nat → Nat} (h : StW w g) {r : Nat} (h1 : 24 ≤ r) (h2 : r ≤ 28) : ∃ k v, w.2.2.2 r = some k ∧ sT w k v (if r = 24 then 0 else if r = 28 then 3 else 1) (litS r) ∧ k < w.2.1 ∧ v < w.2.1 := by
  obtain ⟨-, h, -⟩ := h
  obtain ⟨k, v, f, b1, b2, b3, b4, b5, b6, b7, b8⟩ := h r h1 h2
  have q : (if r = 24 then 0 else if r = 28 then 3 else 1) ≤ 3 := by split; decide; split <;> decide
  refine ⟨k, v, b1, ⟨?_, ?_, ?_, ⟨11, f, b3, rfl, fun j hj => ⟨(b4 j (by omega)).1, (b4 j (by omega)).2 hj⟩⟩, q⟩, b5, b6⟩
  · unfold am_gf; rw [b2]; rfl
  · unfold am_gf; rw [b2]; rfl
  · unfold am_kf; rw [b2]; rfl
section SB
variable {w : am_Wd} {b va k s v len : Nat} {T F : Nat → Int32}
theorem sb_kf (h : sB w b va k T) : am_kf w b 1 = some () := kfc h.1
theorem x66 (h : sB w b va k T) : am_x 66 [.ref b] w = some (.inl (some (.int (nI 1))), w) := by
  simp only [bk66_0, bk66_17, bk66_6, bk66_10, bk66_13, bx66, n10, gfc h.1, bO_1, not_true_eq_false, Option.bind_some, bct_v, bct_t, otl_s, otl_n, List.cons_append, List.nil_append, List.getElem?_cons_zero, List.getElem?_cons_succ, ↓reduceIte]
  exact bk66_18 rfl
theorem x63 (h : sB w b va k T) {j : Nat} (hj : j ≤ 16) : am_x 63 [.ref b, .int (nI j)] w = some (.inl none, w) := by
  obtain ⟨h1, ⟨f, h2, h3⟩, h4⟩ := h
  simp only [bk63_0, bk63_4, bk63_5, bk63_9, bk63_38, bk63_17, bx63, gfc h1, bO_0, lenI h2 (by decide), bO_1, shr16, sub16 j hj, Option.bind_some, bct_v, bct_t, otl_s, otl_n, List.cons_append, List.nil_append, List.getElem?_cons_zero, List.getElem?_cons_succ, ↓reduceIte]
theorem x62 {c : Int32} (h : ¬ nI 255 < c) : am_x 62 [.int c] w = some (.inl (some (.int (nI 1))), w) := by
  rw [bx62, bk62_0, if_neg h, bk62_7]
  exact bk62_12 rfl
theorem sB_put (h : sB w b va k T) (hk : k < 16) (x : Int32) (hx : T k = vp_nar .byte x) : ∃ w1 w2, am_pf w b 1 3 (.int (nI (k + 1))) = some w1 ∧ am_wi 3 w1 va (nI k) (vp_nar .byte x) = some w2 ∧ sB w2 b va (k + 1) T ∧ chB w w2 b va 0 0 := by
  obtain ⟨h1, ⟨f, h2, h3⟩, h4⟩ := h
  have p1 : am_pf w b 1 3 (.int (nI (k + 1))) = some (am_pt w b (.inr (1, [.ref va, .int (nI 0), .int (nI 0), .int (nI (k + 1))]))) := pfc h1 (by show 3 < 4; decide) (by decide)
  have c1 : cI (am_pt w b (.inr (1, [.ref va, .int (nI 0), .int (nI 0), .int (nI (k + 1))]))) va 3 16 f := cI_of h2 (pt_n (Ne.symm h4))
  refine ⟨_, _, p1, wic c1 hk (by decide), ⟨cO_of (w := am_pt w b (.inr (1, [.ref va, .int (nI 0), .int (nI 0), .int (nI (k + 1))]))) pt_s (pt_n h4), ⟨_, pt_s, fun j hj => ?_⟩, h4⟩, chB_tr chB_pb chB_pv⟩
  unfold upd
  by_cases e : j = k
  · rw [if_pos e]
    exact ⟨byte_ok x, fun _ => by rw [e]; exact hx.symm⟩
  · rw [if_neg e]
    exact ⟨(h3 j hj).1, fun q => (h3 j hj).2 (by omega)⟩
theorem x113 (h : sB w b va k T) (hk : k < 16) {c : Int32} (hc : ¬ nI 255 < c) (hT : T k = vp_nar .byte (Int32.toInt8 c).toInt32) : ∃ w', am_x 113 [.ref b, .int c] w = some (.inl (some (.ref b)), w') ∧ sB w' b va (k + 1) T ∧ chB w w' b va 0 0 := by
  obtain ⟨w1, w2, p1, p2, h2, e⟩ := sB_put h hk (Int32.toInt8 c).toInt32 hT
  refine ⟨w2, ?_, h2, e⟩
  simp only [bx113, bk113_0, gfc h.1, bO_3, bk113_5, sb_kf h, nI_add, x63 h (show k + 1 ≤ 16 by omega), bk113_10, x66 h, bk113_14, n10, bk113_17, x62 hc, bk113_21, bk113_24, bO_0, bk113_28, bk113_33, p1, bk113_39, p2, bk113_42, bk113_75, Option.bind_some, bct_v, bct_t, otl_s, otl_n, List.cons_append, List.nil_append, List.getElem?_cons_zero, List.getElem?_cons_succ, ↓reduceIte]
theorem x154 (h : sB w b va k T) (hk : k < 16) {c : Int32} (hc : ¬ nI 255 < c) (hT : T k = vp_nar .byte (Int32.toInt8 c).toInt32) : ∃ w', am_x 154 [.ref b, .int c] w = some (.inl (some (.ref b)), w') ∧ sB w' b va (k + 1) T ∧ chB w w' b va 0 0 := by
  obtain ⟨w1, a1, h1, e1⟩ := x113 h hk hc hT
  refine ⟨w1, ?_, h1, e1⟩
  simp only [bk154_0, bk154_5, bx154, sb_kf h, a1, Option.bind_some, bct_v, bct_t, otl_s, otl_n, List.cons_append, List.nil_append, List.getElem?_cons_zero, List.getElem?_cons_succ, ↓reduceIte]
theorem df1 : am_df 1 4 = [.null, .int 0, .int 0, .int 0] := rfl
theorem df0 : am_df 0 4 = [.null, .int 0, .int 0, .int 0] := rfl
theorem in3 : am_in 3 = .inl (fun _ => 0) := rfl
/-- a new one -/
theorem x111 (hb : cO w b 1 [.null, .int 0, .int 0, .int 0]) (hl : b < w.2.1) (T : Nat → Int32) : ∃ w', am_x 111 [.ref b] w = some (.inl none, w') ∧ sB w' b w.2.1 0 T ∧ w.2.1 < w'.2.1 ∧ chB w w' b w.2.1 1 16 := by
  have n1 : am_na w 3 (nI 16) = some (am_nw w (.inl (3, 16, am_in 3)) 16) := nac (by decide)
  have q0 : cO (am_nw w (.inl (3, 16, am_in 3)) 16) b 1 [.null, .int 0, .int 0, .int 0] := cO_of hb (nw_n (by omega))
  have p0 : am_pf (am_nw w (.inl (3, 16, am_in 3)) 16) b 1 0 (.ref w.2.1) = some (am_pt (am_nw w (.inl (3, 16, am_in 3)) 16) b (.inr (1, [.ref w.2.1, .int 0, .int 0, .int 0]))) := pfc q0 (by show 0 < 4; decide) (by decide)
  have q1 : cO (am_pt (am_nw w (.inl (3, 16, am_in 3)) 16) b (.inr (1, [.ref w.2.1, .int 0, .int 0, .int 0]))) b 1 [.ref w.2.1, .int 0, .int 0, .int 0] := pt_s
  have p1 : am_pf (am_pt (am_nw w (.inl (3, 16, am_in 3)) 16) b (.inr (1, [.ref w.2.1, .int 0, .int 0, .int 0]))) b 1 1 (.int (nI 0)) = some (am_pt (am_nw w (.inl (3, 16, am_in 3)) 16) b (.inr (1, [.ref w.2.1, .int (nI 0), .int (nI 0), .int (nI 0)]))) := by
    rw [pfc q1 (by show 1 < 4; decide) (by decide), pt_pt]
    rfl
  have r0 : (am_nw w (.inl (3, 16, am_in 3)) 16).1 w.2.1 = some (.inl (3, 16, .inl (fun _ => 0))) := nw_s
  refine ⟨am_pt (am_nw w (.inl (3, 16, am_in 3)) 16) b (.inr (1, [.ref w.2.1, .int (nI 0), .int (nI 0), .int (nI 0)])), ?_, ⟨pt_s, ⟨_, (pt_n (by omega)).trans r0, fun _ _ => ⟨byte_0, fun q => absurd q (Nat.not_lt_zero _)⟩⟩, by omega⟩, Nat.lt_succ_self _, ⟨fun c hc h1 h2 => (pt_n h1).trans (nw_n (by omega)), Nat.le_succ _, Nat.le_refl _, Nat.le_add_right _ _, Nat.le_refl _, rfl⟩⟩
  simp only [bx111, bk111_0, bx65, bk65_0, n10, bk65_10, n1, bk65_14, p0, bk65_17, p1, bk65_22, bk65_38, bk111_6, Option.bind_some, bct_v, bct_t, otl_s, otl_n, List.cons_append, List.nil_append, List.getElem?_cons_zero, List.getElem?_cons_succ, ↓reduceIte]
theorem x59 (h : sT w s v len F) : am_x 59 [.ref s] w = some (.inl (some (.int (nI 0))), w) := by
  simp only [bk59_0, bk59_13, bk59_6, bk59_10, bx59, n10, h.2.1, Option.bind_some, bct_v, bct_t, otl_s, otl_n, List.cons_append, List.nil_append, List.getElem?_cons_zero, List.getElem?_cons_succ, ↓reduceIte]
  exact bk59_14 rfl
theorem shr3 : ∀ j, j ≤ 16 → bj_ishr (nI j) (nI 0) = nI j ∧ bj_ishl (nI j) (nI 0) = nI j := by
  intro j hj
  have h : ∀ j : Fin 17, bj_ishr (nI j.val) (nI 0) = nI j.val ∧ bj_ishl (nI j.val) (nI 0) = nI j.val := by decide +kernel
  exact h ⟨j, by omega⟩
theorem sT_len (h : sT w s v len F) : am_len w v = some len := by
  obtain ⟨-, -, -, ⟨t, f, h4, h5, -⟩, -⟩ := h
  unfold am_len
  rw [h4]
  exact if_pos (by omega)
theorem x110 (h : sT w s v len F) : am_x 110 [.ref s] w = some (.inl (some (.int (nI len))), w) := by
  have hl := h.2.2.2.2
  simp only [bk110_0, bk110_4, bk110_5, bk110_9, bx110, h.1, sT_len h, h.2.2.1, x59 h, (shr3 len (by omega)).1, Option.bind_some, bct_v, bct_t, otl_s, otl_n, List.cons_append, List.nil_append, List.getElem?_cons_zero, List.getElem?_cons_succ, ↓reduceIte]
theorem x61 (h : sT w s v len F) : am_x 61 [.ref s] w = some (.inl (some (.int (nI 1))), w) := by
  simp only [bk61_0, bk61_17, bk61_6, bk61_10, bk61_13, bx61, n10, h.2.1, not_true_eq_false, Option.bind_some, bct_v, bct_t, otl_s, otl_n, List.cons_append, List.nil_append, List.getElem?_cons_zero, List.getElem?_cons_succ, ↓reduceIte]
  exact bk61_18 rfl
theorem x114 (h : sB w b va k T) (hs : sT w s v len F) : am_x 114 [.ref b, .ref s] w = some (.inl none, w) := by
  simp only [bk114_0, bk114_21, bk114_6, bk114_10, bk114_14, bx114, n10, gfc h.1, bO_1, hs.2.2.1, x59 hs, Option.bind_some, bct_v, bct_t, otl_s, otl_n, List.cons_append, List.nil_append, List.getElem?_cons_zero, List.getElem?_cons_succ, ↓reduceIte]
/-- a row of bytes copied into the one that is built -/
theorem cy_sb (h : sB w b va k T) {t len : Nat} {f : Nat → Int32} (hv : w.1 v = some (.inl (t, len, .inl f))) (ht : t % 8 = 3) (hf : ∀ j, j < len → am_ok .byte (.int (f j)) = true ∧ f j = T (k + j)) (hk : k + len ≤ 16) : ∃ w', am_cy w v (nI 0) va (nI k) (nI len) = some w' ∧ sBx w' b va k (k + len) T ∧ chB w w' b va 0 0 := by
  obtain ⟨h1, ⟨f2, h2, h3⟩, h4⟩ := h
  have z0 : (nI 0).toNatClampNeg = 0 := nI_clamp (by decide)
  have zk : (nI k).toNatClampNeg = k := nI_clamp (by omega)
  have zl : (nI len).toNatClampNeg = len := nI_clamp (by omega)
  have e : am_cy w v (nI 0) va (nI k) (nI len) = some (am_pt w va (.inl (3, 16, .inl (va_cpy f f2 0 k len)))) := by
    unfold am_cy
    rw [hv, show w.1 va = _ from h2]
    dsimp only
    rw [z0, zk, zl]
    refine if_pos ⟨⟨ht, rfl, nI_pos (by decide), nI_pos (by omega), nI_pos (by omega)⟩, ⟨by omega, by omega⟩, fun i hi => ?_⟩
    rw [Nat.zero_add]
    exact (hf i hi).1
  refine ⟨_, e, ⟨cO_of h1 (pt_n h4), ⟨_, pt_s, fun j hj => ?_⟩, h4⟩, chB_pv⟩
  unfold va_cpy
  by_cases e : k ≤ j ∧ j < k + len
  · rw [if_pos e, Nat.zero_add]
    have := hf (j - k) (by omega)
    exact ⟨this.1, fun _ => by rw [this.2, Nat.add_sub_cancel' e.1]⟩
  · rw [if_neg e]
    exact ⟨(h3 j hj).1, fun q => (h3 j hj).2 (by omega)⟩
theorem x109 (h : sB w b va k T) (hs : sT w s v len F) (hk : k + len ≤ 16) (hF : ∀ j, j < len → F j = T (k + j)) : ∃ w', am_x 109 [.ref s, .ref va, .int (nI k), .int (nI 0)] w = some (.inl none, w') ∧ sBx w' b va k (k + len) T ∧ chB w w' b va 0 0 := by
  have hl := sT_len hs
  have q := x59 hs
  obtain ⟨s1, s2, s3, ⟨t, f, s4, s5, s6⟩, s7⟩ := hs
  obtain ⟨w', a, h', e⟩ := cy_sb h s4 s5 (fun j hj => ⟨(s6 j hj).1, (s6 j hj).2.trans (hF j hj)⟩) hk
  refine ⟨w', ?_, h', e⟩
  simp only [bx109, bk109_0, s3, q, bk109_4, not_true_eq_false, bk109_8, s1, bk109_12, bk109_21, hl, bk109_22, (shr3 k (by omega)).2, a, bk109_25, bk109_43, Option.bind_some, bct_v, bct_t, otl_s, otl_n, List.cons_append, List.nil_append, List.getElem?_cons_zero, List.getElem?_cons_succ, ↓reduceIte]
theorem x155 (h : sB w b va k T) (hs : sT w s v len F) (hk : k + len ≤ 16) (hF : ∀ j, j < len → F j = T (k + j)) : ∃ w', am_x 155 [.ref b, .int (nI k), .ref s] w = some (.inl none, w') ∧ sBx w' b va k (k + len) T ∧ chB w w' b va 0 0 := by
  obtain ⟨w', a, h', e⟩ := x109 h hs hk hF
  refine ⟨w', ?_, h', e⟩
  simp only [bk155_0, bk155_5, bk155_10, bk155_15, bk155_18, bx155, sb_kf h, x114 h hs, gfc h.1, bO_0, bO_1, hs.2.2.1, a, Option.bind_some, bct_v, bct_t, otl_s, otl_n, List.cons_append, List.nil_append, List.getElem?_cons_zero, List.getElem?_cons_succ, ↓reduceIte]
theorem x198 (h : sB w b va k T) (hs : sT w s v len F) (hk : k + len ≤ 16) (hF : ∀ j, j < len → F j = T (k + j)) : ∃ w', am_x 198 [.ref b, .ref s] w = some (.inl (some (.ref b)), w') ∧ sB w' b va (k + len) T ∧ chB w w' b va 0 0 := by
  obtain ⟨w1, a, h', e⟩ := x155 h hs hk hF
  obtain ⟨h1, h2, h4⟩ := h'
  have p1 : am_pf w1 b 1 3 (.int (nI (k + len))) = some (am_pt w1 b (.inr (1, [.ref va, .int (nI 0), .int (nI 0), .int (nI (k + len))]))) := pfc h1 (by show 3 < 4; decide) (by decide)
  obtain ⟨f, h2, h3⟩ := h2
  refine ⟨_, ?_, ⟨pt_s, ⟨f, cI_of h2 (pt_n (Ne.symm h4)), h3⟩, h4⟩, chB_tr e chB_pb⟩
  simp only [bk198_0, bk198_13, bk198_19, bk198_24, bk198_29, bk198_33, bk198_38, bk198_43, bx198, hs.2.2.1, x110 hs, gfc h.1, bO_3, sb_kf h, nI_add, x63 h hk, a, gfc h1, p1, Option.bind_some, bct_v, bct_t, otl_s, otl_n, List.cons_append, List.nil_append, List.getElem?_cons_zero, List.getElem?_cons_succ, ↓reduceIte]
theorem x222 (h : sB w b va k T) (hs : sT w s v len F) (hk : k + len ≤ 16) (hF : ∀ j, j < len → F j = T (k + j)) : ∃ w', am_x 222 [.ref b, .ref s] w = some (.inl (some (.ref b)), w') ∧ sB w' b va (k + len) T ∧ chB w w' b va 0 0 := by
  obtain ⟨w1, a, h', e⟩ := x198 h hs hk hF
  refine ⟨w1, ?_, h', e⟩
  simp only [bk222_0, bk222_5, bx222, sb_kf h, a, Option.bind_some, bct_v, bct_t, otl_s, otl_n, List.cons_append, List.nil_append, List.getElem?_cons_zero, List.getElem?_cons_succ, ↓reduceIte]
end SB
end
section
/-! TEXTS MADE: out of what is built, of small numbers; a character of a text. Mine. -/
section TX
variable {w : am_Wd} {b va k s v len : Nat} {T F : Nat → Int32}
theorem sub0 (k : Nat) : nI k - nI 0 = nI k := by rw [nI_subS (Nat.zero_le k), Nat.sub_zero]
theorem x116 (h : sB w b va k T) (hk : k < 16) (hv : va < w.2.1) : ∃ w', am_x 116 [.ref va, .int (nI 0), .int (nI k)] w = some (.inl (some (.ref w.2.1)), w') ∧ ext w w' 1 k ∧ w'.2.1 = w.2.1 + 1 ∧ ∃ f, w'.1 w.2.1 = some (.inl (3, k, .inl f)) ∧ ∀ j, j < k → f j = T j := by
  obtain ⟨h1, ⟨f, h2, h3⟩, h4⟩ := h
  have n1 : am_na w 3 (nI k) = some (am_nw w (.inl (3, k, am_in 3)) k) := nac (by omega)
  have c1 : cI (am_nw w (.inl (3, k, am_in 3)) k) va 3 16 f := cI_of h2 (nw_n (by omega))
  have r1 : (am_nw w (.inl (3, k, am_in 3)) k).1 w.2.1 = some (.inl (3, k, .inl (fun _ => 0))) := nw_s
  have z0 : (nI 0).toNatClampNeg = 0 := nI_clamp (by decide)
  have zk : (nI k).toNatClampNeg = k := nI_clamp (by omega)
  have e : am_cy (am_nw w (.inl (3, k, am_in 3)) k) va (nI 0) w.2.1 (nI 0) (nI k) = some (am_pt (am_nw w (.inl (3, k, am_in 3)) k) w.2.1 (.inl (3, k, .inl (va_cpy f (fun _ => 0) 0 0 k)))) := by
    unfold am_cy
    rw [show (am_nw w (.inl (3, k, am_in 3)) k).1 va = _ from c1, r1]
    dsimp only
    rw [z0, zk]
    refine if_pos ⟨⟨rfl, rfl, nI_pos (by decide), nI_pos (by decide), nI_pos (by omega)⟩, ⟨by omega, by omega⟩, fun i hi => ?_⟩
    rw [Nat.zero_add]
    exact (h3 i (by omega)).1
  have m1 : bj_min (nI 16) (nI k) = nI k := by rw [bj_minS (by decide) (by omega), Nat.min_eq_right (by omega)]
  have q : nI 0 ≤ nI k := by rw [nI_leS (by decide) (by omega)]; omega
  refine ⟨am_pt (am_nw w (.inl (3, k, am_in 3)) k) w.2.1 (.inl (3, k, .inl (va_cpy f (fun _ => 0) 0 0 k))), ?_, ext_pt ext_nw (Nat.le_refl _), rfl, _, pt_s, fun j hj => ?_⟩
  · simp only [bx116, bk116_0, bx70, bk70_0 q, bk70_37, bk116_5, sub0, n1, bk116_12, lenI c1 (by decide), bk116_21, m1, e, bk116_30, Option.bind_some, bct_v, bct_t, otl_s, otl_n, List.cons_append, List.nil_append, List.getElem?_cons_zero, List.getElem?_cons_succ, ↓reduceIte]
  · unfold va_cpy
    rw [if_pos ⟨Nat.zero_le j, by omega⟩, Nat.zero_add, Nat.sub_zero]
    exact (h3 j (by omega)).2 hj
theorem x156 (h : sB w b va k T) (hk : k < 16) (hv : va < w.2.1) : ∃ w', am_x 156 [.ref va, .int (nI 0), .int (nI k)] w = some (.inl (some (.ref w.2.1)), w') ∧ ext w w' 1 k ∧ w'.2.1 = w.2.1 + 1 ∧ ∃ f, w'.1 w.2.1 = some (.inl (3, k, .inl f)) ∧ ∀ j, j < k → f j = T j := by
  obtain ⟨w', a, e, fe⟩ := x116 h hk hv
  obtain ⟨h1, ⟨f, h2, h3⟩, h4⟩ := h
  refine ⟨w', ?_, e, fe⟩
  have q : (nI k = nI 16) = False := by rw [nI_eqS (by omega) (by decide)]; exact eq_false (by omega)
  simp only [bx156, bk156_0, not_true_eq_false, bk156_4, lenI h2 (by decide), bk156_7, q, bk156_10, a, bk156_16, Option.bind_some, bct_v, bct_t, otl_s, otl_n, List.cons_append, List.nil_append, List.getElem?_cons_zero, List.getElem?_cons_succ, ↓reduceIte]
theorem x197 (h : sB w b va k T) (hk : k < 16) (hb : b < w.2.1) (hv : va < w.2.1) (hs : cO w s 0 [.null, .int 0, .int 0, .int 0]) (hsl : s < w.2.1) (n1 : s ≠ b) (n2 : s ≠ va) : ∃ w', am_x 197 [.ref s, .ref b, .null] w = some (.inl none, w') ∧ (∀ c, c < w.2.1 → c ≠ s → w'.1 c = w.1 c) ∧ w.2.1 ≤ w'.2.1 ∧ w'.2.1 ≤ w.2.1 + 1 ∧ w.2.2.1 ≤ w'.2.2.1 ∧ w'.2.2.1 ≤ w.2.2.1 + k ∧ w'.2.2.2 = w.2.2.2 ∧ w'.2.1 = w.2.1 + 1 ∧ cO w' s 0 [.ref w.2.1, .int (nI 0), .int 0, .int 0] ∧ ∃ f, w'.1 w.2.1 = some (.inl (3, k, .inl f)) ∧ ∀ j, j < k → f j = T j := by
  have x64 : am_x 64 [.ref b] w = some (.inl (some (.ref va)), w) := by
    simp only [bk64_0, bk64_4, bx64, gfc h.1, bO_0, Option.bind_some, bct_v, bct_t, otl_s, otl_n, List.cons_append, List.nil_append, List.getElem?_cons_zero, List.getElem?_cons_succ, ↓reduceIte]
  have x112 : am_x 112 [.ref b] w = some (.inl (some (.int (nI k))), w) := by
    simp only [bk112_0, bk112_4, bx112, bk67_0, bk67_4, bx67, sb_kf h, gfc h.1, bO_3, Option.bind_some, bct_v, bct_t, otl_s, otl_n, List.cons_append, List.nil_append, List.getElem?_cons_zero, List.getElem?_cons_succ, ↓reduceIte]
  have p1 : am_pf w s 0 1 (.int (nI 0)) = some (am_pt w s (.inr (0, [.null, .int (nI 0), .int 0, .int 0]))) := pfc hs (by show 1 < 4; decide) (by decide)
  have h' : sB (am_pt w s (.inr (0, [.null, .int (nI 0), .int 0, .int 0]))) b va k T := by
    obtain ⟨h1, ⟨f, h2, h3⟩, h4⟩ := h
    exact ⟨cO_of h1 (pt_n (Ne.symm n1)), ⟨f, cI_of h2 (pt_n (Ne.symm n2)), h3⟩, h4⟩
  obtain ⟨w2, a2, e2, l2, f2, g2, g3⟩ := x156 h' hk hv
  have l2 : w2.2.1 = w.2.1 + 1 := l2
  have g2 : w2.1 w.2.1 = some (.inl (3, k, .inl f2)) := g2
  have q2 : cO w2 s 0 [.null, .int (nI 0), .int 0, .int 0] := cO_of (w := am_pt w s (.inr (0, [.null, .int (nI 0), .int 0, .int 0]))) pt_s (e2.1 s hsl)
  have p2 : am_pf w2 s 0 0 (.ref w.2.1) = some (am_pt w2 s (.inr (0, [.ref w.2.1, .int (nI 0), .int 0, .int 0]))) := pfc q2 (by show 0 < 4; decide) (by decide)
  have a2' : am_x 156 [.ref va, .int (nI 0), .int (nI k)] (am_pt w s (.inr (0, [.null, .int (nI 0), .int 0, .int 0]))) = some (.inl (some (.ref w.2.1)), w2) := a2
  obtain ⟨b1, b2, b3, b4, b5, b6⟩ := e2
  refine ⟨am_pt w2 s (.inr (0, [.ref w.2.1, .int (nI 0), .int 0, .int 0])), ?_, fun c hc hn => (pt_n hn).trans ((b1 c hc).trans (pt_n hn)), b2, b3, b4, b5, b6, l2, pt_s, f2, (pt_n (by omega)).trans g2, g3⟩
  simp only [bx197, bk197_0, sb_kf h, x64, bk197_8, x112, bk197_13, x66 h, bk197_19, n10, bk197_22, p1, bk197_27, a2', bk197_35, p2, bk197_38, bk197_97, Option.bind_some, bct_v, bct_t, otl_s, otl_n, List.cons_append, List.nil_append, List.getElem?_cons_zero, List.getElem?_cons_succ, ↓reduceIte]
/-- a text made: its k characters are the text's; made since lo -/
def tS (w : am_Wd) (lo s k : Nat) (T : Nat → Int32) : Prop := ∃ (v : Nat) (f : Nat → Int32), cO w s 0 [.ref v, .int (nI 0), .int 0, .int 0] ∧ w.1 v = some (.inl (3, k, .inl f)) ∧ (∀ j, j < k → f j = T j) ∧ lo ≤ s ∧ lo ≤ v ∧ s < w.2.1 ∧ v < w.2.1
theorem x238 (h : sB w b va k T) (hk : k < 16) (hb : b < w.2.1) (hv : va < w.2.1) : ∃ w', am_x 238 [.ref b] w = some (.inl (some (.ref w.2.1)), w') ∧ ext w w' 2 (4 + k) ∧ tS w' w.2.1 w.2.1 k T := by
  have e1 : ext w (am_nw w (.inr (0, am_df 0 4)) 4) 1 4 := ext_nw
  have h' := h.ext hb hv e1
  have s1 : cO (am_nw w (.inr (0, am_df 0 4)) 4) w.2.1 0 [.null, .int 0, .int 0, .int 0] := nw_s
  obtain ⟨w2, a2, b1, b2, b3, b4, b5, b6, l2, t1, f2, t2, t3⟩ := x197 (s := w.2.1) h' hk (Nat.lt_succ_of_lt hb) (Nat.lt_succ_of_lt hv) s1 (Nat.lt_succ_self _) (by omega) (by omega)
  have b2 : w.2.1 + 1 ≤ w2.2.1 := b2
  have l2 : w2.2.1 = w.2.1 + 1 + 1 := l2
  have b3 : w2.2.1 ≤ w.2.1 + 1 + 1 := b3
  have b4 : w.2.2.1 + 4 ≤ w2.2.2.1 := b4
  have b5 : w2.2.2.1 ≤ w.2.2.1 + 4 + k := b5
  refine ⟨w2, ?_, ⟨fun c hc => (b1 c (Nat.lt_succ_of_lt hc) (by omega)).trans (e1.1 c hc), by omega, by omega, by omega, by omega, b6⟩, w.2.1 + 1, f2, t1, t2, t3, Nat.le_refl _, Nat.le_succ _, by omega, by omega⟩
  simp only [bx238, bk238_0, bk238_3, bx221, bk221_0, a2, bk221_6, bk238_8, Option.bind_some, bct_v, bct_t, otl_s, otl_n, List.cons_append, List.nil_append, List.getElem?_cons_zero, List.getElem?_cons_succ, ↓reduceIte]
/-! small numbers -/
theorem sm_f : ∀ i, i ≤ 2 → ((nI i < nI 0) = False) ∧ ((-(nI i) ≤ (-10 : Int32)) = False) ∧ ((nI 0 ≤ nI i) = True) ∧ (((-100 : Int32) < -(nI i)) = True) ∧ (((-9 : Int32) ≤ -(nI i)) = True) ∧ (-(-(nI i)) = nI i) := by
  intro i hi
  have h : ∀ j : Fin 3, (¬ nI j.val < nI 0) ∧ (¬ -(nI j.val) ≤ (-10 : Int32)) ∧ (nI 0 ≤ nI j.val) ∧ ((-100 : Int32) < -(nI j.val)) ∧ ((-9 : Int32) ≤ -(nI j.val)) ∧ (-(-(nI j.val)) = nI j.val) := by decide +kernel
  obtain ⟨a, b, c, d, e, f⟩ := h ⟨i, by omega⟩
  exact ⟨eq_false a, eq_false b, eq_true c, eq_true d, eq_true e, f⟩
theorem x69 {i : Nat} (hi : i ≤ 2) : am_x 69 [.int (nI i)] w = some (.inl (some (.int (nI 1))), w) := by
  obtain ⟨a, b, -⟩ := sm_f i hi
  have q : (nI 10 ≤ nI 1) = False := eq_false (by decide)
  simp only [bx69, bk69_0, a, bk69_6, bk69_11, bk69_16, q, bk69_22, b, bk69_27, nI_add, Nat.reduceAdd, Option.bind_some, bct_v, bct_t, otl_s, otl_n, List.cons_append, List.nil_append, List.getElem?_cons_zero, List.getElem?_cons_succ, ↓reduceIte]
theorem x68 {row d : Nat} {f f0 : Nat → Int32} {i : Nat} (hi : i ≤ 2) (hd : w.2.2.2 2 = some d) (hd2 : w.1 d = some (.inl (11, 100, .inl f))) (hr : cI w row 3 1 f0) : am_x 68 [.int (nI i), .int (nI 1), .ref row] w = some (.inl (some (.int (nI 0))), am_pt w row (.inl (3, 1, .inl (upd f0 0 (vp_nar .byte (f i)))))) := by
  obtain ⟨-, -, a, b, c, e⟩ := sm_f i hi
  have r1 : am_ri 3 w d (nI i) = some (f i) := ric (t := 11) hd2 rfl (by omega) (by decide)
  have w1 : am_wi 3 w row (nI 0) (vp_nar .byte (f i)) = some (am_pt w row (.inl (3, 1, .inl (upd f0 0 (vp_nar .byte (f i)))))) := wic hr (by decide) (by decide)
  have z : nI 1 + (-1 : Int32) = nI 0 := by decide
  simp only [bx68, bk68_0, a, bk68_11, bk68_12, not_true_eq_false, bk68_19, bk68_22, b, bk68_72 hd, bk68_81, e, r1, bk68_84, z, w1, bk68_85, c, bk68_104, bk68_118, Option.bind_some, bct_v, bct_t, otl_s, otl_n, List.cons_append, List.nil_append, List.getElem?_cons_zero, List.getElem?_cons_succ, ↓reduceIte]
theorem nar_dg {i : Nat} (hi : i ≤ 2) : vp_nar .byte (nI (48 + i)) = nI (48 + i) := by
  have h : ∀ j : Fin 3, vp_nar .byte (nI (48 + j.val)) = nI (48 + j.val) := by decide +kernel
  exact h ⟨i, by omega⟩
theorem x152 {g : Nat → Nat} (hS : StW w g) {i : Nat} (hi : i ≤ 2) : ∃ w', am_x 152 [.int (nI i)] w = some (.inl (some (.ref (w.2.1 + 1))), w') ∧ sT w' (w.2.1 + 1) w.2.1 1 (fun _ => nI (48 + i)) ∧ ext w w' 2 5 ∧ w'.2.1 = w.2.1 + 2 := by
  obtain ⟨-, -, d, f, d1, d2, d3, -, d5⟩ := hS
  have n1 : am_na w 3 (nI 1) = some (am_nw w (.inl (3, 1, am_in 3)) 1) := nac (by decide)
  have r1 : cI (am_nw w (.inl (3, 1, am_in 3)) 1) w.2.1 3 1 (fun _ => 0) := nw_s
  have dd : (am_nw w (.inl (3, 1, am_in 3)) 1).1 d = some (.inl (11, 100, .inl f)) := (nw_n (by omega)).trans d2
  have z := x68 (w := am_nw w (.inl (3, 1, am_in 3)) 1) hi d1 dd r1
  have e1 : ext w (am_pt (am_nw w (.inl (3, 1, am_in 3)) 1) w.2.1 (.inl (3, 1, .inl (upd (fun _ => 0) 0 (vp_nar .byte (f i)))))) 1 1 := ext_pt ext_nw (Nat.le_refl _)
  have c1 : (am_pt (am_nw w (.inl (3, 1, am_in 3)) 1) w.2.1 (.inl (3, 1, .inl (upd (fun _ => 0) 0 (vp_nar .byte (f i)))))).1 w.2.1 = some (.inl (3, 1, .inl (upd (fun _ => 0) 0 (vp_nar .byte (f i))))) := pt_s
  have l1 : (am_pt (am_nw w (.inl (3, 1, am_in 3)) 1) w.2.1 (.inl (3, 1, .inl (upd (fun _ => 0) 0 (vp_nar .byte (f i)))))).2.1 = w.2.1 + 1 := rfl
  generalize am_pt (am_nw w (.inl (3, 1, am_in 3)) 1) w.2.1 (.inl (3, 1, .inl (upd (fun _ => 0) 0 (vp_nar .byte (f i))))) = w1 at z e1 c1 l1
  have e2 : ext w1 (am_nw w1 (.inr (0, am_df 0 4)) 4) 1 4 := ext_nw
  have s1 : cO (am_nw w1 (.inr (0, am_df 0 4)) 4) w1.2.1 0 [.null, .int 0, .int 0, .int 0] := nw_s
  have p1 : am_pf (am_nw w1 (.inr (0, am_df 0 4)) 4) w1.2.1 0 0 (.ref w.2.1) = some (am_pt (am_nw w1 (.inr (0, am_df 0 4)) 4) w1.2.1 (.inr (0, [.ref w.2.1, .int 0, .int 0, .int 0]))) := pfc s1 (by show 0 < 4; decide) (by decide)
  have s2 : cO (am_pt (am_nw w1 (.inr (0, am_df 0 4)) 4) w1.2.1 (.inr (0, [.ref w.2.1, .int 0, .int 0, .int 0]))) w1.2.1 0 [.ref w.2.1, .int 0, .int 0, .int 0] := pt_s
  have p2 : am_pf (am_pt (am_nw w1 (.inr (0, am_df 0 4)) 4) w1.2.1 (.inr (0, [.ref w.2.1, .int 0, .int 0, .int 0]))) w1.2.1 0 1 (.int (nI 0)) = some (am_pt (am_nw w1 (.inr (0, am_df 0 4)) 4) w1.2.1 (.inr (0, [.ref w.2.1, .int (nI 0), .int 0, .int 0]))) := by
    rw [pfc s2 (by show 1 < 4; decide) (by decide), pt_pt]
    rfl
  have s3 : cO (am_pt (am_nw w1 (.inr (0, am_df 0 4)) 4) w1.2.1 (.inr (0, [.ref w.2.1, .int (nI 0), .int 0, .int 0]))) w1.2.1 0 [.ref w.2.1, .int (nI 0), .int 0, .int 0] := pt_s
  have c3 : (am_pt (am_nw w1 (.inr (0, am_df 0 4)) 4) w1.2.1 (.inr (0, [.ref w.2.1, .int (nI 0), .int 0, .int 0]))).1 w.2.1 = some (.inl (3, 1, .inl (upd (fun _ => 0) 0 (vp_nar .byte (f i))))) := (pt_n (by omega)).trans ((nw_n (by omega)).trans c1)
  have e3 : ext w1 (am_pt (am_nw w1 (.inr (0, am_df 0 4)) 4) w1.2.1 (.inr (0, [.ref w.2.1, .int (nI 0), .int 0, .int 0]))) 1 4 := ext_pt e2 (Nat.le_refl _)
  have hs : sT (am_pt (am_nw w1 (.inr (0, am_df 0 4)) 4) w1.2.1 (.inr (0, [.ref w.2.1, .int (nI 0), .int 0, .int 0]))) w1.2.1 w.2.1 1 (fun _ => nI (48 + i)) := by
    refine ⟨gfc s3, gfc s3, kfc s3, ⟨3, _, c3, rfl, fun j hj => ?_⟩, by decide⟩
    have : j = 0 := by omega
    subst this
    show am_ok .byte (.int (if 0 = 0 then vp_nar .byte (f i) else 0)) = true ∧ (if 0 = 0 then vp_nar .byte (f i) else 0) = nI (48 + i)
    rw [if_pos rfl]
    exact ⟨byte_ok _, by rw [d5 i hi]; exact nar_dg hi⟩
  have l2 : (am_pt (am_nw w1 (.inr (0, am_df 0 4)) 4) w1.2.1 (.inr (0, [.ref w.2.1, .int (nI 0), .int 0, .int 0]))).2.1 = w1.2.1 + 1 := rfl
  refine ⟨am_pt (am_nw w1 (.inr (0, am_df 0 4)) 4) w1.2.1 (.inr (0, [.ref w.2.1, .int (nI 0), .int 0, .int 0])), ?_, l1 ▸ hs, ext_tr e1 e3, by omega⟩
  rw [← l1]
  simp only [bx152, bk152_0, bx115, bk115_0, x69 hi, bk115_4, n10, bk115_11, n1, bk115_14, z, bk115_21, bk115_25, bx60, bk60_0, p1, bk60_9 (l2 := nI 0) rfl, p2, bk60_14, bk115_31, bk152_4, Option.bind_some, bct_v, bct_t, otl_s, otl_n, List.cons_append, List.nil_append, List.getElem?_cons_zero, List.getElem?_cons_succ, ↓reduceIte]
/-! a character -/
theorem and255 (x : Int32) : ∃ n, n ≤ 255 ∧ x &&& nI 255 = nI n := by
  obtain ⟨n, h1, rfl⟩ := wb_of32 x
  refine ⟨n &&& 255, Nat.and_le_right, ?_⟩
  apply Int32.toBitVec_inj.mp
  rw [Int32.toBitVec_and]
  apply BitVec.eq_of_toNat_eq
  show (BitVec.ofNat 32 n &&& BitVec.ofNat 32 255).toNat = (BitVec.ofNat 32 (n &&& 255)).toNat
  rw [BitVec.toNat_and, BitVec.toNat_ofNat, BitVec.toNat_ofNat, BitVec.toNat_ofNat, Nat.mod_eq_of_lt h1, Nat.mod_eq_of_lt (show 255 < 2 ^ 32 by decide), Nat.mod_eq_of_lt (Nat.lt_of_le_of_lt Nat.and_le_right (by decide))]
theorem chr_ok : ∀ n, n ≤ 255 → am_ok (am_rt 2) (.int (bj_i2c (nI n))) = true ∧ ¬ nI 255 < bj_i2c (nI n) := by
  intro n hn
  have h : ∀ j : Fin 256, am_ok (am_rt 2) (.int (bj_i2c (nI j.val))) = true ∧ ¬ nI 255 < bj_i2c (nI j.val) := by decide +kernel
  exact h ⟨n, by omega⟩
theorem x108 {j : Nat} (hj : j < len) (hl : len ≤ 3) : am_x 108 [.int (nI j), .int (nI len)] w = some (.inl none, w) := by
  have q1 : (nI j < nI 0) = False := by rw [nI_ltS (by omega) (by decide)]; exact eq_false (by omega)
  have q2 : (nI j < nI len) = True := by rw [nI_ltS (by omega) (by omega)]; exact eq_true hj
  cases e : w.2.2.2 4 with
  | some sg =>
    simp only [bx108, bk108_0 e, bk108_5, bx58, bk58_0, q1, bk58_4, q2, bk58_16, bk108_8, Option.bind_some, bct_v, bct_t, otl_s, otl_n, List.cons_append, List.nil_append, List.getElem?_cons_zero, List.getElem?_cons_succ, ↓reduceIte]
  | none =>
    have st : am_run 108 0 [some (.int (nI j)), some (.int (nI len))] [] w = am_run 108 5 [none, none] [.null, .int (nI len), .int (nI j)] w := by
      refine (bu (ls'' := [none, some (.int (nI len))]) (st' := [.int (nI j)]) bf108_0 bf108_1 rfl rfl).trans ?_
      refine (bu (ls'' := [none, none]) (st' := [.int (nI len), .int (nI j)]) bf108_1 bf108_2 rfl rfl).trans ?_
      exact bu (ls'' := [none, none]) (st' := [.null, .int (nI len), .int (nI j)]) bf108_2 bf108_5 (by show some _ = _; rw [e]; rfl) rfl
    have s5 : am_run 108 5 [none, none] [.null, .int (nI len), .int (nI j)] w = (am_x 58 [.int (nI j), .int (nI len), .null] w).bind fun r => bct r fun v w' => am_run 108 8 [none, none] (v.toList ++ []) w' := bkS bf108_5 bf108_8 rfl (by decide +kernel) (Nat.le_of_ble_eq_true rfl) rfl (bhd rfl)
    rw [bx108, st, s5, x58 hj (by omega)]
    simp only [bk108_8, Option.bind_some, bct_v, bct_t, otl_s, otl_n, List.cons_append, List.nil_append, List.getElem?_cons_zero, List.getElem?_cons_succ, ↓reduceIte]
theorem x196 (h : sT w s v len F) {j : Nat} (hj : j < len) : ∃ c, am_x 196 [.ref s, .int (nI j)] w = some (.inl (some (.int c)), w) ∧ ¬ nI 255 < c ∧ c = bj_i2c (F j &&& nI 255) := by
  have hl := sT_len h
  have q := x61 h
  obtain ⟨s1, s2, s3, ⟨t, f, s4, s5, s6⟩, s7⟩ := h
  have r1 : am_ri 3 w v (nI j) = some (f j) := ric (t := t) s4 s5 hj (by omega)
  obtain ⟨n, n1, n2⟩ := and255 (f j)
  obtain ⟨c1, c2⟩ := chr_ok n n1
  refine ⟨bj_i2c (nI n), ?_, c2, by rw [← (s6 j hj).2, n2]⟩
  have x153 : am_x 153 [.ref v, .int (nI j)] w = some (.inl (some (.int (bj_i2c (nI n)))), w) := by
    simp only [bx153, bk153_0, hl, bk153_3, x108 hj s7, bk153_6, r1, Option.bind_some, bct_v, bct_t, otl_s, otl_n, List.cons_append, List.nil_append, List.getElem?_cons_zero, List.getElem?_cons_succ, ↓reduceIte]
    rw [bk153_9 (by rw [n2]; exact c1), n2]
  simp only [bx196, bk196_0, s3, q, bk196_4, n10, bk196_7, s1, bk196_11, x153, bk196_15 c1, Option.bind_some, bct_v, bct_t, otl_s, otl_n, List.cons_append, List.nil_append, List.getElem?_cons_zero, List.getElem?_cons_succ, ↓reduceIte]
end TX
end
section
/-! ROWS AS TEXT, the class's: only that they end, and what they make. Mine. -/
/-- what stands in a row, as bytes: who is there, what lies there, what is between -/
def whoS (n : Nat) (ws : Nat → sW) (c : Nat) : Nat → Nat → Option Nat
  | 0, _ => none
  | j + 1, k => if k < n ∧ (ws k).2.1 / 4 = c then some k else whoS n ws c j (k + 1)
def celS (cp br : Nat → Bool) (c : Nat) (o : Option Nat) : Int32 := match o with
  | some i => nI (48 + i)
  | none => if br c = true then nI 120 else if cp c = true then nI 99 else nI 46
def sepS (k : Nat) : Int32 := if k = 1 then nI 124 else if k = 2 then nI 47 else nI 32
def txS (kd : Nat → Nat) (cp br : Nat → Bool) (n : Nat) (ws : Nat → sW) (r j : Nat) : Int32 := if j % 2 = 0 then celS cp br (r * 6 + j / 2) (whoS n ws (r * 6 + j / 2) 3 0) else sepS (kd (2 * (r * 6 + j / 2)))
theorem tx_0 {kd : Nat → Nat} {cp br : Nat → Bool} {n : Nat} {ws : Nat → sW} (r j : Nat) : txS kd cp br n ws r (2 * j) = celS cp br (r * 6 + j) (whoS n ws (r * 6 + j) 3 0) := by
  unfold txS
  rw [if_pos (by omega), show 2 * j / 2 = j by omega]
theorem tx_1 {kd : Nat → Nat} {cp br : Nat → Bool} {n : Nat} {ws : Nat → sW} (r j : Nat) : txS kd cp br n ws r (2 * j + 1) = sepS (kd (2 * (r * 6 + j))) := by
  unfold txS
  rw [if_neg (by omega), show (2 * j + 1) / 2 = j by omega]
theorem nr_c : vp_nar .byte (Int32.toInt8 (nI 120)).toInt32 = nI 120 ∧ vp_nar .byte (Int32.toInt8 (nI 99)).toInt32 = nI 99 ∧ vp_nar .byte (Int32.toInt8 (nI 46)).toInt32 = nI 46 ∧ vp_nar .byte (Int32.toInt8 (nI 124)).toInt32 = nI 124 ∧ vp_nar .byte (Int32.toInt8 (nI 47)).toInt32 = nI 47 ∧ vp_nar .byte (Int32.toInt8 (nI 32)).toInt32 = nI 32 := by decide +kernel
theorem nr_d {i : Nat} (hi : i ≤ 2) : vp_nar .byte (Int32.toInt8 (bj_i2c (nI (48 + i)))).toInt32 = nI (48 + i) := by
  have h : ∀ j : Fin 3, vp_nar .byte (Int32.toInt8 (bj_i2c (nI (48 + j.val)))).toInt32 = nI (48 + j.val) := by decide +kernel
  exact h ⟨i, by omega⟩
theorem c255 {n : Nat} (h : n ≤ 255) : ¬ nI 255 < nI n := by rw [nI_ltS (by decide) (by omega)]; omega
theorem tS_lo {w : am_Wd} {lo lo' s k : Nat} {T : Nat → Int32} (h : tS w lo s k T) (hl : lo' ≤ lo) : tS w lo' s k T := by
  obtain ⟨v, f, h1, h2, h3, h4, h5, h6⟩ := h
  exact ⟨v, f, h1, h2, h3, by omega, by omega, h6⟩
section RW
variable {w : am_Wd} {g : Nat → Nat} {x fl ka ha wr C B : Nat} {wad : Nat → Nat} {kd hr : Nat → Nat} {cp br : Nat → Bool} {n : Nat} {ws : Nat → sW} {mi nd : Nat} {dr me di re : Int32}
theorem rc_ext {w' : am_Wd} {k s : Nat} (R : RCx w g x fl ka ha wr C B wad kd hr cp br n ws mi nd dr me di re) (hn : n ≤ 3) (hJ : gJ w g) (e : ext w w' k s) : RCx w' g x fl ka ha wr C B wad kd hr cp br n ws mi nd dr me di re := rc_fr R hn fun b h1 h2 => e.1 b (lt_J hJ rfl (by omega))
theorem x34 {k : Nat} (hk : k ≤ 2) : ∃ c, am_x 34 [.int (nI k)] w = some (.inl (some (.int c)), w) ∧ ¬ nI 255 < c ∧ sepS k = vp_nar .byte (Int32.toInt8 c).toInt32 := by
  rcases (show k = 0 ∨ k = 1 ∨ k = 2 by omega) with rfl | rfl | rfl
  · exact ⟨nI 32, by rw [bx34, bk34_0, if_neg (by decide), if_neg (by decide), bk34_34], c255 (by decide), by decide +kernel⟩
  · exact ⟨nI 124, by rw [bx34, bk34_0, if_pos rfl, bk34_28], c255 (by decide), by decide +kernel⟩
  · exact ⟨nI 47, by rw [bx34, bk34_0, if_neg (by decide), if_pos rfl, bk34_31], c255 (by decide), by decide +kernel⟩
theorem x94 (R : RCx w g x fl ka ha wr C B wad kd hr cp br n ws mi nd dr me di re) (hn : n ≤ 3) (hw : ∀ i, i < n → okW (ws i)) {c : Nat} (hc : c < 36) : ∃ q, am_x 94 [.ref x, .int (nI c)] w = some (.inl (some (.int q)), w) ∧ ¬ nI 255 < q ∧ celS cp br c (whoS n ws c 3 0) = vp_nar .byte (Int32.toInt8 q).toInt32 := by
  have hQ := R.2.2.2.2.1
  have go : ∀ j k, j + k = 3 → ∃ q, am_run 94 2 [some (.ref x), some (.int (nI c)), some (.int (nI k)), none] [] w = some (.inl (some (.int q)), w) ∧ ¬ nI 255 < q ∧ celS cp br c (whoS n ws c j k) = vp_nar .byte (Int32.toInt8 q).toInt32 := by
    have hBb := R.2.2.2.1.2 c hc
    have hCb := R.2.2.1.2 c hc
    intro j
    induction j with
    | zero =>
      intro k hk
      obtain rfl : k = 3 := by omega
      have hB := has (w := w) (bm_lt R.2.2.2.1) hc
      have hC := has (w := w) (bm_lt R.2.2.1) hc
      have q3 : (nI 3 ≤ nI 3) = True := eq_true (by decide)
      cases e : B.testBit c with
      | true =>
        rw [e] at hB
        refine ⟨nI 120, ?_, c255 (by decide), by rw [nr_c.1]; show (if br c = true then nI 120 else _) = _; rw [if_pos (by rw [← hBb]; exact e)]⟩
        simp only [bk94_2, gfc R.1, oX_0, oX_1, oX_2, oX_3, oX_4, oX_5, oX_6, oX_7, oX_8, bk94_7, lenQ hQ (by decide), bk94_8, q3, bk94_42, bk94_46, gfc R.2.1.1, bk94_49, hB, bk94_53, b2i_0, reduceCtorEq, bk94_56, Option.bind_some, bct_v, bct_t, otl_s, otl_n, List.cons_append, List.nil_append, List.getElem?_cons_zero, List.getElem?_cons_succ, ↓reduceIte]
      | false =>
        rw [e] at hB
        cases e2 : C.testBit c with
        | true =>
          rw [e2] at hC
          refine ⟨nI 99, ?_, c255 (by decide), by rw [nr_c.2.1]; show (if br c = true then nI 120 else if cp c = true then nI 99 else _) = _; rw [if_neg (by rw [← hBb, e]; decide), if_pos (by rw [← hCb]; exact e2)]⟩
          simp only [bk94_2, gfc R.1, oX_0, oX_1, oX_2, oX_3, oX_4, oX_5, oX_6, oX_7, oX_8, bk94_7, lenQ hQ (by decide), bk94_8, q3, bk94_42, bk94_46, gfc R.2.1.1, bk94_49, hB, bk94_53, b2i_0, bk94_59, bk94_63, bk94_66, hC, bk94_70, reduceCtorEq, bk94_73, Option.bind_some, bct_v, bct_t, otl_s, otl_n, List.cons_append, List.nil_append, List.getElem?_cons_zero, List.getElem?_cons_succ, ↓reduceIte]
          exact bk94_80 rfl
        | false =>
          rw [e2] at hC
          refine ⟨nI 46, ?_, c255 (by decide), by rw [nr_c.2.2.1]; show (if br c = true then nI 120 else if cp c = true then nI 99 else _) = _; rw [if_neg (by rw [← hBb, e]; decide), if_neg (by rw [← hCb, e2]; decide)]⟩
          simp only [bk94_2, gfc R.1, oX_0, oX_1, oX_2, oX_3, oX_4, oX_5, oX_6, oX_7, oX_8, bk94_7, lenQ hQ (by decide), bk94_8, q3, bk94_42, bk94_46, gfc R.2.1.1, bk94_49, hB, bk94_53, b2i_0, bk94_59, bk94_63, bk94_66, hC, bk94_70, bk94_78, Option.bind_some, bct_v, bct_t, otl_s, otl_n, List.cons_append, List.nil_append, List.getElem?_cons_zero, List.getElem?_cons_succ, ↓reduceIte]
          exact bk94_80 rfl
    | succ j ih =>
      intro k hk
      obtain ⟨q, a, hq, hq2⟩ := ih (k + 1) (by omega)
      have q3 : (nI 3 ≤ nI k) = False := by rw [nI_leS (by decide) (by omega)]; exact eq_false (by omega)
      have rq := rqc hQ (i := k) (Or.inl rfl) (by omega) (by decide)
      by_cases hkn : k < n
      · rw [show wks n wad k = some (wad k) from if_pos hkn] at rq
        have rq' : am_rq w wr (nI k) = some (.ref (wad k)) := rq
        obtain ⟨⟨o1, o2, o3, o4, o5⟩, o6⟩ := hw k hkn
        have h' := rc_get R hkn (sW_eta (ws k))
        have z := wk_17 h' o2
        by_cases ec : (ws k).2.1 / 4 = c
        · have q5 : (nI ((ws k).2.1 / 4) = nI c) = True := by rw [nI_eqS (by omega) (by omega)]; exact eq_true ec
          obtain ⟨c1, c2⟩ := chr_ok (48 + k) (by omega)
          refine ⟨bj_i2c (nI (48 + k)), ?_, c2, by rw [nr_d (by omega)]; unfold whoS; rw [if_pos ⟨hkn, ec⟩]; rfl⟩
          rw [bk94_2]
          simp only [gfc R.1, oX_0, oX_1, oX_2, oX_3, oX_4, oX_5, oX_6, oX_7, oX_8, bk94_7, lenQ hQ (by decide), bk94_8, q3, bk94_11, bk94_15, rq', bk94_17, wk_kf h', z, bk94_26, q5, not_true_eq_false, Option.bind_some, bct_v, bct_t, otl_s, otl_n, List.cons_append, List.nil_append, List.getElem?_cons_zero, List.getElem?_cons_succ, ↓reduceIte]
          rw [bk94_30 (by rw [nI_add]; exact c1), nI_add]
        · have q5 : (nI ((ws k).2.1 / 4) = nI c) = False := by rw [nI_eqS (by omega) (by omega)]; exact eq_false ec
          refine ⟨q, ?_, hq, by unfold whoS; rw [if_neg (fun z => ec z.2)]; exact hq2⟩
          rw [bk94_2]
          simp only [gfc R.1, oX_0, oX_1, oX_2, oX_3, oX_4, oX_5, oX_6, oX_7, oX_8, bk94_7, lenQ hQ (by decide), bk94_8, q3, bk94_11, bk94_15, rq', bk94_17, wk_kf h', z, bk94_26, q5, not_false_eq_true, bk94_36, nI_add, Option.bind_some, bct_v, bct_t, otl_s, otl_n, List.cons_append, List.nil_append, List.getElem?_cons_zero, List.getElem?_cons_succ, ↓reduceIte]
          exact a
      · rw [show wks n wad k = none from if_neg hkn] at rq
        have rq' : am_rq w wr (nI k) = some .null := rq
        refine ⟨q, ?_, hq, by unfold whoS; rw [if_neg (fun z => hkn z.1)]; exact hq2⟩
        rw [bk94_2]
        simp only [gfc R.1, oX_0, oX_1, oX_2, oX_3, oX_4, oX_5, oX_6, oX_7, oX_8, bk94_7, lenQ hQ (by decide), bk94_8, q3, bk94_11, bk94_15, rq', bk94_17a, bk94_36, nI_add, Option.bind_some, bct_v, bct_t, otl_s, otl_n, List.cons_append, List.nil_append, List.getElem?_cons_zero, List.getElem?_cons_succ, ↓reduceIte]
        exact a
  obtain ⟨q, a, hq, hq2⟩ := go 3 0 rfl
  exact ⟨q, by rw [bx94, bk94_0]; exact a, hq, hq2⟩
theorem nb_row : ∀ r, r ≤ 5 → ∀ j, j ≤ 4 → nb (r * 6 + j) 1 = some (r * 6 + j + 1) := by
  intro r hr j hj
  unfold nb
  rw [if_neg (by decide), if_pos rfl, if_pos (by omega)]
theorem knd_1 {kd : Nat → Nat} {r j : Nat} (hr : r ≤ 5) (hj : j ≤ 4) : kndS kd (r * 6 + j) 1 = kd (2 * (r * 6 + j)) := by
  have e := nb_row r hr j hj
  unfold kndS plc
  rw [e]
  simp
theorem knd_le {kd : Nat → Nat} (h : kdok kd) (c s : Nat) : kndS kd c s ≤ 2 := by
  unfold kndS
  cases nb c s with
  | none => exact Nat.le_succ 1
  | some _ => exact h _
theorem x243n {z : Int32} (h : z < nI 0 ∨ nI 5 < z) : am_x 243 [.ref x, .int z] w = some (.inr (am_xn 0), am_jk w 1 6) := by
  rw [bx243, bk243_0]
  by_cases q : z < nI 0
  · rw [if_pos q, bk243_10]
  · rw [if_neg q, bk243_4, if_neg, bk243_10]
    rcases h with h | h
    · exact absurd h q
    · have := ge_gt (b := 5) (by decide) h
      exact fun z => absurd z (nlt_ge this)
theorem x243 (R : RCx w g x fl ka ha wr C B wad kd hr cp br n ws mi nd dr me di re) (hn : n ≤ 3) (hJ : gJ w g) (hk : kdok kd) (hw : ∀ i, i < n → okW (ws i)) {r : Nat} (hr5 : r ≤ 5) : ∃ w' v, am_x 243 [.ref x, .int (nI r)] w = some (.inl (some (.ref v)), w') ∧ ext w w' 4 36 ∧ tS w' w.2.1 v 11 (txS kd cp br n ws r) := by
  have q0 : (nI r < nI 0) = False := by rw [nI_ltS (by omega) (by decide)]; exact eq_false (by omega)
  have q6 : (nI r < nI 6) = True := by rw [nI_ltS (by omega) (by decide)]; exact eq_true (by omega)
  have e0 : ext w (am_nw w (.inr (1, am_df 1 4)) 4) 1 4 := ext_nw
  have b0 : cO (am_nw w (.inr (1, am_df 1 4)) 4) w.2.1 1 [.null, .int 0, .int 0, .int 0] := nw_s
  obtain ⟨w1, a1, h1, l1, ch1⟩ := x111 b0 (Nat.lt_succ_self _) (txS kd cp br n ws r)
  have hbv : (am_nw w (.inr (1, am_df 1 4)) 4).2.1 = w.2.1 + 1 := rfl
  rw [hbv] at h1 l1 ch1
  have e1 : ext w w1 2 20 := ext_wk (ext_chB e0 (Nat.le_refl _) (Nat.le_succ _) ch1) (by decide) (by decide)
  have go : ∀ j, j ≤ 6 → ∃ w2 m, ext w w2 2 20 ∧ sB w2 w.2.1 (w.2.1 + 1) m (txS kd cp br n ws r) ∧ (m = 2 * j ∧ j ≤ 5 ∨ m = 11 ∧ j = 6) ∧ w.2.1 + 1 < w2.2.1 ∧ am_run 243 30 [some (.ref x), some (.int (nI r)), some (.ref w.2.1), some (.int (nI 0)), none] [] w1 = am_run 243 30 [some (.ref x), some (.int (nI r)), some (.ref w.2.1), some (.int (nI j)), none] [] w2 := by
    intro j
    induction j with
    | zero => exact fun _ => ⟨w1, 0, e1, h1, Or.inl ⟨rfl, by decide⟩, l1, rfl⟩
    | succ j ih =>
      intro hj
      obtain ⟨w2, m, e2, h2, hm, l2, t2⟩ := ih (by omega)
      obtain rfl : m = 2 * j := by omega
      have R2 := rc_ext R hn hJ e2
      have q1 : (nI 6 ≤ nI j) = False := by rw [nI_leS (by decide) (by omega)]; exact eq_false (by omega)
      have hc : r * 6 + j < 36 := by omega
      obtain ⟨c, a, hcc, hct⟩ := x94 R2 hn hw hc
      obtain ⟨w3, a3, h3, ch3⟩ := x154 h2 (by omega) hcc ((tx_0 r j).trans hct)
      have e3 := ext_wk (ext_chB e2 (Nat.le_refl _) (Nat.le_succ _) ch3) (k' := 2) (s' := 20) (by decide) (by decide)
      have l3 : w.2.1 + 1 < w3.2.1 := Nat.lt_of_lt_of_le l2 ch3.2.1
      by_cases ej : j = 5
      · subst ej
        have q5 : (nI 5 ≤ nI 5) = True := eq_true (by decide)
        refine ⟨w3, 2 * 5 + 1, e3, h3, Or.inr ⟨rfl, rfl⟩, l3, t2.trans ?_⟩
        rw [bk243_30]
        simp only [q1, bk243_36, rc_kf R2, nI_mulS, nI_add, a, bk243_51, sb_kf h2, a3, bk243_54, q5, bk243_78, Option.bind_some, bct_v, bct_t, otl_s, otl_n, List.cons_append, List.nil_append, List.getElem?_cons_zero, List.getElem?_cons_succ, ↓reduceIte]
      · have q5 : (nI 5 ≤ nI j) = False := by rw [nI_leS (by decide) (by omega)]; exact eq_false (by omega)
        have R3 := rc_ext R hn hJ e3
        have z124 := x124 R3.2.1 hc (s := 1) (by decide)
        obtain ⟨c', a', hcc', hct'⟩ := x34 (w := w3) (knd_le hk (r * 6 + j) 1)
        obtain ⟨w4, a4, h4, ch4⟩ := x154 h3 (by omega) hcc' ((tx_1 r j).trans (by rw [← knd_1 (kd := kd) (r := r) (j := j) hr5 (by omega)]; exact hct'))
        have e4 := ext_wk (ext_chB e3 (Nat.le_refl _) (Nat.le_succ _) ch4) (k' := 2) (s' := 20) (by decide) (by decide)
        refine ⟨w4, 2 * j + 1 + 1, e4, h4, Or.inl ⟨by omega, by omega⟩, Nat.lt_of_lt_of_le l3 ch4.2.1, t2.trans ?_⟩
        rw [bk243_30]
        simp only [q1, bk243_36, rc_kf R2, nI_mulS, nI_add, a, bk243_51, sb_kf h2, a3, bk243_54, q5, bk243_60, gfc R3.1, oX_0, oX_1, oX_2, oX_3, oX_4, oX_5, oX_6, oX_7, oX_8, bk243_65, kfc R3.2.1.1, z124, bk243_71, a', bk243_74, sb_kf h3, a4, bk243_77, bk243_78, Option.bind_some, bct_v, bct_t, otl_s, otl_n, List.cons_append, List.nil_append, List.getElem?_cons_zero, List.getElem?_cons_succ, ↓reduceIte]
  obtain ⟨w2, m, e2, h2, hm, l2, t2⟩ := go 6 (Nat.le_refl _)
  obtain rfl : m = 11 := by omega
  obtain ⟨w3, a3, e3, t3⟩ := x238 h2 (by omega) (by omega) l2
  refine ⟨w3, w2.2.1, ?_, ext_wk (ext_tr e2 e3) (by decide) (by omega), tS_lo t3 (by omega)⟩
  have q7 : (nI 6 ≤ nI 6) = True := eq_true (by decide)
  simp only [bx243, bk243_0, q0, bk243_4, q6, bk243_20, bk243_23, a1, bk243_27, Option.bind_some, bct_v, bct_t, otl_s, otl_n, List.cons_append, List.nil_append, List.getElem?_cons_zero, List.getElem?_cons_succ, ↓reduceIte]
  refine Eq.trans t2 ?_
  simp only [bk243_30, q7, bk243_84, sb_kf h2, a3, bk243_88, Option.bind_some, bct_v, bct_t, otl_s, otl_n, List.cons_append, List.nil_append, List.getElem?_cons_zero, List.getElem?_cons_succ, ↓reduceIte]
end RW
end
section
/-! ROWS AS TEXT, the reference's: only that they end, and what they make. Mine. -/
theorem i_m1 (x : Int32) : x + (-1 : Int32) = x - nI 1 := by rw [Int32.sub_eq_add_neg]; rfl
section RR
variable {w : am_Wd} {g : Nat → Nat} {m kq hq ca ba wl ed : Nat} {wad : Nat → Nat} {kd hr : Nat → Nat} {cp br : Nat → Bool} {n : Nat} {ws : Nat → sW} {th mi nd : Nat} {dr me di re : Int32}
variable {i a ho po ch : Nat} {lo ac bu sl : Int32} {may : Nat → Bool} {mp : Nat → Nat}
theorem stp_le {lo hi k s : Nat} {g g' : Nat → Nat} {w w' : am_Wd} (p : stp lo hi g g' k s w w') : w.2.1 ≤ w'.2.1 := p.2.2.2.2.1
theorem StW.ext {w' : am_Wd} {k s : Nat} (h : StW w g) (hJ : gJ w g) (e : ext w w' k s) : StW w' g := h.stp (lo := 1) (hi := 40) (by decide) (stp_ext hJ e)
/-- from the last one down -/
def whoD (ws : Nat → sW) (c : Nat) : Nat → Option Nat → Option Nat
  | 0, o => o
  | j + 1, o => whoD ws c j (if (ws j).2.1 / 4 = c then some j else o)
theorem whoD_S {n : Nat} (hn : n ≤ 3) (ws : Nat → sW) (c : Nat) : whoD ws c n none = whoS n ws c 3 0 := by
  rcases (show n = 0 ∨ n = 1 ∨ n = 2 ∨ n = 3 by omega) with rfl | rfl | rfl | rfl
  · simp [whoD, whoS]
  · by_cases h0 : (ws 0).2.1 / 4 = c <;> simp [whoD, whoS, h0]
  · by_cases h0 : (ws 0).2.1 / 4 = c <;> by_cases h1 : (ws 1).2.1 / 4 = c <;> simp [whoD, whoS, h0, h1]
  · by_cases h0 : (ws 0).2.1 / 4 = c <;> by_cases h1 : (ws 1).2.1 / 4 = c <;> by_cases h2 : (ws 2).2.1 / 4 = c <;> simp [whoD, whoS, h0, h1, h2]
/-- who stands there -/
theorem who246 (R : RMx w g m kq hq ca ba wl ed wad kd hr cp br n ws th mi nd dr me di re) (hn : n ≤ 3) (hw : ∀ i, i < n → okW (ws i)) {r b c : Nat} (hc : c < 36) : ∀ j, j ≤ n → ∀ o : Option Nat, (∀ i, o = some i → i ≤ 2) → (∀ i, whoD ws c j o = some i → i ≤ 2) ∧ am_run 246 63 [some (.ref m), some (.int (nI r)), some (.ref b), some (.int (nI c)), some (.int (no o)), some (.int (nI j - nI 1))] [] w = am_run 246 63 [some (.ref m), some (.int (nI r)), some (.ref b), some (.int (nI c)), some (.int (no (whoD ws c j o))), some (.int (nI 0 - nI 1))] [] w := by
  intro j
  induction j with
  | zero => exact fun _ o ho => ⟨ho, rfl⟩
  | succ j ih =>
    intro hj o ho
    have e0 : nI (j + 1) - nI 1 = nI j := by rw [nI_subS (by omega), Nat.add_sub_cancel]
    have q0 : (nI j < nI 0) = False := by rw [nI_ltS (by omega) (by decide)]; exact eq_false (by omega)
    have v := x150 (rm_L R) hn (i := j) (by omega)
    obtain ⟨⟨o1, o2, o3, o4, o5⟩, o6⟩ := hw j (by omega)
    have h' := rm_get R (i := j) (by omega) (sW_eta (ws j))
    have kw := mk_kf h'
    obtain ⟨ma, mq, c1, -⟩ := h'
    have z := x38 c1 o2
    by_cases ec : (ws j).2.1 / 4 = c
    · have q5 : (nI ((ws j).2.1 / 4) = nI c) = True := by rw [nI_eqS (by omega) (by omega)]; exact eq_true ec
      have eD : whoD ws c (j + 1) o = whoD ws c j (some j) := by
        show whoD ws c j (if (ws j).2.1 / 4 = c then some j else o) = _
        rw [if_pos ec]
      rw [eD]
      obtain ⟨k1, k2⟩ := ih (by omega) (some j) (fun i hi => by cases hi; omega)
      refine ⟨k1, Eq.trans ?_ k2⟩
      rw [e0, bk246_63]
      simp only [q0, bk246_68, gfc R.1, oM_0, oM_1, oM_2, oM_3, oM_4, oM_5, oM_6, oM_7, oM_8, oM_9, oM_10, oM_11, bk246_72, rm_lk R, v, bk246_77, kw, bk246_80, z, bk246_83, q5, not_true_eq_false, bk246_87, bk246_94, i_m1, Option.bind_some, bct_v, bct_t, otl_s, otl_n, List.cons_append, List.nil_append, List.getElem?_cons_zero, List.getElem?_cons_succ, ↓reduceIte]
      rfl
    · have q5 : (nI ((ws j).2.1 / 4) = nI c) = False := by rw [nI_eqS (by omega) (by omega)]; exact eq_false ec
      have eD : whoD ws c (j + 1) o = whoD ws c j o := by
        show whoD ws c j (if (ws j).2.1 / 4 = c then some j else o) = _
        rw [if_neg ec]
      rw [eD]
      obtain ⟨k1, k2⟩ := ih (by omega) o ho
      refine ⟨k1, Eq.trans ?_ k2⟩
      rw [e0, bk246_63]
      simp only [q0, bk246_68, gfc R.1, oM_0, oM_1, oM_2, oM_3, oM_4, oM_5, oM_6, oM_7, oM_8, oM_9, oM_10, oM_11, bk246_72, rm_lk R, v, bk246_77, kw, bk246_80, z, bk246_83, q5, not_false_eq_true, bk246_92, bk246_94, i_m1, Option.bind_some, bct_v, bct_t, otl_s, otl_n, List.cons_append, List.nil_append, List.getElem?_cons_zero, List.getElem?_cons_succ, ↓reduceIte]
/-- what is put for a cell -/
theorem put246 (R : RMx w g m kq hq ca ba wl ed wad kd hr cp br n ws th mi nd dr me di re) (hn : n ≤ 3) (hJ : gJ w g) (hS : StW w g) (hw : ∀ i, i < n → okW (ws i)) {r b va c k : Nat} {T : Nat → Int32} (hc : c < 36) (hT : T k = celS cp br c (whoS n ws c 3 0)) (h : sB w b va k T) (hk : k < 16) (hb : b < w.2.1) (hv : va < w.2.1) {w0 : am_Wd} {k0 s0 : Nat} (e0 : ext w0 w k0 s0) (hb0 : w0.2.1 ≤ b) (hv0 : w0.2.1 ≤ va) :
    ∃ w', am_run 246 49 [some (.ref m), some (.int (nI r)), some (.ref b), some (.int (nI c)), none, none] [] w = am_run 246 150 [some (.ref m), some (.int (nI r)), some (.ref b), some (.int (nI c)), none, none] [.ref b] w' ∧ sB w' b va (k + 1) T ∧ ext w0 w' (k0 + 2) (s0 + 5) ∧ w.2.1 ≤ w'.2.1 := by
  have hw9 := who246 R hn hw (r := r) (b := b) hc n (Nat.le_refl n) none (fun i hi => by cases hi)
  rw [← whoD_S hn] at hT
  generalize whoD ws c n none = o at hw9 hT
  obtain ⟨ho, t1⟩ := hw9
  have qm : (nI 0 - nI 1 < nI 0) = True := eq_true (by decide)
  have st : am_run 246 49 [some (.ref m), some (.int (nI r)), some (.ref b), some (.int (nI c)), none, none] [] w = am_run 246 102 [some (.ref m), some (.int (nI r)), some (.ref b), some (.int (nI c)), some (.int (no o)), none] [] w := by
    simp only [bk246_49, gfc R.1, oM_0, oM_1, oM_2, oM_3, oM_4, oM_5, oM_6, oM_7, oM_8, oM_9, oM_10, oM_11, bk246_56, rm_lk R, x56 (rm_L R), bk246_59, Option.bind_some, bct_v, bct_t, otl_s, otl_n, List.cons_append, List.nil_append, List.getElem?_cons_zero, List.getElem?_cons_succ, ↓reduceIte]
    refine Eq.trans t1 ?_
    simp only [bk246_63, qm, Option.bind_some, bct_v, bct_t, otl_s, otl_n, List.cons_append, List.nil_append, List.getElem?_cons_zero, List.getElem?_cons_succ, ↓reduceIte]
  rw [st]
  cases o with
  | some i =>
    have hi := ho i rfl
    obtain ⟨w1, a1, s1, e1, l1⟩ := x152 hS hi
    obtain ⟨w2, a2, h2, c2⟩ := x222 (h.ext hb hv e1) s1 (by omega) (fun j hj => by
      obtain rfl : j = 0 := by omega
      exact hT.symm)
    refine ⟨w2, ?_, h2, ext_wk (ext_chB (ext_tr e0 e1) hb0 hv0 c2) (by omega) (by omega), Nat.le_trans e1.2.1 c2.2.1⟩
    have q : (nI i = (-1 : Int32)) = False := nI_m1S (by omega)
    have kb := sb_kf (h.ext hb hv e1)
    simp only [no, bk246_102, q, bk246_109, a1, bk246_114, bk246_147, kb, a2, Option.bind_some, bct_v, bct_t, otl_s, otl_n, List.cons_append, List.nil_append, List.getElem?_cons_zero, List.getElem?_cons_succ, ↓reduceIte]
  | none =>
    have rb : am_ri 2 w ba (nI c) = some (b2i (br c)) := ric R.2.2.2.2.1 rfl hc (by decide)
    have rc : am_ri 2 w ca (nI c) = some (b2i (cp c)) := ric R.2.2.2.1 rfl hc (by decide)
    have kb := sb_kf h
    cases eb : br c with
    | true =>
      obtain ⟨q, v, g1, s1, -, -⟩ := sT_lit hS (r := 25) (by decide) (by decide)
      have hT1 : T k = nI 120 := hT.trans (if_pos eb)
      obtain ⟨w2, a2, h2, c2⟩ := x222 h s1 (by show k + 1 ≤ 16; omega) (fun j hj => by
        have hj : j < 1 := hj
        obtain rfl : j = 0 := by omega
        exact hT1.symm)
      refine ⟨w2, ?_, h2, ext_wk (ext_chB e0 hb0 hv0 c2) (by omega) (by omega), c2.2.1⟩
      simp only [no, bk246_102, bk246_117, gfc R.1, oM_0, oM_1, oM_2, oM_3, oM_4, oM_5, oM_6, oM_7, oM_8, oM_9, oM_10, oM_11, bk246_121, rb, eb, bk246_123, b2i_0, reduceCtorEq, bk246_126 g1, bk246_128, bk246_147, kb, a2, Option.bind_some, bct_v, bct_t, otl_s, otl_n, List.cons_append, List.nil_append, List.getElem?_cons_zero, List.getElem?_cons_succ, ↓reduceIte]
    | false =>
      cases ec : cp c with
      | true =>
        obtain ⟨q, v, g1, s1, -, -⟩ := sT_lit hS (r := 26) (by decide) (by decide)
        have hT1 : T k = nI 99 := hT.trans ((if_neg (by rw [eb]; decide)).trans (if_pos ec))
        obtain ⟨w2, a2, h2, c2⟩ := x222 h s1 (by show k + 1 ≤ 16; omega) (fun j hj => by
          have hj : j < 1 := hj
          obtain rfl : j = 0 := by omega
          exact hT1.symm)
        refine ⟨w2, ?_, h2, ext_wk (ext_chB e0 hb0 hv0 c2) (by omega) (by omega), c2.2.1⟩
        simp only [no, bk246_102, bk246_117, gfc R.1, oM_0, oM_1, oM_2, oM_3, oM_4, oM_5, oM_6, oM_7, oM_8, oM_9, oM_10, oM_11, bk246_121, rb, eb, bk246_123, b2i_0, bk246_131, bk246_135, rc, ec, bk246_137, reduceCtorEq, bk246_140 g1, bk246_142, bk246_147, kb, a2, Option.bind_some, bct_v, bct_t, otl_s, otl_n, List.cons_append, List.nil_append, List.getElem?_cons_zero, List.getElem?_cons_succ, ↓reduceIte]
      | false =>
        obtain ⟨q, v, g1, s1, -, -⟩ := sT_lit hS (r := 27) (by decide) (by decide)
        have hT1 : T k = nI 46 := hT.trans ((if_neg (by rw [eb]; decide)).trans (if_neg (by rw [ec]; decide)))
        obtain ⟨w2, a2, h2, c2⟩ := x222 h s1 (by show k + 1 ≤ 16; omega) (fun j hj => by
          have hj : j < 1 := hj
          obtain rfl : j = 0 := by omega
          exact hT1.symm)
        refine ⟨w2, ?_, h2, ext_wk (ext_chB e0 hb0 hv0 c2) (by omega) (by omega), c2.2.1⟩
        simp only [no, bk246_102, bk246_117, gfc R.1, oM_0, oM_1, oM_2, oM_3, oM_4, oM_5, oM_6, oM_7, oM_8, oM_9, oM_10, oM_11, bk246_121, rb, eb, bk246_123, b2i_0, bk246_131, bk246_135, rc, ec, bk246_137, bk246_145 g1, bk246_147, kb, a2, Option.bind_some, bct_v, bct_t, otl_s, otl_n, List.cons_append, List.nil_append, List.getElem?_cons_zero, List.getElem?_cons_succ, ↓reduceIte]
theorem sep_lit {k : Nat} (hk : k ≤ 2) : sepS k = vp_nar .byte (Int32.toInt8 (bj_i2c (litS 28 k &&& nI 255))).toInt32 := by
  have h : ∀ j : Fin 3, sepS j.val = vp_nar .byte (Int32.toInt8 (bj_i2c (litS 28 j.val &&& nI 255))).toInt32 := by decide +kernel
  exact h ⟨k, by omega⟩
/-- a cell -/
theorem cell246 (R : RMx w g m kq hq ca ba wl ed wad kd hr cp br n ws th mi nd dr me di re) (hn : n ≤ 3) (hJ : gJ w g) (hS : StW w g) (hk2 : kdok kd) (hw : ∀ i, i < n → okW (ws i)) {r b va c k : Nat} {T : Nat → Int32} (hc : c < 36) (hcr : c < 6 * r + 6) (hr : r ≤ 5) (hT0 : T k = celS cp br c (whoS n ws c 3 0)) (hT1 : (nb c (0 + 1)).isSome = true → T (k + 1) = sepS (kd (2 * c))) (h : sB w b va k T) (hk : k + 1 < 16) (hb : b < w.2.1) (hv : va < w.2.1) {hr0 : Nat → Nat} {w0 : am_Wd} {k0 s0 : Nat} (e0 : ext w0 w k0 s0) (hb0 : w0.2.1 ≤ b) (hv0 : w0.2.1 ≤ va) (hJ0 : gJ w0 g) (R0 : RMx w0 g m kq hq ca ba wl ed wad kd hr0 cp br n ws th mi nd dr me di re) (hS0 : StW w0 g) :
    ∃ w', am_run 246 38 [some (.ref m), some (.int (nI r)), some (.ref b), some (.int (nI c)), none, none] [] w = am_run 246 38 [some (.ref m), some (.int (nI r)), some (.ref b), some (.int (nI (c + 1))), none, none] [] w' ∧ sB w' b va (if (nb c (0 + 1)).isSome = true then k + 2 else k + 1) T ∧ w.2.1 ≤ w'.2.1 ∧ ext w0 w' (k0 + 2) (s0 + 5) := by
  obtain ⟨w1, t1, h1, e1, l1⟩ := put246 R hn hJ hS hw (r := r) hc hT0 h (by omega) hb hv e0 hb0 hv0
  have q0 : (nI (6 * r + 6) ≤ nI c) = False := by rw [nI_leS (by omega) (by omega)]; exact eq_false (by omega)
  have z := x143 (w := w1) hc (j := 0) (by decide)
  have st : am_run 246 38 [some (.ref m), some (.int (nI r)), some (.ref b), some (.int (nI c)), none, none] [] w = am_run 246 49 [some (.ref m), some (.int (nI r)), some (.ref b), some (.int (nI c)), none, none] [] w := by
    simp only [bk246_38, nI_mulS, nI_add, q0, Option.bind_some, bct_v, bct_t, otl_s, otl_n, List.cons_append, List.nil_append, List.getElem?_cons_zero, List.getElem?_cons_succ, ↓reduceIte]
  rw [st, t1]
  cases ew : (nb c (0 + 1)).isSome with
  | false =>
    rw [ew] at z
    rw [if_neg (by decide)]
    refine ⟨w1, ?_, h1, l1, e1⟩
    rw [bk246_150]
    simp only [z, bk246_156, b2i_0, bk246_178, nI_add, Option.bind_some, bct_v, bct_t, otl_s, otl_n, List.cons_append, List.nil_append, List.getElem?_cons_zero, List.getElem?_cons_succ, ↓reduceIte]
  | true =>
    rw [ew] at z
    have R1 := rm_ext R0 hn hJ0 e1
    have hS1 := hS0.ext hJ0 e1
    obtain ⟨q, v, g1, s1, -, -⟩ := sT_lit hS1 (r := 28) (by decide) (by decide)
    have rr := R1.2.1.row hc
    have ra := R1.2.1.at hc (j := 0) (by decide)
    have kl := hk2 (2 * c + 0)
    obtain ⟨ch, a3, hch, hcv⟩ := x196 s1 (j := kd (2 * c + 0)) (by show kd (2 * c + 0) < 3; omega)
    obtain ⟨w2, a2, h2, c2⟩ := x154 h1 (by omega) hch ((hT1 ew).trans (by rw [hcv]; exact sep_lit kl))
    rw [if_pos rfl]
    refine ⟨w2, ?_, h2, Nat.le_trans l1 c2.2.1, ext_wk (ext_chB e1 hb0 hv0 c2) (by omega) (by omega)⟩
    rw [bk246_150]
    simp only [z, bk246_156, b2i_0, reduceCtorEq, bk246_159 g1, bk246_163, gfc R1.1, oM_0, oM_1, oM_2, oM_3, oM_4, oM_5, oM_6, oM_7, oM_8, oM_9, oM_10, oM_11, bk246_167, rr, bk246_169, ra, bk246_171, s1.2.2.1, a3, bk246_174, sb_kf h1, a2, bk246_177, bk246_178, nI_add, Option.bind_some, bct_v, bct_t, otl_s, otl_n, List.cons_append, List.nil_append, List.getElem?_cons_zero, List.getElem?_cons_succ, ↓reduceIte]
/-- row -/
theorem y246 (R : RMx w g m kq hq ca ba wl ed wad kd hr cp br n ws th mi nd dr me di re) (hn : n ≤ 3) (hJ : gJ w g) (hS : StW w g) (hk : kdok kd) (hw : ∀ i, i < n → okW (ws i)) {r : Nat} (hr5 : r ≤ 5) : ∃ w' v, am_x 246 [.ref m, .int (nI r)] w = some (.inl (some (.ref v)), w') ∧ RM w' g m kd hr cp br n ws 0 mi nd dr me di re ∧ stp 100 800 g g 20 80 w w' ∧ tS w' w.2.1 v 11 (txS kd cp br n ws r) := by
  have z := fun w => x39 (w := w) (a := 0) (b := 5) (j := r) (by decide) (Nat.zero_le r) hr5
  obtain ⟨w1, a1, R1, f1⟩ := x96 R hn false (c := 1) (by decide)
  have a1' : am_x 96 [.ref m, .int (nI 0), .int (nI 1)] w = _ := a1
  have s1 := stp_frm (lo := 100) (hi := 800) hJ f1 (by decide) (by decide)
  have hJ1 := stp_J s1
  have hS1 := hS.stp (by decide) s1
  have e0 : ext w1 (am_nw w1 (.inr (1, am_df 1 4)) 4) 1 4 := ext_nw
  have b0 : cO (am_nw w1 (.inr (1, am_df 1 4)) 4) w1.2.1 1 [.null, .int 0, .int 0, .int 0] := nw_s
  obtain ⟨w2, a2, h2, l2, ch2⟩ := x111 b0 (Nat.lt_succ_self _) (txS kd cp br n ws r)
  have hbv : (am_nw w1 (.inr (1, am_df 1 4)) 4).2.1 = w1.2.1 + 1 := rfl
  rw [hbv] at h2 l2 ch2
  have e2 : ext w1 w2 2 20 := ext_wk (ext_chB e0 (Nat.le_refl _) (Nat.le_succ _) ch2) (by decide) (by decide)
  have go : ∀ j, j ≤ 6 → ∃ w3 k, ext w1 w3 (2 + 2 * j) (20 + 5 * j) ∧ sB w3 w1.2.1 (w1.2.1 + 1) k (txS kd cp br n ws r) ∧ (k = 2 * j ∧ j ≤ 5 ∨ k = 11 ∧ j = 6) ∧ w1.2.1 + 1 < w3.2.1 ∧ am_run 246 38 [some (.ref m), some (.int (nI r)), some (.ref w1.2.1), some (.int (nI (6 * r))), none, none] [] w2 = am_run 246 38 [some (.ref m), some (.int (nI r)), some (.ref w1.2.1), some (.int (nI (6 * r + j))), none, none] [] w3 := by
    intro j
    induction j with
    | zero => exact fun _ => ⟨w2, 0, e2, h2, Or.inl ⟨rfl, by decide⟩, l2, rfl⟩
    | succ j ih =>
      intro hj
      obtain ⟨w3, k, e3, h3, hk3, l3, t3⟩ := ih (by omega)
      obtain rfl : k = 2 * j := by omega
      obtain ⟨w4, t4, h4, l4, e4⟩ := cell246 (rm_ext R1 hn hJ1 e3) hn (gJ_ext hJ1 e3) (hS1.ext hJ1 e3) hk hw (r := r) (c := 6 * r + j) (by omega) (by omega) hr5 (by rw [tx_0, show r * 6 + j = 6 * r + j by omega]) (fun _ => by rw [tx_1, show r * 6 + j = 6 * r + j by omega]) h3 (by omega) (by omega) l3 e3 (Nat.le_refl _) (Nat.le_succ _) hJ1 R1 hS1
      refine ⟨w4, _, ext_wk e4 (by omega) (by omega), h4, ?_, Nat.lt_of_lt_of_le l3 l4, t3.trans t4⟩
      by_cases ej : j = 5
      · subst ej
        have e9 : nb (6 * r + 5) (0 + 1) = none := by
          unfold nb
          rw [if_neg (by decide), if_pos rfl, if_neg (by omega)]
        rw [if_neg (by rw [e9]; decide)]
        exact Or.inr ⟨rfl, rfl⟩
      · have e9 : nb (6 * r + j) (0 + 1) = some (6 * r + j + 1) := by
          have := nb_row r hr5 j (by omega)
          rw [show r * 6 + j = 6 * r + j by omega] at this
          exact this
        rw [if_pos (by rw [e9]; rfl)]
        exact Or.inl ⟨by omega, by omega⟩
  obtain ⟨w3, k, e3, h3, hk3, l3, t3⟩ := go 6 (Nat.le_refl _)
  obtain rfl : k = 11 := by omega
  obtain ⟨w4, a4, e4, t9⟩ := x238 h3 (by omega) (by omega) l3
  have e5 := ext_tr e3 e4
  refine ⟨w4, w3.2.1, ?_, ⟨_, _, _, _, _, _, _, rm_ext R1 hn hJ1 e5⟩, stp_wk (stp_tr s1 (stp_ext hJ1 e5)) (by omega) (by omega), tS_lo t9 (Nat.le_trans (stp_le s1) (by omega))⟩
  have q7 : (nI (6 * r + 6) ≤ nI (6 * r + 6)) = True := eq_true (by rw [nI_leS (by omega) (by omega)]; exact Nat.le_refl _)
  simp only [bx246, bk246_0, z, bk246_7, n10, not_false_eq_true, bk246_14, bk246_15, rm_kf R, a1', bk246_19, b2i_0, bk246_25, bk246_28, a2, bk246_32, nI_mulS, Option.bind_some, bct_v, bct_t, otl_s, otl_n, List.cons_append, List.nil_append, List.getElem?_cons_zero, List.getElem?_cons_succ, ↓reduceIte]
  refine Eq.trans t3 ?_
  simp only [bk246_38, nI_mulS, nI_add, q7, bk246_184, sb_kf h3, a4, bk246_188, Option.bind_some, bct_v, bct_t, otl_s, otl_n, List.cons_append, List.nil_append, List.getElem?_cons_zero, List.getElem?_cons_succ, ↓reduceIte]
theorem y246n (R : RMx w g m kq hq ca ba wl ed wad kd hr cp br n ws th mi nd dr me di re) (hn : n ≤ 3) (hJ : gJ w g) (hS : StW w g) {z : Int32} (hz : z < nI 0 ∨ nI 5 < z) : ∃ w' v, am_x 246 [.ref m, .int z] w = some (.inl (some (.ref v)), w') ∧ RM w' g m kd hr cp br n ws 1 mi nd dr me di re ∧ stp 100 800 g g 0 0 w w' := by
  have y := fun w => x39n (w := w) (a := 0) (b := 5) hz
  obtain ⟨w1, a1, R1, f1⟩ := x96 R hn true (c := 1) (by decide)
  have a1' : am_x 96 [.ref m, .int (nI 1), .int (nI 1)] w = _ := a1
  have s1 := stp_frm (lo := 100) (hi := 800) hJ f1 (by decide) (by decide)
  obtain ⟨q, v, g1, t1, -, -⟩ := sT_lit (hS.stp (by decide) s1) (r := 24) (by decide) (by decide)
  refine ⟨w1, q, ?_, ⟨_, _, _, _, _, _, _, R1⟩, s1⟩
  simp only [bx246, bk246_0, y, bk246_7, not_true_eq_false, bk246_10, bk246_15, rm_kf R, a1', bk246_19, b2i_0, reduceCtorEq, bk246_22 g1, bk246_24, Option.bind_some, bct_v, bct_t, otl_s, otl_n, List.cons_append, List.nil_append, List.getElem?_cons_zero, List.getElem?_cons_succ, ↓reduceIte]
end RR
/-- both sides of row -/
def JR (z : Int32) (S : sS) : Prop := ∃ (th : Nat) (T : Nat → Int32), th ≤ 1 ∧ (∀ (w : am_Wd) (g : Nat → Nat) (x : Nat), RC w g x S → gJ w g → StW w g → ∃ w1 r, am_x 243 [.ref x, .int z] w = some (r, w1) ∧ RC w1 g x S ∧ stp 1 40 g g 100 200 w w1 ∧ (th = 0 → ∃ v, r = .inl (some (.ref v)) ∧ tS w1 w.2.1 v 11 T) ∧ (th ≠ 0 → r = .inr (am_xn (exA th)))) ∧ (∀ (w : am_Wd) (g : Nat → Nat) (m t : Nat), RN w g m S t → gJ w g → StW w g → ∃ w1 v, am_x 246 [.ref m, .int z] w = some (.inl (some (.ref v)), w1) ∧ RN w1 g m S th ∧ stp 100 800 g g 500 13000 w w1 ∧ (th = 0 → tS w1 w.2.1 v 11 T))
theorem j_row {kd hr : Nat → Nat} {cp br : Nat → Bool} {n : Nat} {ws : Nat → sW} {mi nd : Nat} {dr me di re : Int32} (ok : okS (kd, hr, cp, br, n, ws, mi, nd, dr, me, di, re)) (z : Int32) : JR z (kd, hr, cp, br, n, ws, mi, nd, dr, me, di, re) := by
  obtain ⟨hk, hh, hz, hn, hm, hd, hw⟩ := id ok
  rcases ixr_c (a := 0) (b := 5) (by decide) (by decide) z with ⟨-, q⟩ | ⟨r, -, hr5, rfl, -⟩
  · refine ⟨1, fun _ => nI 0, by decide, fun w g x R hJ _ => ?_, fun w g m t R hJ hS => ?_⟩
    · obtain ⟨fl, ka, ha, wr, C, B, wad, R⟩ := R
      exact ⟨_, _, x243n q, ⟨fl, ka, ha, wr, C, B, wad, rc_jk R hn 1 6⟩, stp_wk (stp_ext hJ jk_ext) (by decide) (by decide), fun h => absurd h (by decide), fun _ => rfl⟩
    · obtain ⟨kq, hq, ca, ba, wl, ed, wad, R⟩ := R
      obtain ⟨w1, v, a, b, c⟩ := y246n R hn hJ hS q
      exact ⟨w1, v, a, b, stp_wk c (by decide) (by decide), fun h => absurd h (by decide)⟩
  · refine ⟨0, txS kd cp br n ws r, by decide, fun w g x R hJ _ => ?_, fun w g m t R hJ hS => ?_⟩
    · obtain ⟨fl, ka, ha, wr, C, B, wad, R⟩ := R
      obtain ⟨w1, v, a, e, t⟩ := x243 R hn hJ hk hw hr5
      exact ⟨w1, _, a, ⟨fl, ka, ha, wr, C, B, wad, rc_ext R hn hJ e⟩, stp_wk (stp_ext hJ e) (by decide) (by decide), fun _ => ⟨v, rfl, t⟩, fun h => absurd rfl h⟩
    · obtain ⟨kq, hq, ca, ba, wl, ed, wad, R⟩ := R
      obtain ⟨w1, v, a, b, c, t⟩ := y246 R hn hJ hS hk hw hr5
      exact ⟨w1, v, a, b, stp_wk c (by decide) (by decide), fun _ => t⟩
end
section
/-! THE LAW'S OWN WRAPPERS OF THE CLASS'S CALLS. Laid by wip/gen/wrap.py. Mine. -/
theorem af_v {m pc : Nat} {v : Option Value} {w : am_Wd} {k : Option Value → am_Wd → am_Rs} {kh : Nat → am_Wd → am_Rs} : am_af m pc (.inl v, w) k kh = k v w := rfl
theorem af_e {m pc h : Nat} {E : String} {w : am_Wd} {k : Option Value → am_Wd → am_Rs} {kh : Nat → am_Wd → am_Rs} (e : am_hd m pc E = some h) : am_af m pc (.inr E, w) k kh = kh h w := by
  show (match am_hd m pc E with | none => some (Sum.inr E, w) | some h => kh h w) = _
  rw [e]
def oI (v : Int32) (_ : Int64) (d : UInt64) (s : Value) : List Value := [.long v.toInt64, .double d, s]
def oZ (v : Int32) (_ : Int64) (d : UInt64) (s : Value) : List Value := [.long (if v = nI 0 then lN 0 else lN 1), .double d, s]
def oJ (v : Int64) (_ : Int64) (d : UInt64) (s : Value) : List Value := [.long v, .double d, s]
def oD (v : UInt64) (a : Int64) (_ : UInt64) (s : Value) : List Value := [.long a, .double v, s]
/-- a wrapper: it answers what was refused; the answer is put into the law's object -/
def WP {α : Type} (F : α → Value) (O : α → Int64 → UInt64 → Value → List Value) (Wm Mc : Nat) (ex : Nat → Nat) (Bd : Nat) (as : List Value) : Prop := ∀ (w w1 : am_Wd) (x u th : Nat) (v : α), am_kf w x 8 = some () → th ≤ Bd → am_x Mc (.ref x :: as) w = some (if th = 0 then .inl (some (F v)) else .inr (am_xn (ex th)), w1) → ∀ (a : Int64) (d : UInt64) (s : Value), cO w1 u 9 [.long a, .double d, s] → ∃ w2, am_x Wm (.ref x :: (as ++ [.ref u])) w = some (.inl (some (.int (nI th))), w2) ∧ (th = 0 → w2 = am_pt w1 u (.inr (9, O v a d s))) ∧ (th ≠ 0 → w2 = w1)

theorem wr_edge (z0 z1 z2 z3 : Int32) : WP Value.int oI 216 166 exA 2 [.int z0, .int z1, .int z2, .int z3] := by
  intro w w1 x u th v kx hB hc a d s hu
  rcases (show th = 0 ∨ th = 1 ∨ th = 2 by omega) with rfl | rfl | rfl
  · have hc : am_x 166 [.ref x, .int z0, .int z1, .int z2, .int z3] w = some (.inl (some (Value.int v)), w1) := hc
    have p1 : am_pf w1 u 9 0 (.long v.toInt64) = some (am_pt w1 u (.inr (9, oI v a d s))) := pfc hu (by show 0 < 3; decide) (by decide)
    refine ⟨_, ?_, fun _ => rfl, fun h => absurd rfl h⟩
    simp only [List.cons_append, List.nil_append]
    simp only [bx216, bk216_0, kx, hc, af_v, bk216_11, bk216_15, Option.bind_some, bct_v, bct_t, otl_s, otl_n, List.cons_append, List.nil_append, List.getElem?_cons_zero, List.getElem?_cons_succ, ↓reduceIte, p1]
  · have hc : am_x 166 [.ref x, .int z0, .int z1, .int z2, .int z3] w = some (.inr (am_xn 0), w1) := hc
    refine ⟨w1, ?_, fun h => absurd h (by decide), fun _ => rfl⟩
    have e : am_hd 216 8 (am_xn 0) = some 20 := by decide +kernel
    have nr : am_nrm 216 20 [none, none, none, none, none, none, none] = [none, none, none, none, none, none, none] := rfl
    simp only [List.cons_append, List.nil_append]
    simp only [bx216, bk216_0, kx, hc, af_e e, nr, bk216_20, Option.bind_some, bct_v, bct_t, otl_s, otl_n, List.cons_append, List.nil_append, List.getElem?_cons_zero, List.getElem?_cons_succ, ↓reduceIte]
  · have hc : am_x 166 [.ref x, .int z0, .int z1, .int z2, .int z3] w = some (.inr (am_xn 1), w1) := hc
    refine ⟨w1, ?_, fun h => absurd h (by decide), fun _ => rfl⟩
    have e : am_hd 216 8 (am_xn 1) = some 24 := by decide +kernel
    have nr : am_nrm 216 24 [none, none, none, none, none, none, none] = [none, none, none, none, none, none, none] := rfl
    simp only [List.cons_append, List.nil_append]
    simp only [bx216, bk216_0, kx, hc, af_e e, nr, bk216_24, Option.bind_some, bct_v, bct_t, otl_s, otl_n, List.cons_append, List.nil_append, List.getElem?_cons_zero, List.getElem?_cons_succ, ↓reduceIte]

theorem wr_lay (z0 : Int32) : WP Value.int oI 233 200 exC 1 [.int z0] := by
  intro w w1 x u th v kx hB hc a d s hu
  rcases (show th = 0 ∨ th = 1 by omega) with rfl | rfl
  · have hc : am_x 200 [.ref x, .int z0] w = some (.inl (some (Value.int v)), w1) := hc
    have p1 : am_pf w1 u 9 0 (.long v.toInt64) = some (am_pt w1 u (.inr (9, oI v a d s))) := pfc hu (by show 0 < 3; decide) (by decide)
    refine ⟨_, ?_, fun _ => rfl, fun h => absurd rfl h⟩
    simp only [List.cons_append, List.nil_append]
    simp only [bx233, bk233_0, kx, hc, af_v, bk233_6, bk233_10, Option.bind_some, bct_v, bct_t, otl_s, otl_n, List.cons_append, List.nil_append, List.getElem?_cons_zero, List.getElem?_cons_succ, ↓reduceIte, p1]
  · have hc : am_x 200 [.ref x, .int z0] w = some (.inr (am_xn 1), w1) := hc
    refine ⟨w1, ?_, fun h => absurd h (by decide), fun _ => rfl⟩
    have e : am_hd 233 3 (am_xn 1) = some 14 := by decide +kernel
    have nr : am_nrm 233 14 [none, none, none, none] = [none, none, none, none] := rfl
    simp only [List.cons_append, List.nil_append]
    simp only [bx233, bk233_0, kx, hc, af_e e, nr, bk233_14, Option.bind_some, bct_v, bct_t, otl_s, otl_n, List.cons_append, List.nil_append, List.getElem?_cons_zero, List.getElem?_cons_succ, ↓reduceIte]

theorem wr_cell (z0 z1 z2 : Int32) : WP Value.int oI 147 90 exA 1 [.int z0, .int z1, .int z2] := by
  intro w w1 x u th v kx hB hc a d s hu
  rcases (show th = 0 ∨ th = 1 by omega) with rfl | rfl
  · have hc : am_x 90 [.ref x, .int z0, .int z1, .int z2] w = some (.inl (some (Value.int v)), w1) := hc
    have p1 : am_pf w1 u 9 0 (.long v.toInt64) = some (am_pt w1 u (.inr (9, oI v a d s))) := pfc hu (by show 0 < 3; decide) (by decide)
    refine ⟨_, ?_, fun _ => rfl, fun h => absurd rfl h⟩
    simp only [List.cons_append, List.nil_append]
    simp only [bx147, bk147_0, kx, hc, af_v, bk147_9, bk147_13, Option.bind_some, bct_v, bct_t, otl_s, otl_n, List.cons_append, List.nil_append, List.getElem?_cons_zero, List.getElem?_cons_succ, ↓reduceIte, p1]
  · have hc : am_x 90 [.ref x, .int z0, .int z1, .int z2] w = some (.inr (am_xn 0), w1) := hc
    refine ⟨w1, ?_, fun h => absurd h (by decide), fun _ => rfl⟩
    have e : am_hd 147 6 (am_xn 0) = some 18 := by decide +kernel
    have nr : am_nrm 147 18 [none, none, none, none, none, none] = [none, none, none, none, none, none] := rfl
    simp only [List.cons_append, List.nil_append]
    simp only [bx147, bk147_0, kx, hc, af_e e, nr, bk147_18, Option.bind_some, bct_v, bct_t, otl_s, otl_n, List.cons_append, List.nil_append, List.getElem?_cons_zero, List.getElem?_cons_succ, ↓reduceIte]

theorem wr_walker (z0 z1 z2 z3 : Int32) : WP Value.int oI 217 167 exA 3 [.int z0, .int z1, .int z2, .int z3] := by
  intro w w1 x u th v kx hB hc a d s hu
  rcases (show th = 0 ∨ th = 1 ∨ th = 2 ∨ th = 3 by omega) with rfl | rfl | rfl | rfl
  · have hc : am_x 167 [.ref x, .int z0, .int z1, .int z2, .int z3] w = some (.inl (some (Value.int v)), w1) := hc
    have p1 : am_pf w1 u 9 0 (.long v.toInt64) = some (am_pt w1 u (.inr (9, oI v a d s))) := pfc hu (by show 0 < 3; decide) (by decide)
    refine ⟨_, ?_, fun _ => rfl, fun h => absurd rfl h⟩
    simp only [List.cons_append, List.nil_append]
    simp only [bx217, bk217_0, kx, hc, af_v, bk217_11, bk217_15, Option.bind_some, bct_v, bct_t, otl_s, otl_n, List.cons_append, List.nil_append, List.getElem?_cons_zero, List.getElem?_cons_succ, ↓reduceIte, p1]
  · have hc : am_x 167 [.ref x, .int z0, .int z1, .int z2, .int z3] w = some (.inr (am_xn 0), w1) := hc
    refine ⟨w1, ?_, fun h => absurd h (by decide), fun _ => rfl⟩
    have e : am_hd 217 8 (am_xn 0) = some 20 := by decide +kernel
    have nr : am_nrm 217 20 [none, none, none, none, none, none, none] = [none, none, none, none, none, none, none] := rfl
    simp only [List.cons_append, List.nil_append]
    simp only [bx217, bk217_0, kx, hc, af_e e, nr, bk217_20, Option.bind_some, bct_v, bct_t, otl_s, otl_n, List.cons_append, List.nil_append, List.getElem?_cons_zero, List.getElem?_cons_succ, ↓reduceIte]
  · have hc : am_x 167 [.ref x, .int z0, .int z1, .int z2, .int z3] w = some (.inr (am_xn 1), w1) := hc
    refine ⟨w1, ?_, fun h => absurd h (by decide), fun _ => rfl⟩
    have e : am_hd 217 8 (am_xn 1) = some 24 := by decide +kernel
    have nr : am_nrm 217 24 [none, none, none, none, none, none, none] = [none, none, none, none, none, none, none] := rfl
    simp only [List.cons_append, List.nil_append]
    simp only [bx217, bk217_0, kx, hc, af_e e, nr, bk217_24, Option.bind_some, bct_v, bct_t, otl_s, otl_n, List.cons_append, List.nil_append, List.getElem?_cons_zero, List.getElem?_cons_succ, ↓reduceIte]
  · have hc : am_x 167 [.ref x, .int z0, .int z1, .int z2, .int z3] w = some (.inr (am_xn 2), w1) := hc
    refine ⟨w1, ?_, fun h => absurd h (by decide), fun _ => rfl⟩
    have e : am_hd 217 8 (am_xn 2) = some 28 := by decide +kernel
    have nr : am_nrm 217 28 [none, none, none, none, none, none, none] = [none, none, none, none, none, none, none] := rfl
    simp only [List.cons_append, List.nil_append]
    simp only [bx217, bk217_0, kx, hc, af_e e, nr, bk217_28, Option.bind_some, bct_v, bct_t, otl_s, otl_n, List.cons_append, List.nil_append, List.getElem?_cons_zero, List.getElem?_cons_succ, ↓reduceIte]

theorem wr_forward (z0 z1 : Int32) : WP Value.int oZ 253 239 exB 2 [.int z0, .int z1] := by
  intro w w1 x u th v kx hB hc a d s hu
  rcases (show th = 0 ∨ th = 1 ∨ th = 2 by omega) with rfl | rfl | rfl
  · have hc : am_x 239 [.ref x, .int z0, .int z1] w = some (.inl (some (Value.int v)), w1) := hc
    have p1 : am_pf w1 u 9 0 (.long (if v = nI 0 then lN 0 else lN 1)) = some (am_pt w1 u (.inr (9, oZ v a d s))) := pfc hu (by show 0 < 3; decide) (by decide)
    refine ⟨_, ?_, fun _ => rfl, fun h => absurd rfl h⟩
    by_cases q : v = nI 0
    · rw [if_pos q] at p1
      simp only [List.cons_append, List.nil_append]
      simp only [bx253, bk253_0, kx, hc, af_v, bk253_7, bk253_14, bk253_10, bk253_15, bk253_18, Option.bind_some, bct_v, bct_t, otl_s, otl_n, List.cons_append, List.nil_append, List.getElem?_cons_zero, List.getElem?_cons_succ, ↓reduceIte, q, p1]
    · rw [if_neg q] at p1
      simp only [List.cons_append, List.nil_append]
      simp only [bx253, bk253_0, kx, hc, af_v, bk253_7, bk253_14, bk253_10, bk253_15, bk253_18, Option.bind_some, bct_v, bct_t, otl_s, otl_n, List.cons_append, List.nil_append, List.getElem?_cons_zero, List.getElem?_cons_succ, ↓reduceIte, q, p1]
  · have hc : am_x 239 [.ref x, .int z0, .int z1] w = some (.inr (am_xn 0), w1) := hc
    refine ⟨w1, ?_, fun h => absurd h (by decide), fun _ => rfl⟩
    have e : am_hd 253 4 (am_xn 0) = some 23 := by decide +kernel
    have nr : am_nrm 253 23 [none, none, none, none, none] = [none, none, none, none, none] := rfl
    simp only [List.cons_append, List.nil_append]
    simp only [bx253, bk253_0, kx, hc, af_e e, nr, bk253_23, Option.bind_some, bct_v, bct_t, otl_s, otl_n, List.cons_append, List.nil_append, List.getElem?_cons_zero, List.getElem?_cons_succ, ↓reduceIte]
  · have hc : am_x 239 [.ref x, .int z0, .int z1] w = some (.inr (am_xn 2), w1) := hc
    refine ⟨w1, ?_, fun h => absurd h (by decide), fun _ => rfl⟩
    have e : am_hd 253 4 (am_xn 2) = some 27 := by decide +kernel
    have nr : am_nrm 253 27 [none, none, none, none, none] = [none, none, none, none, none] := rfl
    simp only [List.cons_append, List.nil_append]
    simp only [bx253, bk253_0, kx, hc, af_e e, nr, bk253_27, Option.bind_some, bct_v, bct_t, otl_s, otl_n, List.cons_append, List.nil_append, List.getElem?_cons_zero, List.getElem?_cons_succ, ↓reduceIte]

theorem wr_turn (z0 z1 z2 : Int32) : WP Value.int oI 254 240 exB 2 [.int z0, .int z1, .int z2] := by
  intro w w1 x u th v kx hB hc a d s hu
  rcases (show th = 0 ∨ th = 1 ∨ th = 2 by omega) with rfl | rfl | rfl
  · have hc : am_x 240 [.ref x, .int z0, .int z1, .int z2] w = some (.inl (some (Value.int v)), w1) := hc
    have p1 : am_pf w1 u 9 0 (.long v.toInt64) = some (am_pt w1 u (.inr (9, oI v a d s))) := pfc hu (by show 0 < 3; decide) (by decide)
    refine ⟨_, ?_, fun _ => rfl, fun h => absurd rfl h⟩
    simp only [List.cons_append, List.nil_append]
    simp only [bx254, bk254_0, kx, hc, af_v, bk254_9, bk254_13, Option.bind_some, bct_v, bct_t, otl_s, otl_n, List.cons_append, List.nil_append, List.getElem?_cons_zero, List.getElem?_cons_succ, ↓reduceIte, p1]
  · have hc : am_x 240 [.ref x, .int z0, .int z1, .int z2] w = some (.inr (am_xn 0), w1) := hc
    refine ⟨w1, ?_, fun h => absurd h (by decide), fun _ => rfl⟩
    have e : am_hd 254 6 (am_xn 0) = some 18 := by decide +kernel
    have nr : am_nrm 254 18 [none, none, none, none, none, none] = [none, none, none, none, none, none] := rfl
    simp only [List.cons_append, List.nil_append]
    simp only [bx254, bk254_0, kx, hc, af_e e, nr, bk254_18, Option.bind_some, bct_v, bct_t, otl_s, otl_n, List.cons_append, List.nil_append, List.getElem?_cons_zero, List.getElem?_cons_succ, ↓reduceIte]
  · have hc : am_x 240 [.ref x, .int z0, .int z1, .int z2] w = some (.inr (am_xn 2), w1) := hc
    refine ⟨w1, ?_, fun h => absurd h (by decide), fun _ => rfl⟩
    have e : am_hd 254 6 (am_xn 2) = some 22 := by decide +kernel
    have nr : am_nrm 254 22 [none, none, none, none, none, none] = [none, none, none, none, none, none] := rfl
    simp only [List.cons_append, List.nil_append]
    simp only [bx254, bk254_0, kx, hc, af_e e, nr, bk254_22, Option.bind_some, bct_v, bct_t, otl_s, otl_n, List.cons_append, List.nil_append, List.getElem?_cons_zero, List.getElem?_cons_succ, ↓reduceIte]

theorem wr_feel (z0 z1 : Int32) : WP Value.int oI 255 241 exB 2 [.int z0, .int z1] := by
  intro w w1 x u th v kx hB hc a d s hu
  rcases (show th = 0 ∨ th = 1 ∨ th = 2 by omega) with rfl | rfl | rfl
  · have hc : am_x 241 [.ref x, .int z0, .int z1] w = some (.inl (some (Value.int v)), w1) := hc
    have p1 : am_pf w1 u 9 0 (.long v.toInt64) = some (am_pt w1 u (.inr (9, oI v a d s))) := pfc hu (by show 0 < 3; decide) (by decide)
    refine ⟨_, ?_, fun _ => rfl, fun h => absurd rfl h⟩
    simp only [List.cons_append, List.nil_append]
    simp only [bx255, bk255_0, kx, hc, af_v, bk255_7, bk255_11, Option.bind_some, bct_v, bct_t, otl_s, otl_n, List.cons_append, List.nil_append, List.getElem?_cons_zero, List.getElem?_cons_succ, ↓reduceIte, p1]
  · have hc : am_x 241 [.ref x, .int z0, .int z1] w = some (.inr (am_xn 0), w1) := hc
    refine ⟨w1, ?_, fun h => absurd h (by decide), fun _ => rfl⟩
    have e : am_hd 255 4 (am_xn 0) = some 16 := by decide +kernel
    have nr : am_nrm 255 16 [none, none, none, none, none] = [none, none, none, none, none] := rfl
    simp only [List.cons_append, List.nil_append]
    simp only [bx255, bk255_0, kx, hc, af_e e, nr, bk255_16, Option.bind_some, bct_v, bct_t, otl_s, otl_n, List.cons_append, List.nil_append, List.getElem?_cons_zero, List.getElem?_cons_succ, ↓reduceIte]
  · have hc : am_x 241 [.ref x, .int z0, .int z1] w = some (.inr (am_xn 2), w1) := hc
    refine ⟨w1, ?_, fun h => absurd h (by decide), fun _ => rfl⟩
    have e : am_hd 255 4 (am_xn 2) = some 20 := by decide +kernel
    have nr : am_nrm 255 20 [none, none, none, none, none] = [none, none, none, none, none] := rfl
    simp only [List.cons_append, List.nil_append]
    simp only [bx255, bk255_0, kx, hc, af_e e, nr, bk255_20, Option.bind_some, bct_v, bct_t, otl_s, otl_n, List.cons_append, List.nil_append, List.getElem?_cons_zero, List.getElem?_cons_succ, ↓reduceIte]

theorem wr_listen (z0 z1 : Int32) : WP Value.int oI 256 242 exB 2 [.int z0, .int z1] := by
  intro w w1 x u th v kx hB hc a d s hu
  rcases (show th = 0 ∨ th = 1 ∨ th = 2 by omega) with rfl | rfl | rfl
  · have hc : am_x 242 [.ref x, .int z0, .int z1] w = some (.inl (some (Value.int v)), w1) := hc
    have p1 : am_pf w1 u 9 0 (.long v.toInt64) = some (am_pt w1 u (.inr (9, oI v a d s))) := pfc hu (by show 0 < 3; decide) (by decide)
    refine ⟨_, ?_, fun _ => rfl, fun h => absurd rfl h⟩
    simp only [List.cons_append, List.nil_append]
    simp only [bx256, bk256_0, kx, hc, af_v, bk256_7, bk256_11, Option.bind_some, bct_v, bct_t, otl_s, otl_n, List.cons_append, List.nil_append, List.getElem?_cons_zero, List.getElem?_cons_succ, ↓reduceIte, p1]
  · have hc : am_x 242 [.ref x, .int z0, .int z1] w = some (.inr (am_xn 0), w1) := hc
    refine ⟨w1, ?_, fun h => absurd h (by decide), fun _ => rfl⟩
    have e : am_hd 256 4 (am_xn 0) = some 16 := by decide +kernel
    have nr : am_nrm 256 16 [none, none, none, none, none] = [none, none, none, none, none] := rfl
    simp only [List.cons_append, List.nil_append]
    simp only [bx256, bk256_0, kx, hc, af_e e, nr, bk256_16, Option.bind_some, bct_v, bct_t, otl_s, otl_n, List.cons_append, List.nil_append, List.getElem?_cons_zero, List.getElem?_cons_succ, ↓reduceIte]
  · have hc : am_x 242 [.ref x, .int z0, .int z1] w = some (.inr (am_xn 2), w1) := hc
    refine ⟨w1, ?_, fun h => absurd h (by decide), fun _ => rfl⟩
    have e : am_hd 256 4 (am_xn 2) = some 20 := by decide +kernel
    have nr : am_nrm 256 20 [none, none, none, none, none] = [none, none, none, none, none] := rfl
    simp only [List.cons_append, List.nil_append]
    simp only [bx256, bk256_0, kx, hc, af_e e, nr, bk256_20, Option.bind_some, bct_v, bct_t, otl_s, otl_n, List.cons_append, List.nil_append, List.getElem?_cons_zero, List.getElem?_cons_succ, ↓reduceIte]

theorem wr_charge (z0 z1 : Int32) : WP Value.int oI 187 133 exA 3 [.int z0, .int z1] := by
  intro w w1 x u th v kx hB hc a d s hu
  rcases (show th = 0 ∨ th = 1 ∨ th = 2 ∨ th = 3 by omega) with rfl | rfl | rfl | rfl
  · have hc : am_x 133 [.ref x, .int z0, .int z1] w = some (.inl (some (Value.int v)), w1) := hc
    have p1 : am_pf w1 u 9 0 (.long v.toInt64) = some (am_pt w1 u (.inr (9, oI v a d s))) := pfc hu (by show 0 < 3; decide) (by decide)
    refine ⟨_, ?_, fun _ => rfl, fun h => absurd rfl h⟩
    simp only [List.cons_append, List.nil_append]
    simp only [bx187, bk187_0, kx, hc, af_v, bk187_7, bk187_11, Option.bind_some, bct_v, bct_t, otl_s, otl_n, List.cons_append, List.nil_append, List.getElem?_cons_zero, List.getElem?_cons_succ, ↓reduceIte, p1]
  · have hc : am_x 133 [.ref x, .int z0, .int z1] w = some (.inr (am_xn 0), w1) := hc
    refine ⟨w1, ?_, fun h => absurd h (by decide), fun _ => rfl⟩
    have e : am_hd 187 4 (am_xn 0) = some 16 := by decide +kernel
    have nr : am_nrm 187 16 [none, none, none, none, none] = [none, none, none, none, none] := rfl
    simp only [List.cons_append, List.nil_append]
    simp only [bx187, bk187_0, kx, hc, af_e e, nr, bk187_16, Option.bind_some, bct_v, bct_t, otl_s, otl_n, List.cons_append, List.nil_append, List.getElem?_cons_zero, List.getElem?_cons_succ, ↓reduceIte]
  · have hc : am_x 133 [.ref x, .int z0, .int z1] w = some (.inr (am_xn 1), w1) := hc
    refine ⟨w1, ?_, fun h => absurd h (by decide), fun _ => rfl⟩
    have e : am_hd 187 4 (am_xn 1) = some 20 := by decide +kernel
    have nr : am_nrm 187 20 [none, none, none, none, none] = [none, none, none, none, none] := rfl
    simp only [List.cons_append, List.nil_append]
    simp only [bx187, bk187_0, kx, hc, af_e e, nr, bk187_20, Option.bind_some, bct_v, bct_t, otl_s, otl_n, List.cons_append, List.nil_append, List.getElem?_cons_zero, List.getElem?_cons_succ, ↓reduceIte]
  · have hc : am_x 133 [.ref x, .int z0, .int z1] w = some (.inr (am_xn 2), w1) := hc
    refine ⟨w1, ?_, fun h => absurd h (by decide), fun _ => rfl⟩
    have e : am_hd 187 4 (am_xn 2) = some 24 := by decide +kernel
    have nr : am_nrm 187 24 [none, none, none, none, none] = [none, none, none, none, none] := rfl
    simp only [List.cons_append, List.nil_append]
    simp only [bx187, bk187_0, kx, hc, af_e e, nr, bk187_24, Option.bind_some, bct_v, bct_t, otl_s, otl_n, List.cons_append, List.nil_append, List.getElem?_cons_zero, List.getElem?_cons_succ, ↓reduceIte]

theorem wr_tellPose (z0 : Int32) : WP Value.int oI 188 134 exA 1 [.int z0] := by
  intro w w1 x u th v kx hB hc a d s hu
  rcases (show th = 0 ∨ th = 1 by omega) with rfl | rfl
  · have hc : am_x 134 [.ref x, .int z0] w = some (.inl (some (Value.int v)), w1) := hc
    have p1 : am_pf w1 u 9 0 (.long v.toInt64) = some (am_pt w1 u (.inr (9, oI v a d s))) := pfc hu (by show 0 < 3; decide) (by decide)
    refine ⟨_, ?_, fun _ => rfl, fun h => absurd rfl h⟩
    simp only [List.cons_append, List.nil_append]
    simp only [bx188, bk188_0, kx, hc, af_v, bk188_6, bk188_10, Option.bind_some, bct_v, bct_t, otl_s, otl_n, List.cons_append, List.nil_append, List.getElem?_cons_zero, List.getElem?_cons_succ, ↓reduceIte, p1]
  · have hc : am_x 134 [.ref x, .int z0] w = some (.inr (am_xn 0), w1) := hc
    refine ⟨w1, ?_, fun h => absurd h (by decide), fun _ => rfl⟩
    have e : am_hd 188 3 (am_xn 0) = some 14 := by decide +kernel
    have nr : am_nrm 188 14 [none, none, none, none] = [none, none, none, none] := rfl
    simp only [List.cons_append, List.nil_append]
    simp only [bx188, bk188_0, kx, hc, af_e e, nr, bk188_14, Option.bind_some, bct_v, bct_t, otl_s, otl_n, List.cons_append, List.nil_append, List.getElem?_cons_zero, List.getElem?_cons_succ, ↓reduceIte]

theorem wr_meet (z0 z1 : Int32) : WP Value.int oI 218 168 exA 3 [.int z0, .int z1] := by
  intro w w1 x u th v kx hB hc a d s hu
  rcases (show th = 0 ∨ th = 1 ∨ th = 2 ∨ th = 3 by omega) with rfl | rfl | rfl | rfl
  · have hc : am_x 168 [.ref x, .int z0, .int z1] w = some (.inl (some (Value.int v)), w1) := hc
    have p1 : am_pf w1 u 9 0 (.long v.toInt64) = some (am_pt w1 u (.inr (9, oI v a d s))) := pfc hu (by show 0 < 3; decide) (by decide)
    refine ⟨_, ?_, fun _ => rfl, fun h => absurd rfl h⟩
    simp only [List.cons_append, List.nil_append]
    simp only [bx218, bk218_0, kx, hc, af_v, bk218_7, bk218_11, Option.bind_some, bct_v, bct_t, otl_s, otl_n, List.cons_append, List.nil_append, List.getElem?_cons_zero, List.getElem?_cons_succ, ↓reduceIte, p1]
  · have hc : am_x 168 [.ref x, .int z0, .int z1] w = some (.inr (am_xn 0), w1) := hc
    refine ⟨w1, ?_, fun h => absurd h (by decide), fun _ => rfl⟩
    have e : am_hd 218 4 (am_xn 0) = some 16 := by decide +kernel
    have nr : am_nrm 218 16 [none, none, none, none, none] = [none, none, none, none, none] := rfl
    simp only [List.cons_append, List.nil_append]
    simp only [bx218, bk218_0, kx, hc, af_e e, nr, bk218_16, Option.bind_some, bct_v, bct_t, otl_s, otl_n, List.cons_append, List.nil_append, List.getElem?_cons_zero, List.getElem?_cons_succ, ↓reduceIte]
  · have hc : am_x 168 [.ref x, .int z0, .int z1] w = some (.inr (am_xn 1), w1) := hc
    refine ⟨w1, ?_, fun h => absurd h (by decide), fun _ => rfl⟩
    have e : am_hd 218 4 (am_xn 1) = some 20 := by decide +kernel
    have nr : am_nrm 218 20 [none, none, none, none, none] = [none, none, none, none, none] := rfl
    simp only [List.cons_append, List.nil_append]
    simp only [bx218, bk218_0, kx, hc, af_e e, nr, bk218_20, Option.bind_some, bct_v, bct_t, otl_s, otl_n, List.cons_append, List.nil_append, List.getElem?_cons_zero, List.getElem?_cons_succ, ↓reduceIte]
  · have hc : am_x 168 [.ref x, .int z0, .int z1] w = some (.inr (am_xn 2), w1) := hc
    refine ⟨w1, ?_, fun h => absurd h (by decide), fun _ => rfl⟩
    have e : am_hd 218 4 (am_xn 2) = some 24 := by decide +kernel
    have nr : am_nrm 218 24 [none, none, none, none, none] = [none, none, none, none, none] := rfl
    simp only [List.cons_append, List.nil_append]
    simp only [bx218, bk218_0, kx, hc, af_e e, nr, bk218_24, Option.bind_some, bct_v, bct_t, otl_s, otl_n, List.cons_append, List.nil_append, List.getElem?_cons_zero, List.getElem?_cons_succ, ↓reduceIte]

theorem wr_pass (z0 : Int32) : WP Value.int oI 189 135 exC 2 [.int z0] := by
  intro w w1 x u th v kx hB hc a d s hu
  rcases (show th = 0 ∨ th = 1 ∨ th = 2 by omega) with rfl | rfl | rfl
  · have hc : am_x 135 [.ref x, .int z0] w = some (.inl (some (Value.int v)), w1) := hc
    have p1 : am_pf w1 u 9 0 (.long v.toInt64) = some (am_pt w1 u (.inr (9, oI v a d s))) := pfc hu (by show 0 < 3; decide) (by decide)
    refine ⟨_, ?_, fun _ => rfl, fun h => absurd rfl h⟩
    simp only [List.cons_append, List.nil_append]
    simp only [bx189, bk189_0, kx, hc, af_v, bk189_6, bk189_10, Option.bind_some, bct_v, bct_t, otl_s, otl_n, List.cons_append, List.nil_append, List.getElem?_cons_zero, List.getElem?_cons_succ, ↓reduceIte, p1]
  · have hc : am_x 135 [.ref x, .int z0] w = some (.inr (am_xn 1), w1) := hc
    refine ⟨w1, ?_, fun h => absurd h (by decide), fun _ => rfl⟩
    have e : am_hd 189 3 (am_xn 1) = some 14 := by decide +kernel
    have nr : am_nrm 189 14 [none, none, none, none] = [none, none, none, none] := rfl
    simp only [List.cons_append, List.nil_append]
    simp only [bx189, bk189_0, kx, hc, af_e e, nr, bk189_14, Option.bind_some, bct_v, bct_t, otl_s, otl_n, List.cons_append, List.nil_append, List.getElem?_cons_zero, List.getElem?_cons_succ, ↓reduceIte]
  · have hc : am_x 135 [.ref x, .int z0] w = some (.inr (am_xn 2), w1) := hc
    refine ⟨w1, ?_, fun h => absurd h (by decide), fun _ => rfl⟩
    have e : am_hd 189 3 (am_xn 2) = some 17 := by decide +kernel
    have nr : am_nrm 189 17 [none, none, none, none] = [none, none, none, none] := rfl
    simp only [List.cons_append, List.nil_append]
    simp only [bx189, bk189_0, kx, hc, af_e e, nr, bk189_17, Option.bind_some, bct_v, bct_t, otl_s, otl_n, List.cons_append, List.nil_append, List.getElem?_cons_zero, List.getElem?_cons_succ, ↓reduceIte]

theorem wr_ofEdge (z0 z1 z2 : Int32) : WP Value.int oI 219 169 exA 2 [.int z0, .int z1, .int z2] := by
  intro w w1 x u th v kx hB hc a d s hu
  rcases (show th = 0 ∨ th = 1 ∨ th = 2 by omega) with rfl | rfl | rfl
  · have hc : am_x 169 [.ref x, .int z0, .int z1, .int z2] w = some (.inl (some (Value.int v)), w1) := hc
    have p1 : am_pf w1 u 9 0 (.long v.toInt64) = some (am_pt w1 u (.inr (9, oI v a d s))) := pfc hu (by show 0 < 3; decide) (by decide)
    refine ⟨_, ?_, fun _ => rfl, fun h => absurd rfl h⟩
    simp only [List.cons_append, List.nil_append]
    simp only [bx219, bk219_0, kx, hc, af_v, bk219_9, bk219_13, Option.bind_some, bct_v, bct_t, otl_s, otl_n, List.cons_append, List.nil_append, List.getElem?_cons_zero, List.getElem?_cons_succ, ↓reduceIte, p1]
  · have hc : am_x 169 [.ref x, .int z0, .int z1, .int z2] w = some (.inr (am_xn 0), w1) := hc
    refine ⟨w1, ?_, fun h => absurd h (by decide), fun _ => rfl⟩
    have e : am_hd 219 6 (am_xn 0) = some 18 := by decide +kernel
    have nr : am_nrm 219 18 [none, none, none, none, none, none] = [none, none, none, none, none, none] := rfl
    simp only [List.cons_append, List.nil_append]
    simp only [bx219, bk219_0, kx, hc, af_e e, nr, bk219_18, Option.bind_some, bct_v, bct_t, otl_s, otl_n, List.cons_append, List.nil_append, List.getElem?_cons_zero, List.getElem?_cons_succ, ↓reduceIte]
  · have hc : am_x 169 [.ref x, .int z0, .int z1, .int z2] w = some (.inr (am_xn 1), w1) := hc
    refine ⟨w1, ?_, fun h => absurd h (by decide), fun _ => rfl⟩
    have e : am_hd 219 6 (am_xn 1) = some 22 := by decide +kernel
    have nr : am_nrm 219 22 [none, none, none, none, none, none] = [none, none, none, none, none, none] := rfl
    simp only [List.cons_append, List.nil_append]
    simp only [bx219, bk219_0, kx, hc, af_e e, nr, bk219_22, Option.bind_some, bct_v, bct_t, otl_s, otl_n, List.cons_append, List.nil_append, List.getElem?_cons_zero, List.getElem?_cons_succ, ↓reduceIte]

theorem wr_ofWalker (z0 z1 : Int32) : WP Value.int oI 234 201 exA 2 [.int z0, .int z1] := by
  intro w w1 x u th v kx hB hc a d s hu
  rcases (show th = 0 ∨ th = 1 ∨ th = 2 by omega) with rfl | rfl | rfl
  · have hc : am_x 201 [.ref x, .int z0, .int z1] w = some (.inl (some (Value.int v)), w1) := hc
    have p1 : am_pf w1 u 9 0 (.long v.toInt64) = some (am_pt w1 u (.inr (9, oI v a d s))) := pfc hu (by show 0 < 3; decide) (by decide)
    refine ⟨_, ?_, fun _ => rfl, fun h => absurd rfl h⟩
    simp only [List.cons_append, List.nil_append]
    simp only [bx234, bk234_0, kx, hc, af_v, bk234_7, bk234_11, Option.bind_some, bct_v, bct_t, otl_s, otl_n, List.cons_append, List.nil_append, List.getElem?_cons_zero, List.getElem?_cons_succ, ↓reduceIte, p1]
  · have hc : am_x 201 [.ref x, .int z0, .int z1] w = some (.inr (am_xn 0), w1) := hc
    refine ⟨w1, ?_, fun h => absurd h (by decide), fun _ => rfl⟩
    have e : am_hd 234 4 (am_xn 0) = some 16 := by decide +kernel
    have nr : am_nrm 234 16 [none, none, none, none, none] = [none, none, none, none, none] := rfl
    simp only [List.cons_append, List.nil_append]
    simp only [bx234, bk234_0, kx, hc, af_e e, nr, bk234_16, Option.bind_some, bct_v, bct_t, otl_s, otl_n, List.cons_append, List.nil_append, List.getElem?_cons_zero, List.getElem?_cons_succ, ↓reduceIte]
  · have hc : am_x 201 [.ref x, .int z0, .int z1] w = some (.inr (am_xn 1), w1) := hc
    refine ⟨w1, ?_, fun h => absurd h (by decide), fun _ => rfl⟩
    have e : am_hd 234 4 (am_xn 1) = some 20 := by decide +kernel
    have nr : am_nrm 234 20 [none, none, none, none, none] = [none, none, none, none, none] := rfl
    simp only [List.cons_append, List.nil_append]
    simp only [bx234, bk234_0, kx, hc, af_e e, nr, bk234_20, Option.bind_some, bct_v, bct_t, otl_s, otl_n, List.cons_append, List.nil_append, List.getElem?_cons_zero, List.getElem?_cons_succ, ↓reduceIte]

theorem wr_house (z0 : Int32) : WP Value.int oI 190 136 exC 1 [.int z0] := by
  intro w w1 x u th v kx hB hc a d s hu
  rcases (show th = 0 ∨ th = 1 by omega) with rfl | rfl
  · have hc : am_x 136 [.ref x, .int z0] w = some (.inl (some (Value.int v)), w1) := hc
    have p1 : am_pf w1 u 9 0 (.long v.toInt64) = some (am_pt w1 u (.inr (9, oI v a d s))) := pfc hu (by show 0 < 3; decide) (by decide)
    refine ⟨_, ?_, fun _ => rfl, fun h => absurd rfl h⟩
    simp only [List.cons_append, List.nil_append]
    simp only [bx190, bk190_0, kx, hc, af_v, bk190_6, bk190_10, Option.bind_some, bct_v, bct_t, otl_s, otl_n, List.cons_append, List.nil_append, List.getElem?_cons_zero, List.getElem?_cons_succ, ↓reduceIte, p1]
  · have hc : am_x 136 [.ref x, .int z0] w = some (.inr (am_xn 1), w1) := hc
    refine ⟨w1, ?_, fun h => absurd h (by decide), fun _ => rfl⟩
    have e : am_hd 190 3 (am_xn 1) = some 14 := by decide +kernel
    have nr : am_nrm 190 14 [none, none, none, none] = [none, none, none, none] := rfl
    simp only [List.cons_append, List.nil_append]
    simp only [bx190, bk190_0, kx, hc, af_e e, nr, bk190_14, Option.bind_some, bct_v, bct_t, otl_s, otl_n, List.cons_append, List.nil_append, List.getElem?_cons_zero, List.getElem?_cons_succ, ↓reduceIte]

theorem wr_map (z0 z1 z2 : Int32) : WP Value.int oI 191 137 exA 1 [.int z0, .int z1, .int z2] := by
  intro w w1 x u th v kx hB hc a d s hu
  rcases (show th = 0 ∨ th = 1 by omega) with rfl | rfl
  · have hc : am_x 137 [.ref x, .int z0, .int z1, .int z2] w = some (.inl (some (Value.int v)), w1) := hc
    have p1 : am_pf w1 u 9 0 (.long v.toInt64) = some (am_pt w1 u (.inr (9, oI v a d s))) := pfc hu (by show 0 < 3; decide) (by decide)
    refine ⟨_, ?_, fun _ => rfl, fun h => absurd rfl h⟩
    simp only [List.cons_append, List.nil_append]
    simp only [bx191, bk191_0, kx, hc, af_v, bk191_9, bk191_13, Option.bind_some, bct_v, bct_t, otl_s, otl_n, List.cons_append, List.nil_append, List.getElem?_cons_zero, List.getElem?_cons_succ, ↓reduceIte, p1]
  · have hc : am_x 137 [.ref x, .int z0, .int z1, .int z2] w = some (.inr (am_xn 0), w1) := hc
    refine ⟨w1, ?_, fun h => absurd h (by decide), fun _ => rfl⟩
    have e : am_hd 191 6 (am_xn 0) = some 18 := by decide +kernel
    have nr : am_nrm 191 18 [none, none, none, none, none, none] = [none, none, none, none, none, none] := rfl
    simp only [List.cons_append, List.nil_append]
    simp only [bx191, bk191_0, kx, hc, af_e e, nr, bk191_18, Option.bind_some, bct_v, bct_t, otl_s, otl_n, List.cons_append, List.nil_append, List.getElem?_cons_zero, List.getElem?_cons_succ, ↓reduceIte]

theorem wr_may (z0 z1 : Int32) : WP Value.int oZ 192 138 exA 1 [.int z0, .int z1] := by
  intro w w1 x u th v kx hB hc a d s hu
  rcases (show th = 0 ∨ th = 1 by omega) with rfl | rfl
  · have hc : am_x 138 [.ref x, .int z0, .int z1] w = some (.inl (some (Value.int v)), w1) := hc
    have p1 : am_pf w1 u 9 0 (.long (if v = nI 0 then lN 0 else lN 1)) = some (am_pt w1 u (.inr (9, oZ v a d s))) := pfc hu (by show 0 < 3; decide) (by decide)
    refine ⟨_, ?_, fun _ => rfl, fun h => absurd rfl h⟩
    by_cases q : v = nI 0
    · rw [if_pos q] at p1
      simp only [List.cons_append, List.nil_append]
      simp only [bx192, bk192_0, kx, hc, af_v, bk192_7, bk192_14, bk192_10, bk192_15, bk192_18, Option.bind_some, bct_v, bct_t, otl_s, otl_n, List.cons_append, List.nil_append, List.getElem?_cons_zero, List.getElem?_cons_succ, ↓reduceIte, q, p1]
    · rw [if_neg q] at p1
      simp only [List.cons_append, List.nil_append]
      simp only [bx192, bk192_0, kx, hc, af_v, bk192_7, bk192_14, bk192_10, bk192_15, bk192_18, Option.bind_some, bct_v, bct_t, otl_s, otl_n, List.cons_append, List.nil_append, List.getElem?_cons_zero, List.getElem?_cons_succ, ↓reduceIte, q, p1]
  · have hc : am_x 138 [.ref x, .int z0, .int z1] w = some (.inr (am_xn 0), w1) := hc
    refine ⟨w1, ?_, fun h => absurd h (by decide), fun _ => rfl⟩
    have e : am_hd 192 4 (am_xn 0) = some 23 := by decide +kernel
    have nr : am_nrm 192 23 [none, none, none, none, none] = [none, none, none, none, none] := rfl
    simp only [List.cons_append, List.nil_append]
    simp only [bx192, bk192_0, kx, hc, af_e e, nr, bk192_23, Option.bind_some, bct_v, bct_t, otl_s, otl_n, List.cons_append, List.nil_append, List.getElem?_cons_zero, List.getElem?_cons_succ, ↓reduceIte]

theorem wr_where (z0 z1 : Int32) : WP Value.long oJ 193 139 exA 2 [.int z0, .int z1] := by
  intro w w1 x u th v kx hB hc a d s hu
  rcases (show th = 0 ∨ th = 1 ∨ th = 2 by omega) with rfl | rfl | rfl
  · have hc : am_x 139 [.ref x, .int z0, .int z1] w = some (.inl (some (Value.long v)), w1) := hc
    have p1 : am_pf w1 u 9 0 (.long v) = some (am_pt w1 u (.inr (9, oJ v a d s))) := pfc hu (by show 0 < 3; decide) (by decide)
    refine ⟨_, ?_, fun _ => rfl, fun h => absurd rfl h⟩
    simp only [List.cons_append, List.nil_append]
    simp only [bx193, bk193_0, kx, hc, af_v, bk193_7, bk193_10, Option.bind_some, bct_v, bct_t, otl_s, otl_n, List.cons_append, List.nil_append, List.getElem?_cons_zero, List.getElem?_cons_succ, ↓reduceIte, p1]
  · have hc : am_x 139 [.ref x, .int z0, .int z1] w = some (.inr (am_xn 0), w1) := hc
    refine ⟨w1, ?_, fun h => absurd h (by decide), fun _ => rfl⟩
    have e : am_hd 193 4 (am_xn 0) = some 15 := by decide +kernel
    have nr : am_nrm 193 15 [none, none, none, none, none] = [none, none, none, none, none] := rfl
    simp only [List.cons_append, List.nil_append]
    simp only [bx193, bk193_0, kx, hc, af_e e, nr, bk193_15, Option.bind_some, bct_v, bct_t, otl_s, otl_n, List.cons_append, List.nil_append, List.getElem?_cons_zero, List.getElem?_cons_succ, ↓reduceIte]
  · have hc : am_x 139 [.ref x, .int z0, .int z1] w = some (.inr (am_xn 1), w1) := hc
    refine ⟨w1, ?_, fun h => absurd h (by decide), fun _ => rfl⟩
    have e : am_hd 193 4 (am_xn 1) = some 19 := by decide +kernel
    have nr : am_nrm 193 19 [none, none, none, none, none] = [none, none, none, none, none] := rfl
    simp only [List.cons_append, List.nil_append]
    simp only [bx193, bk193_0, kx, hc, af_e e, nr, bk193_19, Option.bind_some, bct_v, bct_t, otl_s, otl_n, List.cons_append, List.nil_append, List.getElem?_cons_zero, List.getElem?_cons_succ, ↓reduceIte]

theorem wr_way (z0 z1 z2 : Int32) : WP Value.int oI 194 140 exA 1 [.int z0, .int z1, .int z2] := by
  intro w w1 x u th v kx hB hc a d s hu
  rcases (show th = 0 ∨ th = 1 by omega) with rfl | rfl
  · have hc : am_x 140 [.ref x, .int z0, .int z1, .int z2] w = some (.inl (some (Value.int v)), w1) := hc
    have p1 : am_pf w1 u 9 0 (.long v.toInt64) = some (am_pt w1 u (.inr (9, oI v a d s))) := pfc hu (by show 0 < 3; decide) (by decide)
    refine ⟨_, ?_, fun _ => rfl, fun h => absurd rfl h⟩
    simp only [List.cons_append, List.nil_append]
    simp only [bx194, bk194_0, kx, hc, af_v, bk194_9, bk194_13, Option.bind_some, bct_v, bct_t, otl_s, otl_n, List.cons_append, List.nil_append, List.getElem?_cons_zero, List.getElem?_cons_succ, ↓reduceIte, p1]
  · have hc : am_x 140 [.ref x, .int z0, .int z1, .int z2] w = some (.inr (am_xn 0), w1) := hc
    refine ⟨w1, ?_, fun h => absurd h (by decide), fun _ => rfl⟩
    have e : am_hd 194 6 (am_xn 0) = some 18 := by decide +kernel
    have nr : am_nrm 194 18 [none, none, none, none, none, none] = [none, none, none, none, none, none] := rfl
    simp only [List.cons_append, List.nil_append]
    simp only [bx194, bk194_0, kx, hc, af_e e, nr, bk194_18, Option.bind_some, bct_v, bct_t, otl_s, otl_n, List.cons_append, List.nil_append, List.getElem?_cons_zero, List.getElem?_cons_succ, ↓reduceIte]

theorem wr_safety (z0 z1 : Int32) : WP Value.int oI 249 223 exA 2 [.int z0, .int z1] := by
  intro w w1 x u th v kx hB hc a d s hu
  rcases (show th = 0 ∨ th = 1 ∨ th = 2 by omega) with rfl | rfl | rfl
  · have hc : am_x 223 [.ref x, .int z0, .int z1] w = some (.inl (some (Value.int v)), w1) := hc
    have p1 : am_pf w1 u 9 0 (.long v.toInt64) = some (am_pt w1 u (.inr (9, oI v a d s))) := pfc hu (by show 0 < 3; decide) (by decide)
    refine ⟨_, ?_, fun _ => rfl, fun h => absurd rfl h⟩
    simp only [List.cons_append, List.nil_append]
    simp only [bx249, bk249_0, kx, hc, af_v, bk249_7, bk249_11, Option.bind_some, bct_v, bct_t, otl_s, otl_n, List.cons_append, List.nil_append, List.getElem?_cons_zero, List.getElem?_cons_succ, ↓reduceIte, p1]
  · have hc : am_x 223 [.ref x, .int z0, .int z1] w = some (.inr (am_xn 0), w1) := hc
    refine ⟨w1, ?_, fun h => absurd h (by decide), fun _ => rfl⟩
    have e : am_hd 249 4 (am_xn 0) = some 16 := by decide +kernel
    have nr : am_nrm 249 16 [none, none, none, none, none] = [none, none, none, none, none] := rfl
    simp only [List.cons_append, List.nil_append]
    simp only [bx249, bk249_0, kx, hc, af_e e, nr, bk249_16, Option.bind_some, bct_v, bct_t, otl_s, otl_n, List.cons_append, List.nil_append, List.getElem?_cons_zero, List.getElem?_cons_succ, ↓reduceIte]
  · have hc : am_x 223 [.ref x, .int z0, .int z1] w = some (.inr (am_xn 1), w1) := hc
    refine ⟨w1, ?_, fun h => absurd h (by decide), fun _ => rfl⟩
    have e : am_hd 249 4 (am_xn 1) = some 20 := by decide +kernel
    have nr : am_nrm 249 20 [none, none, none, none, none] = [none, none, none, none, none] := rfl
    simp only [List.cons_append, List.nil_append]
    simp only [bx249, bk249_0, kx, hc, af_e e, nr, bk249_20, Option.bind_some, bct_v, bct_t, otl_s, otl_n, List.cons_append, List.nil_append, List.getElem?_cons_zero, List.getElem?_cons_succ, ↓reduceIte]

theorem wr_doubt (z0 : Int32) : WP Value.double oD 148 91 exA 1 [.int z0] := by
  intro w w1 x u th v kx hB hc a d s hu
  rcases (show th = 0 ∨ th = 1 by omega) with rfl | rfl
  · have hc : am_x 91 [.ref x, .int z0] w = some (.inl (some (Value.double v)), w1) := hc
    have p1 : am_pf w1 u 9 1 (.double v) = some (am_pt w1 u (.inr (9, oD v a d s))) := pfc hu (by show 1 < 3; decide) (by decide)
    refine ⟨_, ?_, fun _ => rfl, fun h => absurd rfl h⟩
    simp only [List.cons_append, List.nil_append]
    simp only [bx148, bk148_0, kx, hc, af_v, bk148_6, bk148_9, Option.bind_some, bct_v, bct_t, otl_s, otl_n, List.cons_append, List.nil_append, List.getElem?_cons_zero, List.getElem?_cons_succ, ↓reduceIte, p1]
  · have hc : am_x 91 [.ref x, .int z0] w = some (.inr (am_xn 0), w1) := hc
    refine ⟨w1, ?_, fun h => absurd h (by decide), fun _ => rfl⟩
    have e : am_hd 148 3 (am_xn 0) = some 13 := by decide +kernel
    have nr : am_nrm 148 13 [none, none, none, none] = [none, none, none, none] := rfl
    simp only [List.cons_append, List.nil_append]
    simp only [bx148, bk148_0, kx, hc, af_e e, nr, bk148_13, Option.bind_some, bct_v, bct_t, otl_s, otl_n, List.cons_append, List.nil_append, List.getElem?_cons_zero, List.getElem?_cons_succ, ↓reduceIte]

theorem wr_worst (z0 z1 : Int32) : WP Value.int oI 235 202 exA 2 [.int z0, .int z1] := by
  intro w w1 x u th v kx hB hc a d s hu
  rcases (show th = 0 ∨ th = 1 ∨ th = 2 by omega) with rfl | rfl | rfl
  · have hc : am_x 202 [.ref x, .int z0, .int z1] w = some (.inl (some (Value.int v)), w1) := hc
    have p1 : am_pf w1 u 9 0 (.long v.toInt64) = some (am_pt w1 u (.inr (9, oI v a d s))) := pfc hu (by show 0 < 3; decide) (by decide)
    refine ⟨_, ?_, fun _ => rfl, fun h => absurd rfl h⟩
    simp only [List.cons_append, List.nil_append]
    simp only [bx235, bk235_0, kx, hc, af_v, bk235_7, bk235_11, Option.bind_some, bct_v, bct_t, otl_s, otl_n, List.cons_append, List.nil_append, List.getElem?_cons_zero, List.getElem?_cons_succ, ↓reduceIte, p1]
  · have hc : am_x 202 [.ref x, .int z0, .int z1] w = some (.inr (am_xn 0), w1) := hc
    refine ⟨w1, ?_, fun h => absurd h (by decide), fun _ => rfl⟩
    have e : am_hd 235 4 (am_xn 0) = some 16 := by decide +kernel
    have nr : am_nrm 235 16 [none, none, none, none, none] = [none, none, none, none, none] := rfl
    simp only [List.cons_append, List.nil_append]
    simp only [bx235, bk235_0, kx, hc, af_e e, nr, bk235_16, Option.bind_some, bct_v, bct_t, otl_s, otl_n, List.cons_append, List.nil_append, List.getElem?_cons_zero, List.getElem?_cons_succ, ↓reduceIte]
  · have hc : am_x 202 [.ref x, .int z0, .int z1] w = some (.inr (am_xn 1), w1) := hc
    refine ⟨w1, ?_, fun h => absurd h (by decide), fun _ => rfl⟩
    have e : am_hd 235 4 (am_xn 1) = some 20 := by decide +kernel
    have nr : am_nrm 235 20 [none, none, none, none, none] = [none, none, none, none, none] := rfl
    simp only [List.cons_append, List.nil_append]
    simp only [bx235, bk235_0, kx, hc, af_e e, nr, bk235_20, Option.bind_some, bct_v, bct_t, otl_s, otl_n, List.cons_append, List.nil_append, List.getElem?_cons_zero, List.getElem?_cons_succ, ↓reduceIte]

theorem wr_best (z0 : Int32) : WP Value.int oI 236 203 exA 1 [.int z0] := by
  intro w w1 x u th v kx hB hc a d s hu
  rcases (show th = 0 ∨ th = 1 by omega) with rfl | rfl
  · have hc : am_x 203 [.ref x, .int z0] w = some (.inl (some (Value.int v)), w1) := hc
    have p1 : am_pf w1 u 9 0 (.long v.toInt64) = some (am_pt w1 u (.inr (9, oI v a d s))) := pfc hu (by show 0 < 3; decide) (by decide)
    refine ⟨_, ?_, fun _ => rfl, fun h => absurd rfl h⟩
    simp only [List.cons_append, List.nil_append]
    simp only [bx236, bk236_0, kx, hc, af_v, bk236_6, bk236_10, Option.bind_some, bct_v, bct_t, otl_s, otl_n, List.cons_append, List.nil_append, List.getElem?_cons_zero, List.getElem?_cons_succ, ↓reduceIte, p1]
  · have hc : am_x 203 [.ref x, .int z0] w = some (.inr (am_xn 0), w1) := hc
    refine ⟨w1, ?_, fun h => absurd h (by decide), fun _ => rfl⟩
    have e : am_hd 236 3 (am_xn 0) = some 14 := by decide +kernel
    have nr : am_nrm 236 14 [none, none, none, none] = [none, none, none, none] := rfl
    simp only [List.cons_append, List.nil_append]
    simp only [bx236, bk236_0, kx, hc, af_e e, nr, bk236_14, Option.bind_some, bct_v, bct_t, otl_s, otl_n, List.cons_append, List.nil_append, List.getElem?_cons_zero, List.getElem?_cons_succ, ↓reduceIte]

theorem wr_wouldFeel (z0 z1 : Int32) : WP Value.int oI 220 170 exA 2 [.int z0, .int z1] := by
  intro w w1 x u th v kx hB hc a d s hu
  rcases (show th = 0 ∨ th = 1 ∨ th = 2 by omega) with rfl | rfl | rfl
  · have hc : am_x 170 [.ref x, .int z0, .int z1] w = some (.inl (some (Value.int v)), w1) := hc
    have p1 : am_pf w1 u 9 0 (.long v.toInt64) = some (am_pt w1 u (.inr (9, oI v a d s))) := pfc hu (by show 0 < 3; decide) (by decide)
    refine ⟨_, ?_, fun _ => rfl, fun h => absurd rfl h⟩
    simp only [List.cons_append, List.nil_append]
    simp only [bx220, bk220_0, kx, hc, af_v, bk220_7, bk220_11, Option.bind_some, bct_v, bct_t, otl_s, otl_n, List.cons_append, List.nil_append, List.getElem?_cons_zero, List.getElem?_cons_succ, ↓reduceIte, p1]
  · have hc : am_x 170 [.ref x, .int z0, .int z1] w = some (.inr (am_xn 0), w1) := hc
    refine ⟨w1, ?_, fun h => absurd h (by decide), fun _ => rfl⟩
    have e : am_hd 220 4 (am_xn 0) = some 16 := by decide +kernel
    have nr : am_nrm 220 16 [none, none, none, none, none] = [none, none, none, none, none] := rfl
    simp only [List.cons_append, List.nil_append]
    simp only [bx220, bk220_0, kx, hc, af_e e, nr, bk220_16, Option.bind_some, bct_v, bct_t, otl_s, otl_n, List.cons_append, List.nil_append, List.getElem?_cons_zero, List.getElem?_cons_succ, ↓reduceIte]
  · have hc : am_x 170 [.ref x, .int z0, .int z1] w = some (.inr (am_xn 1), w1) := hc
    refine ⟨w1, ?_, fun h => absurd h (by decide), fun _ => rfl⟩
    have e : am_hd 220 4 (am_xn 1) = some 20 := by decide +kernel
    have nr : am_nrm 220 20 [none, none, none, none, none] = [none, none, none, none, none] := rfl
    simp only [List.cons_append, List.nil_append]
    simp only [bx220, bk220_0, kx, hc, af_e e, nr, bk220_20, Option.bind_some, bct_v, bct_t, otl_s, otl_n, List.cons_append, List.nil_append, List.getElem?_cons_zero, List.getElem?_cons_succ, ↓reduceIte]

theorem wr_wouldBe (z0 z1 : Int32) : WP Value.int oI 237 204 exA 2 [.int z0, .int z1] := by
  intro w w1 x u th v kx hB hc a d s hu
  rcases (show th = 0 ∨ th = 1 ∨ th = 2 by omega) with rfl | rfl | rfl
  · have hc : am_x 204 [.ref x, .int z0, .int z1] w = some (.inl (some (Value.int v)), w1) := hc
    have p1 : am_pf w1 u 9 0 (.long v.toInt64) = some (am_pt w1 u (.inr (9, oI v a d s))) := pfc hu (by show 0 < 3; decide) (by decide)
    refine ⟨_, ?_, fun _ => rfl, fun h => absurd rfl h⟩
    simp only [List.cons_append, List.nil_append]
    simp only [bx237, bk237_0, kx, hc, af_v, bk237_7, bk237_11, Option.bind_some, bct_v, bct_t, otl_s, otl_n, List.cons_append, List.nil_append, List.getElem?_cons_zero, List.getElem?_cons_succ, ↓reduceIte, p1]
  · have hc : am_x 204 [.ref x, .int z0, .int z1] w = some (.inr (am_xn 0), w1) := hc
    refine ⟨w1, ?_, fun h => absurd h (by decide), fun _ => rfl⟩
    have e : am_hd 237 4 (am_xn 0) = some 16 := by decide +kernel
    have nr : am_nrm 237 16 [none, none, none, none, none] = [none, none, none, none, none] := rfl
    simp only [List.cons_append, List.nil_append]
    simp only [bx237, bk237_0, kx, hc, af_e e, nr, bk237_16, Option.bind_some, bct_v, bct_t, otl_s, otl_n, List.cons_append, List.nil_append, List.getElem?_cons_zero, List.getElem?_cons_succ, ↓reduceIte]
  · have hc : am_x 204 [.ref x, .int z0, .int z1] w = some (.inr (am_xn 1), w1) := hc
    refine ⟨w1, ?_, fun h => absurd h (by decide), fun _ => rfl⟩
    have e : am_hd 237 4 (am_xn 1) = some 20 := by decide +kernel
    have nr : am_nrm 237 20 [none, none, none, none, none] = [none, none, none, none, none] := rfl
    simp only [List.cons_append, List.nil_append]
    simp only [bx237, bk237_0, kx, hc, af_e e, nr, bk237_20, Option.bind_some, bct_v, bct_t, otl_s, otl_n, List.cons_append, List.nil_append, List.getElem?_cons_zero, List.getElem?_cons_succ, ↓reduceIte]
end
section
/-! THE LAW'S OWN STATE; one call on both sides. Mine. -/
section LW
variable {w w' : am_Wd} {g g' : Nat → Nat} {x m u b L : Nat} {xs : Nat → Int32} {S S' : sS} {t k s k' s' : Nat}
theorem wk_g {g g' : Nat → Nat} {i a : Nat} {y : sW} (h : Wkv w g i a y) (hg : ∀ b, g b ≠ 0 → g' b = g b) : Wkv w g' i a y := h.g hg
theorem rc_stp (ok : okS S) (R : RC w g x S) (hJ : gJ w g) (p : stp 100 800 g g' k s w w') : RC w' g' x S := by
  obtain ⟨kd, hr, cp, br, n, ws, mi, nd, dr, me, di, re⟩ := S
  obtain ⟨-, -, -, hn, -⟩ := ok
  obtain ⟨fl, ka, ha, wr, C, B, wad, R⟩ := R
  have R1 := rc_fr (w' := w') R hn fun b h1 h2 => p.1 b (lt_J hJ rfl (by omega)) (Or.inl (by omega))
  obtain ⟨h1, h2, h3, h4, h5, h6, g1, g2, g3, g4, g5⟩ := R1
  have hg := stp_g hJ p
  exact ⟨fl, ka, ha, wr, C, B, wad, h1, h2, h3, h4, h5, fun i hi => (h6 i hi).g hg, (hg x (by omega)).trans g1, (hg fl (by omega)).trans g2, (hg ka (by omega)).trans g3, (hg ha (by omega)).trans g4, (hg wr (by omega)).trans g5⟩
theorem rn_stp (ok : okS S) (R : RN w g m S t) (hJ : gJ w g) (p : stp 1 40 g g' k s w w') : RN w' g' m S t := by
  obtain ⟨kd, hr, cp, br, n, ws, mi, nd, dr, me, di, re⟩ := S
  obtain ⟨-, -, -, hn, -⟩ := ok
  obtain ⟨kq, hq, ca, ba, wl, ed, wad, R⟩ := R
  exact ⟨kq, hq, ca, ba, wl, ed, wad, rm_stp R hn hJ p⟩
/-- the law's own object written -/
theorem rc_u {e : am_En} (ok : okS S) (R : RC w g x S) (gu : g u = 900) : RC (am_pt w u e) g x S := by
  obtain ⟨kd, hr, cp, br, n, ws, mi, nd, dr, me, di, re⟩ := S
  obtain ⟨-, -, -, hn, -⟩ := ok
  obtain ⟨fl, ka, ha, wr, C, B, wad, R⟩ := R
  exact ⟨fl, ka, ha, wr, C, B, wad, rc_fr R hn fun b h1 h2 => pt_n (fun q => by subst q; omega)⟩
theorem rn_u {e : am_En} (ok : okS S) (R : RN w g m S t) (gu : g u = 900) : RN (am_pt w u e) g m S t := by
  obtain ⟨kd, hr, cp, br, n, ws, mi, nd, dr, me, di, re⟩ := S
  obtain ⟨-, -, -, hn, -⟩ := ok
  obtain ⟨kq, hq, ca, ba, wl, ed, wad, R⟩ := R
  exact ⟨kq, hq, ca, ba, wl, ed, wad, rm_fr R hn (fun b h1 h2 => pt_n (fun q => by subst q; omega)) rfl⟩
theorem st_u {e : am_En} (h : StW w g) (gu : g u = 900) : StW (am_pt w u e) g := by
  obtain ⟨⟨o, xf, ⟨a1, a2, a3⟩, a4, a5⟩, h2, d, f, d1, d2, d3, d4, d5⟩ := h
  have n0 : ∀ {c : Nat}, g c = 0 → (am_pt w u e).1 c = w.1 c := fun hc => pt_n (fun q => by subst q; omega)
  refine ⟨⟨o, xf, ⟨a1, (n0 a5).trans a2, a3⟩, a4, a5⟩, fun r r1 r2 => ?_, d, f, d1, (n0 d4).trans d2, d3, d4, d5⟩
  obtain ⟨k, v, f, b1, b2, b3, b4, b5, b6, b7, b8⟩ := h2 r r1 r2
  exact ⟨k, v, f, b1, (n0 b7).trans b2, (n0 b8).trans b3, b4, b5, b6, b7, b8⟩
/-- what holds at the law's loop: b its script, x the class's object, m the reference's, u its own -/
def LI (b L : Nat) (xs : Nat → Int32) (x m u : Nat) (S : sS) (w : am_Wd) (g : Nat → Nat) (k s : Nat) : Prop := okS S ∧ RC w g x S ∧ (∃ t, RN w g m S t) ∧ gJ w g ∧ StW w g ∧ (cI w b 8 L xs ∧ b < w.2.1 ∧ g b = 0 ∧ L ≤ 2560) ∧ (∃ (a : Int64) (d : UInt64) (v : Value), cO w u 9 [.long a, .double d, v]) ∧ g u = 900 ∧ w.2.1 ≤ k ∧ w.2.2.1 ≤ s
/-- the same, but that the reference isn't asked yet -/
def LH (b L : Nat) (xs : Nat → Int32) (x m u : Nat) (S S' : sS) (w : am_Wd) (g : Nat → Nat) (k s : Nat) : Prop := okS S' ∧ RC w g x S' ∧ (∃ t, RN w g m S t) ∧ gJ w g ∧ StW w g ∧ (cI w b 8 L xs ∧ b < w.2.1 ∧ g b = 0 ∧ L ≤ 2560) ∧ (∃ (a : Int64) (d : UInt64) (v : Value), cO w u 9 [.long a, .double d, v]) ∧ g u = 900 ∧ w.2.1 ≤ k ∧ w.2.2.1 ≤ s
theorem rc_kx (R : RC w g x S) : am_kf w x 8 = some () := by
  obtain ⟨kd, hr, cp, br, n, ws, mi, nd, dr, me, di, re⟩ := S
  obtain ⟨fl, ka, ha, wr, C, B, wad, R⟩ := R
  exact rc_kf R
theorem rn_km (R : RN w g m S t) : am_kf w m 11 = some () := by
  obtain ⟨kd, hr, cp, br, n, ws, mi, nd, dr, me, di, re⟩ := S
  obtain ⟨kq, hq, ca, ba, wl, ed, wad, R⟩ := R
  exact rm_kf R
theorem rn_th (R : RN w g m S t) : am_gf w m 11 0 = some (.int (nI t)) := by
  obtain ⟨kd, hr, cp, br, n, ws, mi, nd, dr, me, di, re⟩ := S
  obtain ⟨kq, hq, ca, ba, wl, ed, wad, R⟩ := R
  exact gfc R.1
theorem rd (h : cI w b 8 L xs ∧ b < w.2.1 ∧ g b = 0 ∧ L ≤ 2560) {i : Nat} (hi : i < L) : am_ri 0 w b (nI i) = some (xs i) := ric h.1 rfl hi (by have := h.2.2.2; omega)
/-- the class's step, and the law's object written -/
theorem lh_of (h : LI b L xs x m u S w g k s) (ok' : okS S') (R' : RC w' g' x S') (p : stp 1 40 g g' 100 200 w w') : LH b L xs x m u S S' w' g' (k + 100) (s + 200) := by
  obtain ⟨ok, R, ⟨t, N⟩, hJ, hS, ⟨b1, b2, b3, b4⟩, ⟨a, d, v, hu⟩, gu, hk, hs⟩ := h
  have lu : u < w.2.1 := lt_J hJ gu (by decide)
  obtain ⟨p1, p2, p3, p4, p5, p6, p7, p8, p9⟩ := id p
  exact ⟨ok', R', ⟨t, rn_stp ok N hJ p⟩, p4, hS.stp (by decide) p, ⟨cI_of b1 (p1 b b2 (by omega)), by omega, by rw [p2 b b2]; exact b3, b4⟩, ⟨a, d, v, cO_of hu (p1 u lu (by omega))⟩, by rw [p2 u lu]; exact gu, by omega, by omega⟩
theorem lh_u (h : LH b L xs x m u S S' w g k s) (ok : okS S) {a : Int64} {d : UInt64} {v : Value} : LH b L xs x m u S S' (am_pt w u (.inr (9, [.long a, .double d, v]))) g k s := by
  obtain ⟨ok', R, ⟨t, N⟩, hJ, hS, ⟨b1, b2, b3, b4⟩, -, gu, hk, hs⟩ := h
  exact ⟨ok', rc_u ok' R gu, ⟨t, rn_u ok N gu⟩, hJ, st_u hS gu, ⟨cI_of b1 (pt_n (fun q => by subst q; omega)), b2, b3, b4⟩, ⟨a, d, v, pt_s⟩, gu, hk, hs⟩
/-- the reference's step -/
theorem li_of (h : LH b L xs x m u S S' w g k s) (N' : RN w' g' m S' t) (p : stp 100 800 g g' 500 13000 w w') : LI b L xs x m u S' w' g' (k + 500) (s + 13000) := by
  obtain ⟨ok', R, -, hJ, hS, ⟨b1, b2, b3, b4⟩, ⟨a, d, v, hu⟩, gu, hk, hs⟩ := h
  have lu : u < w.2.1 := lt_J hJ gu (by decide)
  obtain ⟨p1, p2, p3, p4, p5, p6, p7, p8, p9⟩ := id p
  exact ⟨ok', rc_stp ok' R hJ p, ⟨t, N'⟩, p4, hS.stp (by decide) p, ⟨cI_of b1 (p1 b b2 (by omega)), by omega, by rw [p2 b b2]; exact b3, b4⟩, ⟨a, d, v, cO_of hu (p1 u lu (by omega))⟩, by rw [p2 u lu]; exact gu, by omega, by omega⟩
theorem li_wk (h : LI b L xs x m u S w g k s) (hk : k ≤ k') (hs : s ≤ s') : LI b L xs x m u S w g k' s' := by
  obtain ⟨h1, h2, h3, h4, h5, h6, h7, h8, h9, h0⟩ := h
  exact ⟨h1, h2, h3, h4, h5, h6, h7, h8, Nat.le_trans h9 hk, Nat.le_trans h0 hs⟩
/-- one call on both sides, by its wrapper -/
theorem both {α : Type} {F : α → Value} {O : α → Int64 → UInt64 → Value → List Value} {Wm Mc Mm : Nat} {ex : Nat → Nat} {Bd : Nat} {as : List Value} (hO : ∀ v a d s, ∃ a' d' s', O v a d s = [.long a', .double d', s']) (hw : WP F O Wm Mc ex Bd as) (hj : okS S → JN F Mc Mm ex Bd as S) (h : LI b L xs x m u S w g k s) :
    ∃ (th : Nat) (v v' : α) (S' : sS) (w2 w3 : am_Wd) (g3 : Nat → Nat), th ≤ Bd ∧ (th = 0 → v' = v) ∧ am_x Wm (.ref x :: (as ++ [.ref u])) w = some (.inl (some (.int (nI th))), w2) ∧ am_kf w2 m 11 = some () ∧ (∀ i, i < L → am_ri 0 w2 b (nI i) = some (xs i)) ∧ am_x Mm (.ref m :: as) w2 = some (.inl (some (F v')), w3) ∧ am_kf w3 m 11 = some () ∧ am_gf w3 m 11 0 = some (.int (nI th)) ∧ (th = 0 → ∃ a d s, cO w3 u 9 (O v a d s)) ∧ LI b L xs x m u S' w3 g3 (k + 600) (s + 13200) := by
  have h0 := h
  obtain ⟨ok, R, ⟨t, N⟩, hJ, hS, hb, ⟨a, d, sv, hu⟩, gu, hk, hs⟩ := h
  obtain ⟨th, v, v', S', ok', hB, hv, hc, hm⟩ := hj ok
  obtain ⟨w1, g1, a1, R1, p1⟩ := hc w g x R hJ hS
  have h1 := lh_of h0 ok' R1 p1
  have lu : u < w.2.1 := lt_J hJ gu (by decide)
  have hu1 : cO w1 u 9 [.long a, .double d, sv] := cO_of hu (p1.1 u lu (by omega))
  obtain ⟨w2, a2, q1, q2⟩ := hw w w1 x u th v (rc_kx R) hB a1 a d sv hu1
  have h2 : LH b L xs x m u S S' w2 g1 (k + 100) (s + 200) ∧ (th = 0 → ∃ a d s, cO w2 u 9 (O v a d s)) := by
    by_cases e : th = 0
    · rw [q1 e]
      obtain ⟨a', d', s', e'⟩ := hO v a d sv
      rw [e']
      exact ⟨lh_u h1 ok, fun _ => ⟨a, d, sv, by rw [e']; exact pt_s⟩⟩
    · rw [q2 e]
      exact ⟨h1, fun z => absurd z e⟩
  obtain ⟨h2, hO2⟩ := h2
  obtain ⟨-, -, ⟨t2, N2⟩, hJ2, hS2, hb2, -, gu2, -⟩ := id h2
  obtain ⟨w3, g3, a3, R3, p3⟩ := hm w2 g1 m t2 N2 hJ2 hS2
  have h3 := li_wk (k' := k + 600) (s' := s + 13200) (li_of h2 R3 p3) (by omega) (by omega)
  have lu2 : u < w2.2.1 := lt_J hJ2 gu2 (by decide)
  refine ⟨th, v, v', S', w2, w3, g3, hB, hv, a2, rn_km N2, fun i hi => rd hb2 hi, a3, rn_km R3, rn_th R3, fun e => ?_, h3⟩
  obtain ⟨a', d', s', c⟩ := hO2 e
  exact ⟨a', d', s', cO_of c (p3.1 u lu2 (by omega))⟩
/-- one call on both sides, straight -/
theorem both0 {α : Type} {F : α → Value} {Mc Mm : Nat} {ex : Nat → Nat} (hj : okS S → JN F Mc Mm ex 0 [] S) (h : LI b L xs x m u S w g k s) :
    ∃ (v : α) (S' : sS) (w2 w3 : am_Wd) (g3 : Nat → Nat), am_kf w x 8 = some () ∧ am_x Mc [.ref x] w = some (.inl (some (F v)), w2) ∧ am_kf w2 m 11 = some () ∧ am_x Mm [.ref m] w2 = some (.inl (some (F v)), w3) ∧ LI b L xs x m u S' w3 g3 (k + 600) (s + 13200) := by
  have h0 := h
  obtain ⟨ok, R, ⟨t, N⟩, hJ, hS, hb, ⟨a, d, sv, hu⟩, gu, hk, hs⟩ := h
  obtain ⟨th, v, v', S', ok', hB, hv, hc, hm⟩ := hj ok
  obtain rfl : th = 0 := by omega
  obtain rfl := hv rfl
  obtain ⟨w1, g1, a1, R1, p1⟩ := hc w g x R hJ hS
  have h1 := lh_of h0 ok' R1 p1
  obtain ⟨-, -, ⟨t2, N2⟩, hJ2, hS2, hb2, -, gu2, -⟩ := id h1
  obtain ⟨w3, g3, a3, R3, p3⟩ := hm w1 g1 m t2 N2 hJ2 hS2
  exact ⟨v', S', w1, w3, g3, rc_kx R, a1, rn_km N2, a3, li_wk (li_of h1 R3 p3) (by omega) (by omega)⟩
/-- row on both sides -/
theorem wr_row {w w1 : am_Wd} {x u th : Nat} {r : am_Out} {z : Int32} (kx : am_kf w x 8 = some ()) (hB : th ≤ 1) (hc : am_x 243 [.ref x, .int z] w = some (r, w1)) {T : Nat → Int32} {lo : Nat} (r0 : th = 0 → ∃ v, r = .inl (some (.ref v)) ∧ tS w1 lo v 11 T) (r1 : th ≠ 0 → r = .inr (am_xn (exA th))) {a : Int64} {d : UInt64} {s : Value} (hu : cO w1 u 9 [.long a, .double d, s]) : ∃ w2, am_x 257 [.ref x, .int z, .ref u] w = some (.inl (some (.int (nI th))), w2) ∧ (w2 = w1 ∨ ∃ s', w2 = am_pt w1 u (.inr (9, [.long a, .double d, s']))) ∧ (th = 0 → ∃ v, tS w1 lo v 11 T ∧ w2 = am_pt w1 u (.inr (9, [.long a, .double d, .ref v]))) := by
  rcases (show th = 0 ∨ th = 1 by omega) with rfl | rfl
  · obtain ⟨v, rfl, tv⟩ := r0 rfl
    have p1 : am_pf w1 u 9 2 (.ref v) = some (am_pt w1 u (.inr (9, [.long a, .double d, .ref v]))) := pfc hu (by show 2 < 3; decide) (by decide)
    refine ⟨_, ?_, Or.inr ⟨.ref v, rfl⟩, fun _ => ⟨v, tv, rfl⟩⟩
    simp only [bx257, bk257_0, kx, hc, af_v, bk257_6, p1, bk257_9, Option.bind_some, bct_v, bct_t, otl_s, otl_n, List.cons_append, List.nil_append, List.getElem?_cons_zero, List.getElem?_cons_succ, ↓reduceIte]
  · have e1 := r1 (by decide)
    subst e1
    have hc : am_x 243 [.ref x, .int z] w = some (.inr (am_xn 0), w1) := hc
    refine ⟨w1, ?_, Or.inl rfl, fun h => absurd h (by decide)⟩
    have e : am_hd 257 3 (am_xn 0) = some 13 := by decide +kernel
    have nr : am_nrm 257 13 [none, none, none, none] = [none, none, none, none] := rfl
    simp only [bx257, bk257_0, kx, hc, af_e e, nr, bk257_13, Option.bind_some, bct_v, bct_t, otl_s, otl_n, List.cons_append, List.nil_append, List.getElem?_cons_zero, List.getElem?_cons_succ, ↓reduceIte]
theorem bothR {z : Int32} (hj : okS S → JR z S) (h : LI b L xs x m u S w g k s) :
    ∃ (th v : Nat) (w2 w3 : am_Wd) (g3 : Nat → Nat), th ≤ 1 ∧ am_x 257 [.ref x, .int z, .ref u] w = some (.inl (some (.int (nI th))), w2) ∧ am_kf w2 m 11 = some () ∧ (∀ i, i < L → am_ri 0 w2 b (nI i) = some (xs i)) ∧ am_x 246 [.ref m, .int z] w2 = some (.inl (some (.ref v)), w3) ∧ am_kf w3 m 11 = some () ∧ am_gf w3 m 11 0 = some (.int (nI th)) ∧ (th = 0 → ∃ v1 T, am_gf w3 u 9 2 = some (.ref v1) ∧ tS w3 0 v1 11 T ∧ tS w3 0 v 11 T) ∧ LI b L xs x m u S w3 g3 (k + 600) (s + 13200) := by
  have h0 := h
  obtain ⟨ok, R, ⟨t, N⟩, hJ, hS, hb, ⟨a, d, sv, hu⟩, gu, hk, hs⟩ := h
  obtain ⟨th, T, hB, hc, hm⟩ := hj ok
  obtain ⟨w1, r, a1, R1, p1, r0, r1⟩ := hc w g x R hJ hS
  have h1 := lh_of h0 ok R1 p1
  have lu : u < w.2.1 := lt_J hJ gu (by decide)
  have hu1 : cO w1 u 9 [.long a, .double d, sv] := cO_of hu (p1.1 u lu (by omega))
  obtain ⟨w2, a2, q, q0⟩ := wr_row (rc_kx R) hB a1 r0 r1 hu1
  have h2 : LH b L xs x m u S S w2 g (k + 100) (s + 200) := by
    rcases q with rfl | ⟨s', rfl⟩
    · exact h1
    · exact lh_u h1 ok
  obtain ⟨-, -, ⟨t2, N2⟩, hJ2, hS2, hb2, -, gu2, -⟩ := id h2
  obtain ⟨w3, v, a3, R3, p3, t3⟩ := hm w2 g m t2 N2 hJ2 hS2
  have lu2 : u < w2.2.1 := lt_J hJ2 gu2 (by decide)
  refine ⟨th, v, w2, w3, g, hB, a2, rn_km N2, fun i hi => rd hb2 hi, a3, rn_km R3, rn_th R3, fun e => ?_, li_wk (li_of h2 R3 p3) (by omega) (by omega)⟩
  obtain ⟨v1, tv, rfl⟩ := q0 e
  have c2 : cO w3 u 9 [.long a, .double d, .ref v1] := cO_of (w := am_pt w1 u (.inr (9, [.long a, .double d, .ref v1]))) pt_s (p3.1 u lu2 (by omega))
  refine ⟨v1, T, gfc c2, ?_, tS_lo (t3 e) (Nat.zero_le _)⟩
  obtain ⟨y, f, t4, t5, t6, t7, t8, t9, t10⟩ := tv
  have nv : v1 ≠ u := fun z => by omega
  have ny : y ≠ u := fun z => by omega
  have le3 : w1.2.1 ≤ w3.2.1 := p3.2.2.2.2.1
  have gv : g v1 = 0 := hJ v1 t7
  have gy : g y = 0 := hJ y t8
  exact ⟨y, f, cO_of t4 ((p3.1 v1 t9 (by omega)).trans (pt_n nv)), (p3.1 y t10 (by omega)).trans ((pt_n ny).trans t5), t6, Nat.zero_le _, Nat.zero_le _, Nat.lt_of_lt_of_le t9 le3, Nat.lt_of_lt_of_le t10 le3⟩
theorem oI_f : ∀ v a d s, ∃ a' d' s', oI v a d s = [.long a', .double d', s'] := fun _ _ _ _ => ⟨_, _, _, rfl⟩
theorem oZ_f : ∀ v a d s, ∃ a' d' s', oZ v a d s = [.long a', .double d', s'] := fun _ _ _ _ => ⟨_, _, _, rfl⟩
theorem oJ_f : ∀ v a d s, ∃ a' d' s', oJ v a d s = [.long a', .double d', s'] := fun _ _ _ _ => ⟨_, _, _, rfl⟩
theorem oD_f : ∀ v a d s, ∃ a' d' s', oD v a d s = [.long a', .double d', s'] := fun _ _ _ _ => ⟨_, _, _, rfl⟩
end LW
end
