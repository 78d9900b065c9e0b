/-! BumpwardModel$Walker.sure BY HAND: a map that has one, has it. Mine (laid by wip/gen/sure.py). -/
theorem am_u1 {m pc : Nat} {i : Instr} {k : Nat} {an dd : List Nat} {ls : am_Lc} {st : List Value} {w : am_Wd} {pc' : Nat} {ls' ls'' : am_Lc} {st' : List Value} (hf : am_fetch (am_mth m) pc = some (i, k, an, dd)) (hs : am_stp pc i an ls st w = some (.inl (pc', ls', st', w))) {dl : List Nat} (hd : am_dead m pc' = dl) (hn : am_kill dl ls' = ls'') :
    am_run m pc ls st w = am_run m pc' ls'' st' w := by
  rw [am_e1 hf hs (am_ge_rf w)]
  unfold am_nrm
  rw [hd, hn]
theorem am_f37_0 : am_fetch (am_mth 37) 0 = some (.iconst 0, 1, [], [1, 2, 3, 4, 5]) := by decide +kernel
theorem am_d37_0 : am_dead 37 0 = [1, 2, 3, 4, 5] := by decide +kernel
theorem am_f37_1 : am_fetch (am_mth 37) 1 = some (.istore_n 1, 1, [], [1, 2, 3, 4, 5]) := by decide +kernel
theorem am_d37_1 : am_dead 37 1 = [1, 2, 3, 4, 5] := by decide +kernel
theorem am_f37_2 : am_fetch (am_mth 37) 2 = some (.aload_n 0, 1, [], [2, 3, 4, 5]) := by decide +kernel
theorem am_d37_2 : am_dead 37 2 = [2, 3, 4, 5] := by decide +kernel
theorem am_f37_3 : am_fetch (am_mth 37) 3 = some (.getfield 9, 3, [0, 10, 3, 1302], [0, 2, 3, 4, 5]) := by decide +kernel
theorem am_d37_3 : am_dead 37 3 = [0, 2, 3, 4, 5] := by decide +kernel
theorem am_f37_6 : am_fetch (am_mth 37) 6 = some (.astore_n 2, 1, [], [0, 2, 3, 4, 5]) := by decide +kernel
theorem am_d37_6 : am_dead 37 6 = [0, 2, 3, 4, 5] := by decide +kernel
theorem am_f37_7 : am_fetch (am_mth 37) 7 = some (.aload_n 2, 1, [], [0, 3, 4, 5]) := by decide +kernel
theorem am_d37_7 : am_dead 37 7 = [0, 3, 4, 5] := by decide +kernel
theorem am_f37_8 : am_fetch (am_mth 37) 8 = some (.arraylength, 1, [], [0, 3, 4, 5]) := by decide +kernel
theorem am_d37_8 : am_dead 37 8 = [0, 3, 4, 5] := by decide +kernel
theorem am_f37_9 : am_fetch (am_mth 37) 9 = some (.istore_n 3, 1, [], [0, 3, 4, 5]) := by decide +kernel
theorem am_d37_9 : am_dead 37 9 = [0, 3, 4, 5] := by decide +kernel
theorem am_f37_10 : am_fetch (am_mth 37) 10 = some (.iconst 0, 1, [], [0, 4, 5]) := by decide +kernel
theorem am_d37_10 : am_dead 37 10 = [0, 4, 5] := by decide +kernel
theorem am_f37_11 : am_fetch (am_mth 37) 11 = some (.istore 4, 2, [], [0, 4, 5]) := by decide +kernel
theorem am_d37_11 : am_dead 37 11 = [0, 4, 5] := by decide +kernel
theorem am_f37_13 : am_fetch (am_mth 37) 13 = some (.iload 4, 2, [], [0, 5]) := by decide +kernel
theorem am_d37_13 : am_dead 37 13 = [0, 5] := by decide +kernel
theorem am_f37_15 : am_fetch (am_mth 37) 15 = some (.iload_n 3, 1, [], [0, 5]) := by decide +kernel
theorem am_d37_15 : am_dead 37 15 = [0, 5] := by decide +kernel
theorem am_f37_16 : am_fetch (am_mth 37) 16 = some (.if_icmp .ge 28, 3, [], [0, 5]) := by decide +kernel
theorem am_d37_16 : am_dead 37 16 = [0, 5] := by decide +kernel
theorem am_f37_19 : am_fetch (am_mth 37) 19 = some (.aload_n 2, 1, [], [0, 5]) := by decide +kernel
theorem am_d37_19 : am_dead 37 19 = [0, 5] := by decide +kernel
theorem am_f37_20 : am_fetch (am_mth 37) 20 = some (.iload 4, 2, [], [0, 5]) := by decide +kernel
theorem am_d37_20 : am_dead 37 20 = [0, 5] := by decide +kernel
theorem am_f37_22 : am_fetch (am_mth 37) 22 = some (.baload, 1, [2], [0, 5]) := by decide +kernel
theorem am_d37_22 : am_dead 37 22 = [0, 5] := by decide +kernel
theorem am_f37_23 : am_fetch (am_mth 37) 23 = some (.istore 5, 2, [], [0, 5]) := by decide +kernel
theorem am_d37_23 : am_dead 37 23 = [0, 5] := by decide +kernel
theorem am_f37_25 : am_fetch (am_mth 37) 25 = some (.iload_n 1, 1, [], [0]) := by decide +kernel
theorem am_d37_25 : am_dead 37 25 = [0] := by decide +kernel
theorem am_f37_26 : am_fetch (am_mth 37) 26 = some (.iload 5, 2, [], [0, 1]) := by decide +kernel
theorem am_d37_26 : am_dead 37 26 = [0, 1] := by decide +kernel
theorem am_f37_28 : am_fetch (am_mth 37) 28 = some (.ifCond .eq 7, 3, [], [0, 1, 5]) := by decide +kernel
theorem am_d37_28 : am_dead 37 28 = [0, 1, 5] := by decide +kernel
theorem am_f37_31 : am_fetch (am_mth 37) 31 = some (.iconst 1, 1, [], [0, 1, 5]) := by decide +kernel
theorem am_d37_31 : am_dead 37 31 = [0, 1, 5] := by decide +kernel
theorem am_f37_32 : am_fetch (am_mth 37) 32 = some (.goto 4, 3, [], [0, 1, 5]) := by decide +kernel
theorem am_d37_32 : am_dead 37 32 = [0, 1, 5] := by decide +kernel
theorem am_f37_35 : am_fetch (am_mth 37) 35 = some (.iconst 0, 1, [], [0, 1, 5]) := by decide +kernel
theorem am_d37_35 : am_dead 37 35 = [0, 1, 5] := by decide +kernel
theorem am_f37_36 : am_fetch (am_mth 37) 36 = some (.iadd, 1, [], [0, 1, 5]) := by decide +kernel
theorem am_d37_36 : am_dead 37 36 = [0, 1, 5] := by decide +kernel
theorem am_f37_37 : am_fetch (am_mth 37) 37 = some (.istore_n 1, 1, [], [0, 1, 5]) := by decide +kernel
theorem am_d37_37 : am_dead 37 37 = [0, 1, 5] := by decide +kernel
theorem am_f37_38 : am_fetch (am_mth 37) 38 = some (.iinc 4 1, 3, [], [0, 5]) := by decide +kernel
theorem am_d37_38 : am_dead 37 38 = [0, 5] := by decide +kernel
theorem am_f37_41 : am_fetch (am_mth 37) 41 = some (.goto (-28), 3, [], [0, 5]) := by decide +kernel
theorem am_d37_41 : am_dead 37 41 = [0, 5] := by decide +kernel
theorem am_f37_44 : am_fetch (am_mth 37) 44 = some (.iload_n 1, 1, [], [0, 2, 3, 4, 5]) := by decide +kernel
theorem am_d37_44 : am_dead 37 44 = [0, 2, 3, 4, 5] := by decide +kernel
theorem am_f37_45 : am_fetch (am_mth 37) 45 = some (.ireturn, 1, [0], [0, 1, 2, 3, 4, 5]) := by decide +kernel
theorem am_d37_45 : am_dead 37 45 = [0, 1, 2, 3, 4, 5] := by decide +kernel
theorem am_f95_0 : am_fetch (am_mth 95) 0 = some (.aload_n 0, 1, [], [1]) := by decide +kernel
theorem am_d95_0 : am_dead 95 0 = [1] := by decide +kernel
theorem am_f95_1 : am_fetch (am_mth 95) 1 = some (.invokevirtual 20, 3, [0, 37, 0, 10, 1403, 1404, 1405, 66], [1]) := by decide +kernel
theorem am_d95_1 : am_dead 95 1 = [1] := by decide +kernel
theorem am_f95_4 : am_fetch (am_mth 95) 4 = some (.iconst 1, 1, [], [1]) := by decide +kernel
theorem am_d95_4 : am_dead 95 4 = [1] := by decide +kernel
theorem am_f95_5 : am_fetch (am_mth 95) 5 = some (.if_icmp .eq 5, 3, [], [1]) := by decide +kernel
theorem am_d95_5 : am_dead 95 5 = [1] := by decide +kernel
theorem am_f95_8 : am_fetch (am_mth 95) 8 = some (.iconst (-1), 1, [], [0, 1]) := by decide +kernel
theorem am_d95_8 : am_dead 95 8 = [0, 1] := by decide +kernel
theorem am_f95_9 : am_fetch (am_mth 95) 9 = some (.ireturn, 1, [0], [0, 1]) := by decide +kernel
theorem am_d95_9 : am_dead 95 9 = [0, 1] := by decide +kernel
theorem am_f95_10 : am_fetch (am_mth 95) 10 = some (.iconst 0, 1, [], [1]) := by decide +kernel
theorem am_d95_10 : am_dead 95 10 = [1] := by decide +kernel
theorem am_f95_11 : am_fetch (am_mth 95) 11 = some (.istore_n 1, 1, [], [1]) := by decide +kernel
theorem am_d95_11 : am_dead 95 11 = [1] := by decide +kernel
theorem am_f95_12 : am_fetch (am_mth 95) 12 = some (.aload_n 0, 1, [], []) := by decide +kernel
theorem am_d95_12 : am_dead 95 12 = [] := by decide +kernel
theorem am_f95_13 : am_fetch (am_mth 95) 13 = some (.getfield 9, 3, [0, 10, 3, 1302], []) := by decide +kernel
theorem am_d95_13 : am_dead 95 13 = [] := by decide +kernel
theorem am_f95_16 : am_fetch (am_mth 95) 16 = some (.iload_n 1, 1, [], []) := by decide +kernel
theorem am_d95_16 : am_dead 95 16 = [] := by decide +kernel
theorem am_f95_17 : am_fetch (am_mth 95) 17 = some (.baload, 1, [2], []) := by decide +kernel
theorem am_d95_17 : am_dead 95 17 = [] := by decide +kernel
theorem am_f95_18 : am_fetch (am_mth 95) 18 = some (.ifCond .ne 9, 3, [], []) := by decide +kernel
theorem am_d95_18 : am_dead 95 18 = [] := by decide +kernel
theorem am_f95_21 : am_fetch (am_mth 95) 21 = some (.iinc 1 1, 3, [], []) := by decide +kernel
theorem am_d95_21 : am_dead 95 21 = [] := by decide +kernel
theorem am_f95_24 : am_fetch (am_mth 95) 24 = some (.goto (-12), 3, [], []) := by decide +kernel
theorem am_d95_24 : am_dead 95 24 = [] := by decide +kernel
theorem am_f95_27 : am_fetch (am_mth 95) 27 = some (.iload_n 1, 1, [], [0]) := by decide +kernel
theorem am_d95_27 : am_dead 95 27 = [0] := by decide +kernel
theorem am_f95_28 : am_fetch (am_mth 95) 28 = some (.ireturn, 1, [0], [0, 1]) := by decide +kernel
theorem am_d95_28 : am_dead 95 28 = [0, 1] := by decide +kernel
section AMSU
variable {w : am_Wd} {a b : Nat} {f : Nat → Int32}
theorem am_i_succ {k : Nat} (h : k < 144) : Int32.ofNat k + Int32.ofInt 1 = Int32.ofNat (k + 1) := by
  apply Int32.toInt_inj.mp
  have h1 : (Int32.ofNat k).toInt = (k : Int) := Int32.toInt_ofNat_of_lt (by omega)
  have h2 : (Int32.ofNat (k + 1)).toInt = ((k + 1 : Nat) : Int) := Int32.toInt_ofNat_of_lt (by omega)
  have h3 : (Int32.ofInt 1).toInt = 1 := rfl
  rw [Int32.toInt_add, h1, h2, h3, am_bm (by unfold am_lo; omega) (by unfold am_hi; omega)]
  omega
theorem am_i_ge {k : Nat} (h : k ≤ 144) : ((Int32.ofNat 144) ≤ (Int32.ofNat k)) ↔ k = 144 := by
  have h1 : (Int32.ofNat k).toInt = (k : Int) := Int32.toInt_ofNat_of_lt (by omega)
  have h2 : (Int32.ofNat 144).toInt = 144 := rfl
  rw [Int32.le_iff_toInt_le, h1, h2]
  omega
theorem am_i_ri (hb : w.1 b = some (.inl (2, 144, .inl f))) {k : Nat} (h : k < 144) : am_ri 2 w b (Int32.ofNat k) = some (f k) := by
  have h1 : (Int32.ofNat k).toInt = (k : Int) := Int32.toInt_ofNat_of_lt (by omega)
  have h2 : (Int32.ofNat k).toNatClampNeg = k := by show (Int32.ofNat k).toInt.toNat = k; rw [h1]; rfl
  unfold am_ri
  rw [hb]
  dsimp only
  rw [if_pos rfl, h2, if_neg]
  rintro (q | q)
  · have q := Int32.lt_iff_toInt_lt.mp q
    rw [h1] at q
    have h0 : (0 : Int32).toInt = 0 := rfl
    omega
  · omega
/-- the loop of many -/
theorem am_many_loop (hb : w.1 b = some (.inl (2, 144, .inl f))) : ∀ (j k : Nat) (c : Int32), j + k = 144 → ∃ v, am_run 37 13 [none, some (.int c), some (.ref b), some (.int (Int32.ofNat 144)), some (.int (Int32.ofNat k)), none] [] w = some (.inl (some (.int v)), w) ∧ ((∀ i, k ≤ i → i < 144 → f i = 0) → v = c) := by
  intro j
  induction j with
  | zero =>
    intro k c hk
    refine ⟨c, ?_, fun _ => rfl⟩
    have hk : k = 144 := by omega
    subst hk
    refine (am_u1 am_f37_13 rfl am_d37_15 rfl).trans ?_
    refine (am_u1 am_f37_15 rfl am_d37_16 rfl).trans ?_
    refine (am_u1 am_f37_16 rfl am_d37_44 rfl).trans ?_
    refine (am_u1 am_f37_44 rfl am_d37_45 rfl).trans ?_
    exact am_e2 am_f37_45 rfl (am_ge_rf w)
  | succ j ih =>
    intro k c hk
    have hlt : k < 144 := by omega
    have hne : ¬ (Int32.ofNat 144 ≤ Int32.ofNat k) := fun q => by have := (am_i_ge (by omega)).mp q; omega
    have hs16 : am_stp 16 (.if_icmp .ge 28) [] [none, some (.int c), some (.ref b), some (.int (Int32.ofNat 144)), some (.int (Int32.ofNat k)), none] [.int (Int32.ofNat 144), .int (Int32.ofNat k)] w = some (.inl (19, [none, some (.int c), some (.ref b), some (.int (Int32.ofNat 144)), some (.int (Int32.ofNat k)), none], [], w)) := by
      show am_br (decide (Int32.ofNat 144 ≤ Int32.ofNat k)) 16 28 _ _ w = _
      rw [decide_eq_false hne]
      rfl
    have hs22 : am_stp 22 .baload [2] [none, some (.int c), some (.ref b), some (.int (Int32.ofNat 144)), some (.int (Int32.ofNat k)), none] [.int (Int32.ofNat k), .ref b] w = some (.inl (23, [none, some (.int c), some (.ref b), some (.int (Int32.ofNat 144)), some (.int (Int32.ofNat k)), none], [.int (f k)], w)) := by
      show ((am_ri 2 w b (Int32.ofNat k)).bind fun x => am_nx 23 _ [.int x] w) = _
      rw [am_i_ri hb hlt]
      rfl
    have hend : ∀ d : Int32, am_run 37 36 [none, none, some (.ref b), some (.int (Int32.ofNat 144)), some (.int (Int32.ofNat k)), none] [.int d, .int c] w = am_run 37 13 [none, some (.int (c + d)), some (.ref b), some (.int (Int32.ofNat 144)), some (.int (Int32.ofNat (k + 1))), none] [] w := by
      intro d
      have hs38 : am_stp 38 (.iinc 4 1) [] [none, some (.int (c + d)), some (.ref b), some (.int (Int32.ofNat 144)), some (.int (Int32.ofNat k)), none] [] w = some (.inl (41, [none, some (.int (c + d)), some (.ref b), some (.int (Int32.ofNat 144)), some (.int (Int32.ofNat (k + 1))), none], [], w)) := by
        rw [← am_i_succ hlt]
        rfl
      refine (am_u1 am_f37_36 rfl am_d37_37 rfl).trans ?_
      refine (am_u1 am_f37_37 rfl am_d37_38 rfl).trans ?_
      refine (am_u1 am_f37_38 hs38 am_d37_41 rfl).trans ?_
      exact am_u1 am_f37_41 rfl am_d37_13 rfl
    have hhead : am_run 37 13 [none, some (.int c), some (.ref b), some (.int (Int32.ofNat 144)), some (.int (Int32.ofNat k)), none] [] w = am_run 37 28 [none, none, some (.ref b), some (.int (Int32.ofNat 144)), some (.int (Int32.ofNat k)), none] [.int (f k), .int c] w := by
      refine (am_u1 am_f37_13 rfl am_d37_15 rfl).trans ?_
      refine (am_u1 am_f37_15 rfl am_d37_16 rfl).trans ?_
      refine (am_u1 am_f37_16 hs16 am_d37_19 rfl).trans ?_
      refine (am_u1 am_f37_19 rfl am_d37_20 rfl).trans ?_
      refine (am_u1 am_f37_20 rfl am_d37_22 rfl).trans ?_
      refine (am_u1 am_f37_22 hs22 am_d37_23 rfl).trans ?_
      refine (am_u1 am_f37_23 rfl am_d37_25 rfl).trans ?_
      refine (am_u1 am_f37_25 rfl am_d37_26 rfl).trans ?_
      exact am_u1 am_f37_26 rfl am_d37_28 rfl
    by_cases hz : f k = 0
    · have hs28 : am_stp 28 (.ifCond .eq 7) [] [none, none, some (.ref b), some (.int (Int32.ofNat 144)), some (.int (Int32.ofNat k)), none] [.int (f k), .int c] w = some (.inl (35, [none, none, some (.ref b), some (.int (Int32.ofNat 144)), some (.int (Int32.ofNat k)), none], [.int c], w)) := by
        show am_br (decide (f k = 0)) 28 7 _ _ w = _
        rw [decide_eq_true hz]
        rfl
      obtain ⟨v, hv, hv2⟩ := ih (k + 1) (c + Int32.ofInt 0) (by omega)
      refine ⟨v, ?_, fun hall => ?_⟩
      · refine hhead.trans ?_
        refine (am_u1 am_f37_28 hs28 am_d37_35 rfl).trans ?_
        refine (am_u1 am_f37_35 rfl am_d37_36 rfl).trans ?_
        exact (hend _).trans hv
      · rw [hv2 fun i h1 h2 => hall i (by omega) h2]
        simp
    · have hs28 : am_stp 28 (.ifCond .eq 7) [] [none, none, some (.ref b), some (.int (Int32.ofNat 144)), some (.int (Int32.ofNat k)), none] [.int (f k), .int c] w = some (.inl (31, [none, none, some (.ref b), some (.int (Int32.ofNat 144)), some (.int (Int32.ofNat k)), none], [.int c], w)) := by
        show am_br (decide (f k = 0)) 28 7 _ _ w = _
        rw [decide_eq_false hz]
        rfl
      obtain ⟨v, hv, hv2⟩ := ih (k + 1) (c + Int32.ofInt 1) (by omega)
      refine ⟨v, ?_, fun hall => absurd (hall k (Nat.le_refl _) hlt) hz⟩
      refine hhead.trans ?_
      refine (am_u1 am_f37_28 hs28 am_d37_31 rfl).trans ?_
      refine (am_u1 am_f37_31 rfl am_d37_32 rfl).trans ?_
      refine (am_u1 am_f37_32 rfl am_d37_36 rfl).trans ?_
      exact (hend _).trans hv
theorem am_many_x (ha : am_gf w a 10 3 = some (.ref b)) (hb : w.1 b = some (.inl (2, 144, .inl f))) : ∃ v, am_x 37 [.ref a] w = some (.inl (some (.int v)), w) ∧ ((∀ i, i < 144 → f i = 0) → v = 0) := by
  obtain ⟨v, hv, hv2⟩ := am_many_loop hb 144 0 (Int32.ofInt 0) rfl
  refine ⟨v, ?_, fun hall => hv2 fun i _ h => hall i h⟩
  have he : am_ent 37 [.ref a] = [some (.ref a), none, none, none, none, none] := by
    have hm : am_ml 37 = 6 := by decide +kernel
    unfold am_ent am_nrm
    rw [am_d37_0, hm]
    rfl
  have hs3 : am_stp 3 (.getfield 9) [0, 10, 3, 1302] [none, some (.int (Int32.ofInt 0)), none, none, none, none] [.ref a] w = some (.inl (6, [none, some (.int (Int32.ofInt 0)), none, none, none, none], [.ref b], w)) := by
    show ((am_gf w a 10 3).bind fun v => am_nx 6 _ [v] w) = _
    rw [ha]
    rfl
  have hs8 : am_stp 8 .arraylength [] [none, some (.int (Int32.ofInt 0)), some (.ref b), none, none, none] [.ref b] w = some (.inl (9, [none, some (.int (Int32.ofInt 0)), some (.ref b), none, none, none], [.int (Int32.ofNat 144)], w)) := by
    show ((am_len w b).bind fun n => am_nx 9 _ [.int (Int32.ofNat n)] w) = _
    have : am_len w b = some 144 := by
      unfold am_len
      rw [hb]
      rfl
    rw [this]
    rfl
  unfold am_x
  rw [he]
  refine (am_u1 am_f37_0 rfl am_d37_1 rfl).trans ?_
  refine (am_u1 am_f37_1 rfl am_d37_2 rfl).trans ?_
  refine (am_u1 am_f37_2 rfl am_d37_3 rfl).trans ?_
  show am_run 37 3 [none, some (.int (Int32.ofInt 0)), none, none, none, none] [.ref a] w = _
  refine (am_u1 am_f37_3 hs3 am_d37_6 rfl).trans ?_
  refine (am_u1 am_f37_6 rfl am_d37_7 rfl).trans ?_
  refine (am_u1 am_f37_7 rfl am_d37_8 rfl).trans ?_
  show am_run 37 8 [none, some (.int (Int32.ofInt 0)), some (.ref b), none, none, none] [.ref b] w = _
  refine (am_u1 am_f37_8 hs8 am_d37_9 rfl).trans ?_
  refine (am_u1 am_f37_9 rfl am_d37_10 rfl).trans ?_
  refine (am_u1 am_f37_10 rfl am_d37_11 rfl).trans ?_
  refine (am_u1 am_f37_11 rfl am_d37_13 rfl).trans ?_
  exact hv
/-- the loop of sure -/
theorem am_sure_loop (ha : am_gf w a 10 3 = some (.ref b)) (hb : w.1 b = some (.inl (2, 144, .inl f))) : ∀ (j k : Nat), j + k = 144 → (∃ i, k ≤ i ∧ i < 144 ∧ f i ≠ 0) → ∃ i, i < 144 ∧ am_run 95 12 [some (.ref a), some (.int (Int32.ofNat k))] [] w = some (.inl (some (.int (Int32.ofNat i))), w) := by
  intro j
  induction j with
  | zero => intro k hk ⟨i, h1, h2, _⟩; omega
  | succ j ih =>
    intro k hk ⟨i, h1, h2, h3⟩
    have hlt : k < 144 := by omega
    have hs13 : am_stp 13 (.getfield 9) [0, 10, 3, 1302] [some (.ref a), some (.int (Int32.ofNat k))] [.ref a] w = some (.inl (16, [some (.ref a), some (.int (Int32.ofNat k))], [.ref b], w)) := by
      show ((am_gf w a 10 3).bind fun v => am_nx 16 _ [v] w) = _
      rw [ha]
      rfl
    have hs17 : am_stp 17 .baload [2] [some (.ref a), some (.int (Int32.ofNat k))] [.int (Int32.ofNat k), .ref b] w = some (.inl (18, [some (.ref a), some (.int (Int32.ofNat k))], [.int (f k)], w)) := by
      show ((am_ri 2 w b (Int32.ofNat k)).bind fun x => am_nx 18 _ [.int x] w) = _
      rw [am_i_ri hb hlt]
      rfl
    have hhead : am_run 95 12 [some (.ref a), some (.int (Int32.ofNat k))] [] w = am_run 95 18 [some (.ref a), some (.int (Int32.ofNat k))] [.int (f k)] w := by
      refine (am_u1 am_f95_12 rfl am_d95_13 rfl).trans ?_
      refine (am_u1 am_f95_13 hs13 am_d95_16 rfl).trans ?_
      refine (am_u1 am_f95_16 rfl am_d95_17 rfl).trans ?_
      exact am_u1 am_f95_17 hs17 am_d95_18 rfl
    by_cases hz : f k = 0
    · have hs18 : am_stp 18 (.ifCond .ne 9) [] [some (.ref a), some (.int (Int32.ofNat k))] [.int (f k)] w = some (.inl (21, [some (.ref a), some (.int (Int32.ofNat k))], [], w)) := by
        show am_br (decide (¬ f k = 0)) 18 9 _ _ w = _
        rw [decide_eq_false (fun q => q hz)]
        rfl
      have hs21 : am_stp 21 (.iinc 1 1) [] [some (.ref a), some (.int (Int32.ofNat k))] [] w = some (.inl (24, [some (.ref a), some (.int (Int32.ofNat (k + 1)))], [], w)) := by
        rw [← am_i_succ hlt]
        rfl
      have hik : i ≠ k := fun q => by subst q; exact h3 hz
      obtain ⟨i', hi', hr⟩ := ih (k + 1) (by omega) ⟨i, by omega, h2, h3⟩
      refine ⟨i', hi', hhead.trans ?_⟩
      refine (am_u1 am_f95_18 hs18 am_d95_21 rfl).trans ?_
      refine (am_u1 am_f95_21 hs21 am_d95_24 rfl).trans ?_
      refine (am_u1 am_f95_24 rfl am_d95_12 rfl).trans ?_
      exact hr
    · have hs18 : am_stp 18 (.ifCond .ne 9) [] [some (.ref a), some (.int (Int32.ofNat k))] [.int (f k)] w = some (.inl (27, [some (.ref a), some (.int (Int32.ofNat k))], [], w)) := by
        show am_br (decide (¬ f k = 0)) 18 9 _ _ w = _
        rw [decide_eq_true hz]
        rfl
      refine ⟨k, hlt, hhead.trans ?_⟩
      refine (am_u1 am_f95_18 hs18 am_d95_27 rfl).trans ?_
      refine (am_u1 am_f95_27 rfl am_d95_28 rfl).trans ?_
      exact am_e2 am_f95_28 rfl (am_ge_rf w)
theorem am_sure_run (ha : am_gf w a 10 3 = some (.ref b)) (hk : am_kf w a 10 = some ()) (hb : w.1 b = some (.inl (2, 144, .inl f))) : ∃ v : Int32, am_run 95 0 [some (.ref a), none] [] w = some (.inl (some (.int v)), w) ∧ (v = Int32.ofInt (-1) ∨ ∃ i, i < 144 ∧ v = Int32.ofNat i) := by
  obtain ⟨v, hv, hv2⟩ := am_many_x ha hb
  have hs1 : am_stp 1 (.invokevirtual 20) [0, 37, 0, 10, 1403, 1404, 1405, 66] [some (.ref a), none] [.ref a] w = some (.inr (.inl (37, [.ref a], 4, []))) := by
    rw [am_q_virt (by decide)]
    show (if (0 : Nat) ≤ 1 ∧ am_sz [] ≤ 8 then (am_kf w a 10).bind _ else none) = _
    rw [if_pos (by decide), hk]
    rfl
  have hcall : am_run 95 1 [some (.ref a), none] [.ref a] w = am_run 95 4 [some (.ref a), none] [.int v] w := by
    rw [am_ek am_f95_1 hs1 (by decide +kernel) (show 1 ≤ am_ml 37 by decide +kernel), hv]
    show am_run 95 4 (am_nrm 95 4 [some (.ref a), none]) [.int v] w = _
    unfold am_nrm
    rw [am_d95_4]
    rfl
  by_cases h1 : v = Int32.ofInt 1
  · have hex : ∃ i, 0 ≤ i ∧ i < 144 ∧ f i ≠ 0 := by
      by_cases hh : ∃ i, 0 ≤ i ∧ i < 144 ∧ f i ≠ 0
      · exact hh
      · exfalso
        have h0 := hv2 fun i hi => by
          by_cases hz : f i = 0
          · exact hz
          · exact absurd ⟨i, Nat.zero_le _, hi, hz⟩ hh
        rw [h0] at h1
        exact absurd h1 (by decide)
    obtain ⟨i, hi, hr⟩ := am_sure_loop ha hb 144 0 rfl hex
    refine ⟨_, ?_, Or.inr ⟨i, hi, rfl⟩⟩
    have hs5 : am_stp 5 (.if_icmp .eq 5) [] [some (.ref a), none] [.int (Int32.ofInt 1), .int v] w = some (.inl (10, [some (.ref a), none], [], w)) := by
      show am_br (decide (v = Int32.ofInt 1)) 5 5 _ _ w = _
      rw [decide_eq_true h1]
      rfl
    refine (am_u1 am_f95_0 rfl am_d95_1 rfl).trans ?_
    refine hcall.trans ?_
    refine (am_u1 am_f95_4 rfl am_d95_5 rfl).trans ?_
    refine (am_u1 am_f95_5 hs5 am_d95_10 rfl).trans ?_
    refine (am_u1 am_f95_10 rfl am_d95_11 rfl).trans ?_
    refine (am_u1 am_f95_11 rfl am_d95_12 rfl).trans ?_
    exact hr
  · refine ⟨Int32.ofInt (-1), ?_, Or.inl rfl⟩
    have hs5 : am_stp 5 (.if_icmp .eq 5) [] [some (.ref a), none] [.int (Int32.ofInt 1), .int v] w = some (.inl (8, [some (.ref a), none], [], w)) := by
      show am_br (decide (v = Int32.ofInt 1)) 5 5 _ _ w = _
      rw [decide_eq_false h1]
      rfl
    refine (am_u1 am_f95_0 rfl am_d95_1 rfl).trans ?_
    refine hcall.trans ?_
    refine (am_u1 am_f95_4 rfl am_d95_5 rfl).trans ?_
    refine (am_u1 am_f95_5 hs5 am_d95_8 rfl).trans ?_
    refine (am_u1 am_f95_8 rfl am_d95_9 rfl).trans ?_
    exact am_e2 am_f95_9 rfl (am_ge_rf w)
end AMSU
