section
/-! WHAT THE PREMISES GIVE of what stood there before the law: out of narrow_1. Mine (laid by wip/gen/given.py). -/
/-- the literals: owner, number in its pool, bytes, role (29: not asked for), role of the bytes -/
def am_sq : List (String × Nat × List Int32 × Nat × Nat) := [
  ("Bumpward", 340, [97, 110, 32, 97, 114, 103, 117, 109, 101, 110, 116, 32, 100, 111, 101, 115, 32, 110, 111, 116, 32, 102, 105, 116], 17, 71),
  ("Bumpward", 343, [116, 104, 101, 114, 101, 32, 105, 115, 32, 110, 111, 32, 115, 117, 99, 104, 32, 99, 101, 108, 108], 18, 76),
  ("Bumpward", 345, [116, 104, 101, 114, 101, 32, 105, 115, 32, 110, 111, 32, 115, 117, 99, 104, 32, 115, 105, 100, 101], 19, 76),
  ("Bumpward", 347, [116, 104, 101, 114, 101, 32, 105, 115, 32, 110, 111, 32, 115, 117, 99, 104, 32, 119, 97, 108, 107, 101, 114], 20, 77),
  ("Bumpward", 81, [116, 104, 101, 114, 101, 32, 105, 115, 32, 110, 111, 32, 114, 111, 111, 109, 32, 102, 111, 114, 32, 97, 110, 111, 116, 104, 101, 114, 32, 119, 97, 108, 107, 101, 114], 10, 70),
  ("Bumpward", 349, [116, 104, 101, 32, 119, 97, 108, 107, 101, 114, 32, 104, 97, 115, 32, 110, 111, 32, 99, 104, 97, 114, 103, 101], 21, 71),
  ("Bumpward", 351, [116, 104, 101, 32, 97, 99, 116, 32, 105, 115, 32, 110, 111, 116, 32, 115, 97, 102, 101], 22, 78),
  ("Bumpward", 353, [116, 104, 101, 114, 101, 32, 97, 114, 101, 32, 110, 111, 32, 109, 105, 110, 117, 116, 101, 115, 32, 108, 101, 102, 116], 23, 79),
  ("Bumpward", 101, [116, 104, 101, 32, 99, 101, 108, 108, 32, 97, 104, 101, 97, 100, 32, 105, 115, 32, 98, 97, 114, 114, 101, 100], 11, 71),
  ("Bumpward", 156, [116, 104, 101, 32, 119, 97, 108, 107, 101, 114, 32, 105, 115, 32, 110, 111, 116, 32, 105, 110, 32, 105, 116, 115, 32, 104, 111, 109, 101], 12, 72),
  ("Bumpward", 171, [116, 104, 101, 115, 101, 32, 119, 97, 108, 107, 101, 114, 115, 32, 99, 97, 110, 32, 110, 111, 116, 32, 109, 101, 101, 116], 13, 73),
  ("Bumpward", 195, [116, 104, 101, 114, 101, 32, 97, 114, 101, 32, 110, 111, 116, 32, 115, 111, 32, 109, 97, 110, 121, 32, 109, 105, 110, 117, 116, 101, 115, 32, 108, 101, 102, 116], 14, 74),
  ("Bumpward", 225, [116, 104, 101, 114, 101, 32, 105, 115, 32, 110, 111, 32, 115, 117, 99, 104, 32, 114, 111, 119], 15, 75),
  ("java/util/Arrays", 337, [32, 62, 32], 29, 82),
  ("Bumpward", 249, [116, 104, 101, 114, 101, 32, 105, 115, 32, 110, 111, 32, 115, 117, 99, 104, 32, 112, 111, 115, 101], 16, 76),
  ("BumpwardModel", 239, [], 24, 80),
  ("BumpwardModel", 250, [120], 25, 81),
  ("BumpwardModel", 252, [99], 26, 81),
  ("BumpwardModel", 254, [46], 27, 81),
  ("BumpwardModel", 260, [32, 124, 47], 28, 82)]
def am_s0 : String × Nat × List Int32 × Nat × Nat := ("", 0, [], 29, 99)
def am_sq1 (i : Nat) : String × Nat × List Int32 × Nat × Nat := am_sq.getD i am_s0
def am_tm (q : String × Nat × List Int32 × Nat × Nat) : Term := .string q.1 q.2.1
def am_tv (q : String × Nat × List Int32 × Nat × Nat) : Term := .field (am_tm q) "java/lang/String" "value" "[B"
def am_blk (q : String × Nat × List Int32 × Nat × Nat) : List Cond := [.exactly (am_tm q) "java/lang/String", .eq (.field (am_tm q) "java/lang/String" "coder" "B") (.int 0), .arrayOf (am_tv q) .byte, .eq (.length (am_tv q)) (.int (Int32.ofNat q.2.2.1.length))] ++ (List.range q.2.2.1.length).map fun j => .eq (.elem (am_tv q) (.int (Int32.ofNat j))) (.int (q.2.2.1.getD j 0))
def am_tO : Term := .static "Bumpward$Grid" "OUTER" "[J"
def am_tE : Term := .static "java/util/ArrayList" "DEFAULTCAPACITY_EMPTY_ELEMENTDATA" "[Ljava/lang/Object;"
def am_tD : Term := .static "java/lang/Integer" "DigitOnes" "[B"
def am_tT : Term := .static "java/lang/Integer" "DigitTens" "[B"
def am_tP : Term := .static "jdk/internal/util/Preconditions" "SIOOBE_FORMATTER" "Ljava/util/function/BiFunction;"
def am_fO (j : Nat) : Int64 := [63, 34905131040, 67645734912, 1090785345].getD j 0
def am_fD (j : Nat) : Int32 := Int32.ofNat (48 + j % 10)
def am_gst : List Cond := [.isRef (.static "java/lang/Throwable" "UNASSIGNED_STACK" "[Ljava/lang/StackTraceElement;"), .isRef (.static "java/lang/Throwable" "SUPPRESSED_SENTINEL" "Ljava/util/List;"),
  .isRef am_tO, .arrayOf am_tO .long, .eq (.length am_tO) (.int 4)] ++ ((List.range 4).map fun j => .eq (.elem am_tO (.int (Int32.ofNat j))) (.long (am_fO j))) ++
  [.eq (.static "java/lang/String" "COMPACT_STRINGS" "Z") (.int 1), .isRef am_tP, .isRef am_tD, .arrayOf am_tD .byte, .eq (.length am_tD) (.int 100)] ++ ((List.range 100).map fun j => .eq (.elem am_tD (.int (Int32.ofNat j))) (.int (am_fD j))) ++
  [.isRef am_tT, .isRef am_tE, .arrayOf am_tE (.object "java/lang/Object"), .eq (.length am_tE) (.int 0)]
def am_gsr : List Cond := (List.range 20).flatMap fun j => am_blk (am_sq1 j) ++ (List.range j).map fun i => .not (.eq (am_tm (am_sq1 i)) (am_tm (am_sq1 j)))
def am_sbl : List Cond → List Cond → Bool
  | [], _ => true
  | _ :: _, [] => false
  | a :: s, b :: t => if a = b then am_sbl s t else am_sbl (a :: s) t
theorem am_sbl_ok : ∀ {a b : List Cond}, am_sbl a b = true → ∀ w ∈ a, w ∈ b
  | [], _, _, w, hw => by cases hw
  | _ :: _, [], h, _, _ => by cases h
  | a :: s, b :: t, h, w, hw => by
    unfold am_sbl at h
    split at h
    · rename_i e
      subst e
      rcases List.mem_cons.mp hw with rfl | hw
      · exact List.mem_cons_self
      · exact List.mem_cons_of_mem _ (am_sbl_ok h w hw)
    · exact List.mem_cons_of_mem _ (am_sbl_ok h w hw)
theorem am_gst_in : am_sbl am_gst (Jvm.Free.XT.flat narrow_1) = true := by decide +kernel
theorem am_gsr_in : am_sbl am_gsr (Jvm.Free.XT.flat narrow_1) = true := by decide +kernel
theorem am_gx_in : [Cond.exactly am_tO "[J"].all (fun w => decide (w ∈ Jvm.Free.XT.flat narrow_1)) = true := by decide +kernel
theorem am_given {args : Array Value} {s : State} (h : (Jvm.Cond.and given_1 narrow_1).before args s = true) : ∀ w, w ∈ am_gst ∨ w ∈ am_gsr ∨ w = Cond.exactly am_tO "[J" → w.before args s = true := by
  rw [Cond.before_and, Bool.and_eq_true] at h
  have hs := flat_of_before _ h.2
  intro w hw
  rcases hw with hw | hw | rfl
  · exact hs w (am_sbl_ok am_gst_in w hw)
  · exact hs w (am_sbl_ok am_gsr_in w hw)
  · have := List.all_eq_true.mp am_gx_in _ (List.mem_singleton.mpr rfl)
    exact hs _ (of_decide_eq_true this)
end
section
/-! THE START: the literals and statics that stood there before the law. Mine. -/
section AMST
variable {args : Array Value} {s : State}
theorem am_nA (s : State) : ∀ a : Nat, a < s.heap.size → ¬ am_A s.heap.size a := fun _ h q => Nat.not_le.mpr h q
def am_lns : List Nat := am_sq.map fun q => q.2.2.1.length
def am_bts : List (List Int32) := am_sq.map fun q => q.2.2.1
theorem am_lns_at : ∀ i, i < 20 → am_lns.getD i 0 = (am_sq1 i).2.2.1.length := by decide +kernel
theorem am_bts_at {i : Nat} (h : i < 20) : am_bts.getD i [] = (am_sq1 i).2.2.1 := by
  have hl : am_sq.length = 20 := by decide +kernel
  unfold am_bts am_sq1
  rw [List.getD_eq_getElem?_getD, List.getD_eq_getElem?_getD, List.getElem?_map, List.getElem?_eq_getElem (by rw [hl]; exact h)]
  rfl
theorem am_lns_sm : ∀ i, i < 20 → am_lns.getD i 0 < 2 ^ 31 := by decide +kernel
theorem am_blk_at {i : Nat} (hi : i < 20) {w : Cond} (hw : w ∈ am_blk (am_sq1 i)) : w ∈ am_gsr := List.mem_flatMap.mpr ⟨i, List.mem_range.mpr hi, List.mem_append_left _ hw⟩
theorem am_ne_at {i j : Nat} (hj : j < 20) (hij : i < j) : Cond.not (.eq (am_tm (am_sq1 i)) (am_tm (am_sq1 j))) ∈ am_gsr := List.mem_flatMap.mpr ⟨j, List.mem_range.mpr hj, List.mem_append_right _ (List.mem_map.mpr ⟨i, List.mem_range.mpr hij, rfl⟩)⟩
theorem am_lit (h : (Jvm.Cond.and given_1 narrow_1).before args s = true) : ∃ K V : Nat → Nat, vk_S 20 am_lns am_bts K V (am_A s.heap.size) s s.heap ∧ ∀ i : Nat, i < 20 → (am_tm (am_sq1 i)).eval args s none [] s = some (.ref (K i)) := by
  have hg := am_given h
  have hB : ∀ (i : Nat), i < 20 → ∀ w, w ∈ am_blk (am_sq1 i) → w.before args s = true := fun i hi w hw => hg w (Or.inr (Or.inl (am_blk_at hi hw)))
  refine vk_Sof (tm := fun i => am_tm (am_sq1 i)) am_lns_sm (fun i hi => hB i hi _ ?_) (fun i hi => hB i hi _ ?_) (fun i hi => hB i hi _ ?_) (fun i hi => hB i hi _ ?_) (fun i hi j hj => hB i hi _ ?_) (fun i j hi hj hij => ?_) (am_nA s)
  · exact List.mem_append_left _ (List.mem_cons_self)
  · exact List.mem_append_left _ (List.mem_cons_of_mem _ List.mem_cons_self)
  · exact List.mem_append_left _ (List.mem_cons_of_mem _ (List.mem_cons_of_mem _ List.mem_cons_self))
  · rw [am_lns_at i hi]
    exact List.mem_append_left _ (List.mem_cons_of_mem _ (List.mem_cons_of_mem _ (List.mem_cons_of_mem _ List.mem_cons_self)))
  · rw [am_lns_at i hi] at hj
    rw [am_bts_at hi]
    exact List.mem_append_right _ (List.mem_map.mpr ⟨j, List.mem_range.mpr hj, rfl⟩)
  · rcases Nat.lt_or_gt_of_ne hij with q | q
    · exact Or.inl (hg _ (Or.inr (Or.inl (am_ne_at hj q))))
    · exact Or.inr (hg _ (Or.inr (Or.inl (am_ne_at hi q))))
theorem am_len_ex {t : Term} {N a : Nat} (hN : N < 2 ^ 31) (h : (Term.length t).eval args s none [] s = some (.int (Int32.ofNat N))) (ht : t.eval args s none [] s = some (.ref a)) : ∃ cell : Cell, s.heap[a]? = some cell ∧ cell.slots.size = N := by
  simp only [Term.eval, Option.bind_eq_bind] at h
  simp [ht] at h
  obtain ⟨cell, hcell, h⟩ := Option.bind_eq_some_iff.mp h
  by_cases hn : cell.slots.size < 2147483648
  · rw [if_pos hn] at h
    have h2 : cell.slots.size.toInt32 = Int32.ofNat N := Value.int.inj (Option.some.inj h)
    refine ⟨cell, (State.arrayAt?_spec hcell).1, ?_⟩
    have e1 : (cell.slots.size.toInt32).toNatClampNeg = cell.slots.size := Int32.toNatClampNeg_ofNat_of_lt hn
    have e2 : (Int32.ofNat N).toNatClampNeg = N := Int32.toNatClampNeg_ofNat_of_lt hN
    rw [h2] at e1
    omega
  · rw [if_neg hn] at h; cases h
theorem am_lay {C n d : String} (hts : ∀ w ∈ lw_tbl, w.before args s = true) (h1 : decide (Cond.laysStatic C n d ∈ lw_tbl) = true) (h2 : decide (Cond.initialized C ∈ lw_tbl) = true) : (Cond.laysStatic C n d).before args s = true ∧ (Cond.initialized C).before args s = true := ⟨hts _ (of_decide_eq_true h1), hts _ (of_decide_eq_true h2)⟩
theorem am_stO (hts : ∀ w ∈ lw_tbl, w.before args s = true) (h : (Jvm.Cond.and given_1 narrow_1).before args s = true) : ∃ o : Nat, va_Z "Bumpward$Grid" "OUTER" "[J" (.ref o) (am_A s.heap.size) s s.heap ∧ va_T .long o 4 (fun j => .long (am_fO j)) (am_A s.heap.size) s s.heap ∧ ∃ cell : Cell, s.heap[o]? = some cell ∧ cell.slots.size = 4 ∧ s.vm.findClass "[J" = some cell.cls := by
  have hg := am_given h
  have hq : ∀ w, w ∈ am_gst → w.before args s = true := fun w hw => hg w (Or.inl hw)
  have hlen := va_eqt (hq (.eq (.length am_tO) (.int 4)) (by simp [am_gst]))
  obtain ⟨o, ho, hT⟩ := va_Tof (tm := am_tO) (ty := .long) (N := 4) (f := fun j => .long (am_fO j)) (A := am_A s.heap.size) (by decide) (hq _ (by simp [am_gst])) hlen (fun j hj => va_eqtl (hq _ (List.mem_append_left _ (List.mem_append_left _ (List.mem_append_left _ (List.mem_append_right _ (List.mem_map.mpr ⟨j, List.mem_range.mpr hj, rfl⟩))))))) (am_nA s)
  obtain ⟨l1, l2⟩ := am_lay hts (C := "Bumpward$Grid") (n := "OUTER") (d := "[J") (by decide +kernel) (by decide +kernel)
  refine ⟨o, va_Zof l1 l2 ho (am_nA s), hT, ?_⟩
  obtain ⟨a2, c, cA, kA, q1, q2, q3, q4, q5, q6, -⟩ := Cond.exactly_spec (args := args) (first := s) (o := none) (s := s) (idx := []) (t := am_tO) (cls := "[J") (hg _ (Or.inr (Or.inr rfl)))
  cases ho.symm.trans q1
  obtain ⟨cB, r1, r2⟩ := am_len_ex (N := 4) (by decide) hlen ho
  cases q3.symm.trans r1
  exact ⟨_, q3, r2, by rw [q6]; exact q2⟩
theorem am_stD (hts : ∀ w ∈ lw_tbl, w.before args s = true) (h : (Jvm.Cond.and given_1 narrow_1).before args s = true) : ∃ o : Nat, va_Z "java/lang/Integer" "DigitOnes" "[B" (.ref o) (am_A s.heap.size) s s.heap ∧ va_T .byte o 100 (fun j => .int (am_fD j)) (am_A s.heap.size) s s.heap := by
  have hg := am_given h
  have hq : ∀ w, w ∈ am_gst → w.before args s = true := fun w hw => hg w (Or.inl hw)
  obtain ⟨o, ho, hT⟩ := va_Tof (tm := am_tD) (ty := .byte) (N := 100) (f := fun j => .int (am_fD j)) (A := am_A s.heap.size) (by decide) (hq _ (by simp [am_gst])) (va_eqt (hq (.eq (.length am_tD) (.int 100)) (by simp [am_gst]))) (fun j hj => va_eqt (hq _ (List.mem_append_left _ (List.mem_append_right _ (List.mem_map.mpr ⟨j, List.mem_range.mpr hj, rfl⟩))))) (am_nA s)
  obtain ⟨l1, l2⟩ := am_lay hts (C := "java/lang/Integer") (n := "DigitOnes") (d := "[B") (by decide +kernel) (by decide +kernel)
  exact ⟨o, va_Zof l1 l2 ho (am_nA s), hT⟩
theorem am_stE (hts : ∀ w ∈ lw_tbl, w.before args s = true) (h : (Jvm.Cond.and given_1 narrow_1).before args s = true) : ∃ o : Nat, va_Z "java/util/ArrayList" "DEFAULTCAPACITY_EMPTY_ELEMENTDATA" "[Ljava/lang/Object;" (.ref o) (am_A s.heap.size) s s.heap ∧ va_T (.object "java/lang/Object") o 0 (fun _ => .null) (am_A s.heap.size) s s.heap := by
  have hg := am_given h
  have hq : ∀ w, w ∈ am_gst → w.before args s = true := fun w hw => hg w (Or.inl hw)
  obtain ⟨o, ho, hT⟩ := va_Tof (tm := am_tE) (ty := .object "java/lang/Object") (N := 0) (f := fun _ => .null) (A := am_A s.heap.size) (by decide) (hq _ (by simp [am_gst])) (va_eqt (hq (.eq (.length am_tE) (.int 0)) (by simp [am_gst]))) (fun j hj => absurd hj (Nat.not_lt_zero j)) (am_nA s)
  obtain ⟨l1, l2⟩ := am_lay hts (C := "java/util/ArrayList") (n := "DEFAULTCAPACITY_EMPTY_ELEMENTDATA") (d := "[Ljava/lang/Object;") (by decide +kernel) (by decide +kernel)
  exact ⟨o, va_Zof l1 l2 ho (am_nA s), hT⟩
theorem am_zq {C n d : String} {A : Nat → Prop} {H : Heap} (h : va_Zq C n d A s H) : ∃ x : Option Nat, va_Z C n d (va_rf x) A s H := by
  rcases h with h | ⟨t, h⟩
  · exact ⟨none, h⟩
  · exact ⟨some t, h⟩
theorem am_stT (hts : ∀ w ∈ lw_tbl, w.before args s = true) (h : (Jvm.Cond.and given_1 narrow_1).before args s = true) : ∃ x : Option Nat, va_Z "java/lang/Integer" "DigitTens" "[B" (va_rf x) (am_A s.heap.size) s s.heap := by
  obtain ⟨l1, l2⟩ := am_lay hts (C := "java/lang/Integer") (n := "DigitTens") (d := "[B") (by decide +kernel) (by decide +kernel)
  exact am_zq (va_Zqof l1 l2 (am_given h _ (Or.inl (by simp [am_gst, am_tT]))) (am_nA s))
theorem am_stP (hts : ∀ w ∈ lw_tbl, w.before args s = true) (h : (Jvm.Cond.and given_1 narrow_1).before args s = true) : ∃ x : Option Nat, va_Z "jdk/internal/util/Preconditions" "SIOOBE_FORMATTER" "Ljava/util/function/BiFunction;" (va_rf x) (am_A s.heap.size) s s.heap := by
  obtain ⟨l1, l2⟩ := am_lay hts (C := "jdk/internal/util/Preconditions") (n := "SIOOBE_FORMATTER") (d := "Ljava/util/function/BiFunction;") (by decide +kernel) (by decide +kernel)
  exact am_zq (va_Zqof l1 l2 (am_given h _ (Or.inl (by simp [am_gst, am_tP]))) (am_nA s))
theorem am_stC (hts : ∀ w ∈ lw_tbl, w.before args s = true) (h : (Jvm.Cond.and given_1 narrow_1).before args s = true) : va_Z "java/lang/String" "COMPACT_STRINGS" "Z" (.int 1) (am_A s.heap.size) s s.heap := by
  obtain ⟨l1, l2⟩ := am_lay hts (C := "java/lang/String") (n := "COMPACT_STRINGS") (d := "Z") (by decide +kernel) (by decide +kernel)
  exact va_Zof l1 l2 (va_eqi (am_given h _ (Or.inl (by simp [am_gst])))) (am_nA s)
theorem am_stU (hts : ∀ w ∈ lw_tbl, w.before args s = true) (h : (Jvm.Cond.and given_1 narrow_1).before args s = true) : vx_Zq Bundle.tN "UNASSIGNED_STACK" Bundle.steD (am_A s.heap.size) s s.heap ∧ vx_Zq Bundle.tN "SUPPRESSED_SENTINEL" Bundle.listD (am_A s.heap.size) s s.heap := by
  obtain ⟨l1, l2⟩ := am_lay hts (C := Bundle.tN) (n := "UNASSIGNED_STACK") (d := Bundle.steD) (by decide +kernel) (by decide +kernel)
  obtain ⟨l3, l4⟩ := am_lay hts (C := Bundle.tN) (n := "SUPPRESSED_SENTINEL") (d := Bundle.listD) (by decide +kernel) (by decide +kernel)
  exact ⟨vx_Zqof l1 l2 (am_given h _ (Or.inl List.mem_cons_self)) (am_nA s), vx_Zqof l3 l4 (am_given h _ (Or.inl (List.mem_cons_of_mem _ List.mem_cons_self))) (am_nA s)⟩
end AMST
end
section
/-! THE START: what is known of what stood there before, as roles and a first world. Mine. -/
section AMRH
variable {s : State} {o e d b n : Nat} {K V : Nat → Nat} {xs : Nat → Int32}
def am_six : List Nat := [0, 1, 2, 3, 4, 5, 6, 7, 8, 9, 10, 11, 12, 14, 15, 16, 17, 18, 19]
def am_gL (o e d : Nat) (K V : Nat → Nat) : List (Nat × Nat × am_En) :=
  [(o, 0, .inl (9, 4, .inr (.inl am_fO))), (e, 1, .inl (13, 0, .inr (.inr (.inr (.inr (fun _ => none)))))), (d, 2, .inl (11, 100, .inl am_fD))] ++
  (am_six.map (fun i => (K i, (am_sq1 i).2.2.2.1, .inr (12, [.ref (V i), .int 0]))) ++
   am_six.map (fun i => (V i, (am_sq1 i).2.2.2.2, .inl (11, (am_sq1 i).2.2.1.length, .inl (fun j => (am_sq1 i).2.2.1.getD j 0)))))
def am_fnd (L : List (Nat × Nat × am_En)) (a : Nat) : Option (Nat × Nat × am_En) := L.find? fun z => Nat.beq z.1 a
def am_rho (L : List (Nat × Nat × am_En)) (a : Nat) : Option Nat := (am_fnd L a).map fun z => z.2.1
def am_ixr (r : Nat) : Nat := (am_six.find? fun i => Nat.beq (am_sq1 i).2.2.2.1 r).getD 0
def am_ad (o e d : Nat) (K : Nat → Nat) (r : Nat) : Nat := if r = 0 then o else if r = 1 then e else if r = 2 then d else K (am_ixr r)
def am_s1g (o e d : Nat) (K : Nat → Nat) (x3 x4 : Option Nat) (r : Nat) : Option Nat := if r = 3 then x3 else if r = 4 then x4 else some (am_ad o e d K r)
def am_w1 (L : List (Nat × Nat × am_En)) (b n : Nat) (xs : Nat → Int32) (a : Nat) : Option am_En := if a = b then some (.inl (8, n, .inl xs)) else (am_fnd L a).map fun z => z.2.2
theorem am_fnd_in {L : List (Nat × Nat × am_En)} {a : Nat} {z : Nat × Nat × am_En} (h : am_fnd L a = some z) : z ∈ L ∧ z.1 = a := by
  refine ⟨List.mem_of_find?_eq_some h, ?_⟩
  have := List.find?_some h
  exact Nat.eq_of_beq_eq_true this
theorem am_fnd_ex {L : List (Nat × Nat × am_En)} {z : Nat × Nat × am_En} (h : z ∈ L) : ∃ z', am_fnd L z.1 = some z' := by
  cases hf : am_fnd L z.1 with
  | some z' => exact ⟨z', rfl⟩
  | none =>
    have := List.find?_eq_none.mp hf z h
    exact absurd (Nat.beq_refl z.1) this
/-- the entries, one by one -/
theorem am_gL_all {P : Nat × Nat × am_En → Prop} (h0 : P (o, 0, .inl (9, 4, .inr (.inl am_fO)))) (h1 : P (e, 1, .inl (13, 0, .inr (.inr (.inr (.inr (fun _ => none))))))) (h2 : P (d, 2, .inl (11, 100, .inl am_fD)))
    (h3 : ∀ i ∈ am_six, P (K i, (am_sq1 i).2.2.2.1, .inr (12, [.ref (V i), .int 0]))) (h4 : ∀ i ∈ am_six, P (V i, (am_sq1 i).2.2.2.2, .inl (11, (am_sq1 i).2.2.1.length, .inl (fun j => (am_sq1 i).2.2.1.getD j 0)))) : ∀ z ∈ am_gL o e d K V, P z := by
  intro z hz
  rcases List.mem_append.mp hz with hz | hz
  · simp only [List.mem_cons, List.not_mem_nil, or_false] at hz
    rcases hz with rfl | rfl | rfl
    · exact h0
    · exact h1
    · exact h2
  · rcases List.mem_append.mp hz with hz | hz
    · obtain ⟨i, hi, rfl⟩ := List.mem_map.mp hz
      exact h3 i hi
    · obtain ⟨i, hi, rfl⟩ := List.mem_map.mp hz
      exact h4 i hi
theorem am_gL_K {i : Nat} (hi : i ∈ am_six) : (K i, (am_sq1 i).2.2.2.1, (.inr (12, [.ref (V i), .int 0]) : am_En)) ∈ am_gL o e d K V := List.mem_append_right _ (List.mem_append_left _ (List.mem_map.mpr ⟨i, hi, rfl⟩))
theorem am_gL_V {i : Nat} (hi : i ∈ am_six) : (V i, (am_sq1 i).2.2.2.2, (.inl (11, (am_sq1 i).2.2.1.length, .inl (fun j => (am_sq1 i).2.2.1.getD j 0)) : am_En)) ∈ am_gL o e d K V := List.mem_append_right _ (List.mem_append_right _ (List.mem_map.mpr ⟨i, hi, rfl⟩))
theorem am_six_lt : ∀ i ∈ am_six, i < 20 := by decide
theorem am_ixr_at : ∀ i ∈ am_six, am_ixr (am_sq1 i).2.2.2.1 = i ∧ 10 ≤ (am_sq1 i).2.2.2.1 ∧ (am_sq1 i).2.2.2.1 < 30 := by decide +kernel
theorem am_rlb : ∀ i ∈ am_six, 30 ≤ (am_sq1 i).2.2.2.2 := by decide +kernel
end AMRH
end
section
/-! THE START: the roles stand. Mine. -/
section AMRI
variable {s : State} {o e d b n base : Nat} {K V : Nat → Nat} {xs : Nat → Int32}
def am_Giv (o e d : Nat) (K V : Nat → Nat) (base : Nat) (s : State) : Prop :=
  va_T .long o 4 (fun j => .long (am_fO j)) (am_A base) s s.heap ∧ (∃ cell : Cell, s.heap[o]? = some cell ∧ cell.slots.size = 4 ∧ s.vm.findClass "[J" = some cell.cls) ∧ va_T (.object "java/lang/Object") e 0 (fun _ => .null) (am_A base) s s.heap ∧
  va_T .byte d 100 (fun j => .int (am_fD j)) (am_A base) s s.heap ∧ vk_S 20 am_lns am_bts K V (am_A base) s s.heap ∧ ∃ c, ClassAt s "java/lang/String" c
theorem am_T_ty {ty1 ty2 : FieldType} {a n1 n2 : Nat} {f1 f2 : Nat → Value} {A : Nat → Prop} {H : Heap} (h1 : va_T ty1 a n1 f1 A s H) (h2 : va_T ty2 a n2 f2 A s H) : ty1 = ty2 ∧ (n1 < 2 ^ 31 → n2 < 2 ^ 31 → n1 = n2) := by
  obtain ⟨c1, p1, ⟨-, k1, q1, m1, r1⟩, -, -, z1, -⟩ := h1
  obtain ⟨c2, p2, ⟨-, k2, q2, m2, r2⟩, -, -, z2, -⟩ := h2
  cases p1.symm.trans p2
  cases q1.symm.trans q2
  have hk := r1.symm.trans r2
  refine ⟨by injection hk, fun g1 g2 => ?_⟩
  have e1 : (Int32.ofNat n1).toNatClampNeg = n1 := Int32.toNatClampNeg_ofNat_of_lt g1
  have e2 : (Int32.ofNat n2).toNatClampNeg = n2 := Int32.toNatClampNeg_ofNat_of_lt g2
  rw [← z1, z2, e2] at e1
  exact e1.symm
theorem am_T_O {ty : FieldType} {a n1 : Nat} {f1 : Nat → Value} {A : Nat → Prop} {H : Heap} (h1 : va_T ty a n1 f1 A s H) (h2 : va_O "java/lang/String" a A s H) (h3 : ∃ c, ClassAt s "java/lang/String" c) : False := by
  obtain ⟨c1, p1, ⟨-, k1, q1, m1, r1⟩, -⟩ := h1
  obtain ⟨c2, p2, -, p3, -⟩ := h2
  obtain ⟨c, g1, kC, g2, g3⟩ := h3
  cases p1.symm.trans p2
  cases p3.symm.trans g1
  cases q1.symm.trans g2
  rw [r1] at g3
  cases g3
def am_rln (n : Nat) : Nat := match am_sq.find? (fun q => Nat.beq q.2.2.1.length n) with
  | some q => q.2.2.2.2
  | none => 2
def am_rf (t n : Nat) : Nat := if t = 9 then 0 else if t = 13 then 1 else am_rln n
theorem am_rln_at : ∀ i ∈ am_six, am_rln (am_sq1 i).2.2.1.length = (am_sq1 i).2.2.2.2 := by decide +kernel
theorem am_rln_d : am_rln 100 = 2 := by decide +kernel
def am_ZF (K : Nat → Nat) (base : Nat) (s : State) (z : Nat × Nat × am_En) : Prop := match z.2.2 with
  | .inl (t, n, A) => (t = 9 ∨ t = 11 ∨ t = 13) ∧ n < 2 ^ 31 ∧ va_T (am_tyl (t % 8)) z.1 n (am_fv A) (am_A base) s s.heap ∧ z.2.1 = am_rf t n
  | .inr _ => va_O "java/lang/String" z.1 (am_A base) s s.heap ∧ ∃ i ∈ am_six, z.1 = K i ∧ z.2.1 = (am_sq1 i).2.2.2.1
theorem am_T_fv {ty : FieldType} {a n1 : Nat} {f1 f2 : Nat → Value} {A : Nat → Prop} {H : Heap} (h : va_T ty a n1 f1 A s H) (hf : ∀ j, j < n1 → f1 j = f2 j) : va_T ty a n1 f2 A s H := by
  obtain ⟨c1, p1, p2, p3, p4, p5, p6, p7⟩ := h
  exact ⟨c1, p1, p2, p3, p4, p5, fun j hj => by rw [← hf j hj]; exact p6 j hj, p7⟩
theorem am_ZF_all (h : am_Giv o e d K V base s) : ∀ z ∈ am_gL o e d K V, am_ZF K base s z := by
  obtain ⟨hO, -, hE, hD, hS, -⟩ := h
  refine am_gL_all ⟨Or.inl rfl, by decide, hO, rfl⟩ ⟨Or.inr (Or.inr rfl), by decide, hE, rfl⟩ ⟨Or.inr (Or.inl rfl), by decide, hD, am_rln_d.symm⟩ (fun i hi => ?_) (fun i hi => ?_)
  · exact ⟨(hS.1 i (am_six_lt i hi)).1, i, hi, rfl, rfl⟩
  · have h4 := (hS.1 i (am_six_lt i hi)).2.2.2
    rw [am_lns_at i (am_six_lt i hi), am_bts_at (am_six_lt i hi)] at h4
    have h5 := am_lns_sm i (am_six_lt i hi)
    rw [am_lns_at i (am_six_lt i hi)] at h5
    exact ⟨Or.inr (Or.inl rfl), h5, h4, (am_rln_at i hi).symm⟩
theorem am_hco (h : am_Giv o e d K V base s) : ∀ z ∈ am_gL o e d K V, ∀ z' ∈ am_gL o e d K V, z.1 = z'.1 → z.2.1 = z'.2.1 := by
  intro z hz z' hz' he
  have f1 := am_ZF_all h z hz
  have f2 := am_ZF_all h z' hz'
  obtain ⟨a, r, x⟩ := z
  obtain ⟨a', r', x'⟩ := z'
  have he : a = a' := he
  subst he
  obtain ⟨-, -, -, -, hS, hC⟩ := h
  match x, x', f1, f2 with
  | .inl (t, n, A), .inl (t', n', A'), ⟨g1, g2, g3, g4⟩, ⟨k1, k2, k3, k4⟩ =>
    obtain ⟨q1, q2⟩ := am_T_ty g3 k3
    have q2 := q2 g2 k2
    subst q2
    have ht : t = t' := by
      rcases g1 with rfl | rfl | rfl <;> rcases k1 with rfl | rfl | rfl <;> first | rfl | cases q1
    subst ht
    exact g4.trans k4.symm
  | .inl (t, n, A), .inr _, ⟨g1, g2, g3, g4⟩, ⟨k1, k2⟩ => exact (am_T_O g3 k1 hC).elim
  | .inr _, .inl (t, n, A), ⟨k1, k2⟩, ⟨g1, g2, g3, g4⟩ => exact (am_T_O g3 k1 hC).elim
  | .inr _, .inr _, ⟨g1, i, g2, g3, g4⟩, ⟨k1, j, k2, k3, k4⟩ =>
    have g3 : a = K i := g3
    have k3 : a = K j := k3
    have hij := hS.2 i j (am_six_lt i g2) (am_six_lt j k2) (g3.symm.trans k3)
    subst hij
    exact g4.trans k4.symm
theorem am_rho_at (h : am_Giv o e d K V base s) {z : Nat × Nat × am_En} (hz : z ∈ am_gL o e d K V) : am_rho (am_gL o e d K V) z.1 = some z.2.1 := by
  obtain ⟨z', hf⟩ := am_fnd_ex hz
  obtain ⟨h1, h2⟩ := am_fnd_in hf
  unfold am_rho
  rw [hf]
  exact congrArg some (am_hco h z' h1 z hz h2)
theorem am_X_T (hX : va_X b n xs s s.heap) (hb : b < s.heap.size) : va_T .int b n (fun j => .int (xs j)) (am_A s.heap.size) s s.heap := by
  obtain ⟨scr, h1, h2, h3, h4, h5⟩ := hX
  exact ⟨scr, h1, h2, h3, (by omega), congrArg Nat.toInt32 h4, h5, am_nA s b hb⟩
theorem am_hnb (h : am_Giv o e d K V base s) (hX : va_T .int b n (fun j => .int (xs j)) (am_A base) s s.heap) : ∀ z ∈ am_gL o e d K V, z.1 ≠ b := by
  intro z hz he
  have f1 := am_ZF_all h z hz
  obtain ⟨a, r, x⟩ := z
  have he : a = b := he
  subst he
  match x, f1 with
  | .inl (t, n, A), ⟨g1, g2, g3, g4⟩ =>
    obtain ⟨q1, -⟩ := am_T_ty g3 hX
    rcases g1 with rfl | rfl | rfl <;> cases q1
  | .inr _, ⟨k1, k2⟩ => exact am_T_O hX k1 h.2.2.2.2.2
theorem am_w1_lt (h : am_Giv o e d K V s.heap.size s) (hX : va_T .int b n (fun j => .int (xs j)) (am_A s.heap.size) s s.heap) {a : Nat} {x : am_En} (hx : am_w1 (am_gL o e d K V) b n xs a = some x) : a < s.heap.size := by
  unfold am_w1 at hx
  split at hx
  · rename_i hab
    subst hab
    obtain ⟨c, h1, -⟩ := hX
    exact (Array.getElem?_eq_some_iff.mp h1).1
  · obtain ⟨z, hf, rfl⟩ := Option.map_eq_some_iff.mp hx
    obtain ⟨hz, rfl⟩ := am_fnd_in hf
    have f1 := am_ZF_all h z hz
    obtain ⟨a, r, x⟩ := z
    match x, f1 with
    | .inl (t, n, A), ⟨g1, g2, ⟨c, h1, _⟩, g4⟩ => exact (Array.getElem?_eq_some_iff.mp h1).1
    | .inr _, ⟨⟨c, h1, _⟩, k2⟩ => exact (Array.getElem?_eq_some_iff.mp h1).1
/-! what stands in the first world -/
theorem am_w1_in (h : am_Giv o e d K V base s) (hX : va_T .int b n (fun j => .int (xs j)) (am_A base) s s.heap) {z : Nat × Nat × am_En} (hz : z ∈ am_gL o e d K V) : ∃ z' ∈ am_gL o e d K V, am_w1 (am_gL o e d K V) b n xs z.1 = some z'.2.2 ∧ z'.2.1 = z.2.1 := by
  obtain ⟨z', hf⟩ := am_fnd_ex hz
  obtain ⟨h1, h2⟩ := am_fnd_in hf
  refine ⟨z', h1, ?_, am_hco h z' h1 z hz h2⟩
  unfold am_w1
  rw [if_neg (am_hnb h hX z hz), hf]
  rfl
theorem am_w1_of (h : am_Giv o e d K V base s) (hX : va_T .int b n (fun j => .int (xs j)) (am_A base) s s.heap) {z : Nat × Nat × am_En} (hz : z ∈ am_gL o e d K V) {P : am_En → Prop} (hP : ∀ z' ∈ am_gL o e d K V, z'.2.1 = z.2.1 → P z'.2.2) : ∃ x, am_w1 (am_gL o e d K V) b n xs z.1 = some x ∧ P x := by
  obtain ⟨z', h1, h2, h3⟩ := am_w1_in h hX hz
  exact ⟨_, h2, hP z' h1 h3⟩
theorem am_w1_o (h : am_Giv o e d K V base s) (hX : va_T .int b n (fun j => .int (xs j)) (am_A base) s s.heap) : am_w1 (am_gL o e d K V) b n xs o = some (.inl (9, 4, .inr (.inl am_fO))) := by
  obtain ⟨x, h1, rfl⟩ := am_w1_of h hX (z := (o, 0, .inl (9, 4, .inr (.inl am_fO)))) (List.mem_append_left _ List.mem_cons_self) (P := fun x => x = .inl (9, 4, .inr (.inl am_fO))) (am_gL_all (fun _ => rfl) (fun q => absurd (show (1 : Nat) = 0 from q) (by decide)) (fun q => absurd (show (2 : Nat) = 0 from q) (by decide)) (fun i hi q => by
    have := (am_ixr_at i hi).2.1
    have q : (am_sq1 i).2.2.2.1 = 0 := q
    omega) (fun i hi q => by
    have := am_rlb i hi
    have q : (am_sq1 i).2.2.2.2 = 0 := q
    omega))
  exact h1
theorem am_w1_e (h : am_Giv o e d K V base s) (hX : va_T .int b n (fun j => .int (xs j)) (am_A base) s s.heap) : am_w1 (am_gL o e d K V) b n xs e = some (.inl (13, 0, .inr (.inr (.inr (.inr (fun _ => none)))))) := by
  obtain ⟨x, h1, rfl⟩ := am_w1_of h hX (z := (e, 1, .inl (13, 0, .inr (.inr (.inr (.inr (fun _ => none))))))) (List.mem_append_left _ (List.mem_cons_of_mem _ List.mem_cons_self)) (P := fun x => x = .inl (13, 0, .inr (.inr (.inr (.inr (fun _ => none)))))) (am_gL_all (fun q => absurd (show (0 : Nat) = 1 from q) (by decide)) (fun _ => rfl) (fun q => absurd (show (2 : Nat) = 1 from q) (by decide)) (fun i hi q => by
    have := (am_ixr_at i hi).2.1
    have q : (am_sq1 i).2.2.2.1 = 1 := q
    omega) (fun i hi q => by
    have := am_rlb i hi
    have q : (am_sq1 i).2.2.2.2 = 1 := q
    omega))
  exact h1
theorem am_w1_d (h : am_Giv o e d K V base s) (hX : va_T .int b n (fun j => .int (xs j)) (am_A base) s s.heap) : am_w1 (am_gL o e d K V) b n xs d = some (.inl (11, 100, .inl am_fD)) := by
  obtain ⟨x, h1, rfl⟩ := am_w1_of h hX (z := (d, 2, .inl (11, 100, .inl am_fD))) (List.mem_append_left _ (List.mem_cons_of_mem _ (List.mem_cons_of_mem _ List.mem_cons_self))) (P := fun x => x = .inl (11, 100, .inl am_fD)) (am_gL_all (fun q => absurd (show (0 : Nat) = 2 from q) (by decide)) (fun q => absurd (show (1 : Nat) = 2 from q) (by decide)) (fun _ => rfl) (fun i hi q => by
    have := (am_ixr_at i hi).2.1
    have q : (am_sq1 i).2.2.2.1 = 2 := q
    omega) (fun i hi q => by
    have := am_rlb i hi
    have q : (am_sq1 i).2.2.2.2 = 2 := q
    omega))
  exact h1
theorem am_w1_K (h : am_Giv o e d K V base s) (hX : va_T .int b n (fun j => .int (xs j)) (am_A base) s s.heap) {i : Nat} (hi : i ∈ am_six) : am_w1 (am_gL o e d K V) b n xs (K i) = some (.inr (12, [.ref (V i), .int 0])) := by
  obtain ⟨k1, k2, k3⟩ := am_ixr_at i hi
  obtain ⟨x, h1, rfl⟩ := am_w1_of h hX (am_gL_K hi) (P := fun x => x = .inr (12, [.ref (V i), .int 0])) (am_gL_all (fun q => by
    have q : 0 = (am_sq1 i).2.2.2.1 := q
    omega) (fun q => by
    have q : 1 = (am_sq1 i).2.2.2.1 := q
    omega) (fun q => by
    have q : 2 = (am_sq1 i).2.2.2.1 := q
    omega) (fun j hj q => by
    have q : (am_sq1 j).2.2.2.1 = (am_sq1 i).2.2.2.1 := q
    have := (am_ixr_at j hj).1
    rw [q, k1] at this
    subst this
    rfl) (fun j hj q => by
    have := am_rlb j hj
    have q : (am_sq1 j).2.2.2.2 = (am_sq1 i).2.2.2.1 := q
    omega))
  exact h1
theorem am_rl_ln : ∀ i ∈ am_six, ∀ j ∈ am_six, (am_sq1 j).2.2.2.2 = (am_sq1 i).2.2.2.2 → (am_sq1 j).2.2.1.length = (am_sq1 i).2.2.1.length := by decide +kernel
theorem am_rlk : ∀ i ∈ am_six, ∀ j ∈ am_six, (am_sq1 j).2.2.2.1 ≠ (am_sq1 i).2.2.2.2 := by decide +kernel
theorem am_byk : ∀ i ∈ am_six, ∀ x ∈ (am_sq1 i).2.2.1, am_ok .byte (.int x) = true := by decide +kernel
theorem am_w1_V (h : am_Giv o e d K V base s) (hX : va_T .int b n (fun j => .int (xs j)) (am_A base) s s.heap) {i : Nat} (hi : i ∈ am_six) : ∃ f : Nat → Int32, am_w1 (am_gL o e d K V) b n xs (V i) = some (.inl (11, (am_sq1 i).2.2.1.length, .inl f)) ∧ ∀ j, am_ok .byte (.int (f j)) = true := by
  have hr := am_rlb i hi
  obtain ⟨x, h1, f, rfl, hf⟩ := am_w1_of h hX (am_gL_V hi) (P := fun x => ∃ f : Nat → Int32, x = .inl (11, (am_sq1 i).2.2.1.length, .inl f) ∧ ∀ j, am_ok .byte (.int (f j)) = true) (am_gL_all (fun q => by
    have q : 0 = (am_sq1 i).2.2.2.2 := q
    omega) (fun q => by
    have q : 1 = (am_sq1 i).2.2.2.2 := q
    omega) (fun q => by
    have q : 2 = (am_sq1 i).2.2.2.2 := q
    omega) (fun j hj q => absurd q (am_rlk i hi j hj)) (fun j hj q => by
    have ln := am_rl_ln i hi j hj q
    refine ⟨fun z => (am_sq1 j).2.2.1.getD z 0, by rw [← ln], fun z => ?_⟩
    show am_ok .byte (.int ((am_sq1 j).2.2.1.getD z 0)) = true
    rw [List.getD_eq_getElem?_getD]
    by_cases hz : z < (am_sq1 j).2.2.1.length
    · rw [List.getElem?_eq_getElem hz]
      exact am_byk j hj _ (List.getElem_mem hz)
    · rw [List.getElem?_eq_none (by omega)]
      rfl))
  exact ⟨f, h1, hf⟩
theorem am_T_eq {ty : FieldType} {a n1 : Nat} {f1 f2 : Nat → Value} {A : Nat → Prop} {H : Heap} (h1 : va_T ty a n1 f1 A s H) (h2 : va_T ty a n1 f2 A s H) : ∀ j, j < n1 → f1 j = f2 j := by
  obtain ⟨c1, p1, -, -, -, -, p6, -⟩ := h1
  obtain ⟨c2, q1, -, -, -, -, q6, -⟩ := h2
  cases p1.symm.trans q1
  intro j hj
  exact Option.some.inj ((p6 j hj).symm.trans (q6 j hj))
/-- the same, with what it holds -/
theorem am_w1_Vc (h : am_Giv o e d K V base s) (hX : va_T .int b n (fun j => .int (xs j)) (am_A base) s s.heap) {i : Nat} (hi : i ∈ am_six) : ∃ f : Nat → Int32, am_w1 (am_gL o e d K V) b n xs (V i) = some (.inl (11, (am_sq1 i).2.2.1.length, .inl f)) ∧ (∀ j, am_ok .byte (.int (f j)) = true) ∧ ∀ j, j < (am_sq1 i).2.2.1.length → f j = (am_sq1 i).2.2.1.getD j 0 := by
  obtain ⟨f, h1, h2⟩ := am_w1_V h hX hi
  refine ⟨f, h1, h2, ?_⟩
  have hz := am_gL_V (o := o) (e := e) (d := d) (K := K) (V := V) hi
  obtain ⟨⟨a', r', x'⟩, hf⟩ := am_fnd_ex hz
  obtain ⟨h3, h4⟩ := am_fnd_in hf
  have h4 : a' = V i := h4
  have h5 : am_w1 (am_gL o e d K V) b n xs (V i) = some x' := by
    unfold am_w1
    rw [if_neg (am_hnb h hX _ hz), hf]
    rfl
  have h6 : x' = .inl (11, (am_sq1 i).2.2.1.length, .inl f) := Option.some.inj (h5.symm.trans h1)
  subst h6
  subst h4
  obtain ⟨-, -, g3, -⟩ := am_ZF_all h _ h3
  obtain ⟨-, -, k3, -⟩ := am_ZF_all h _ hz
  intro j hj
  exact Value.int.inj (am_T_eq g3 k3 j hj)
end AMRI
end
section
/-! THE START: what is read alone, and the first world. Mine. -/
section AMRO
variable {s : State} {o e d b n base : Nat} {K V : Nat → Nat} {xs : Nat → Int32}
theorem am_RD_all (h : am_Giv o e d K V base s) : ∀ z ∈ am_gL o e d K V, am_RD base s s.heap z.1 z.2.2 := by
  obtain ⟨hO, hX, hE, hD, hS, -⟩ := h
  refine am_gL_all ⟨by decide, hO, fun _ => hX⟩ ⟨by decide, hE, fun q => absurd q (by decide)⟩ ⟨by decide, hD, fun q => absurd q (by decide)⟩ (fun i hi => ?_) (fun i hi => ?_)
  · have h1 := hS.1 i (am_six_lt i hi)
    refine ⟨rfl, h1.1, fun k v hk => ?_⟩
    match k, hk with
    | 0, hk => cases hk; exact h1.2.2.1
    | 1, hk => cases hk; exact h1.2.1
    | k + 2, hk => cases hk
  · have h4 := (hS.1 i (am_six_lt i hi)).2.2.2
    rw [am_lns_at i (am_six_lt i hi), am_bts_at (am_six_lt i hi)] at h4
    have h5 := am_lns_sm i (am_six_lt i hi)
    rw [am_lns_at i (am_six_lt i hi)] at h5
    exact ⟨h5, h4, fun q => absurd q (by decide)⟩
theorem am_ro_all : ∀ z ∈ am_gL o e d K V, am_ro z.2.2 = true := am_gL_all rfl rfl rfl (fun _ _ => rfl) (fun _ _ => rfl)
theorem am_RO0 (h : am_Giv o e d K V s.heap.size s) (hn : n < 2 ^ 31) (hX : va_T .int b n (fun j => .int (xs j)) (am_A s.heap.size) s s.heap) (x3 x4 : Option Nat) :
    am_RO s.heap.size (am_s1g o e d K x3 x4, am_w1 (am_gL o e d K V) b n xs) s s.heap := by
  refine ⟨Nat.le_refl _, fun a x hx => ⟨am_w1_lt h hX hx, ?_⟩⟩
  have hx : am_w1 _ b n xs a = some x := hx
  unfold am_w1 at hx
  split at hx
  · rename_i hab
    rw [← Option.some.inj hx, hab]
    exact ⟨hn, hX, fun q => absurd q (by decide)⟩
  · obtain ⟨z, hf, rfl⟩ := Option.map_eq_some_iff.mp hx
    obtain ⟨hz, rfl⟩ := am_fnd_in hf
    exact am_RD_all h z hz
theorem am_WR0 (D : va_G) (dA : Nat → ClassId) (x3 x4 : Option Nat) : am_WR D dA s.heap.size (am_s1g o e d K x3 x4, am_w1 (am_gL o e d K V) b n xs) (am_w1 (am_gL o e d K V) b n xs, s.heap.size, 0, am_s1g o e d K x3 x4) s.heap := by
  refine ⟨rfl, rfl, [], fun k q hk => (by cases hk), ⟨fun i j p q hi => (by cases hi), fun k q hk => (by cases hk)⟩, fun a x hx => ⟨fun _ => hx, fun hr => ?_⟩⟩
  exfalso
  have hx : am_w1 _ b n xs a = some x := hx
  unfold am_w1 at hx
  split at hx
  · cases hx; cases hr
  · obtain ⟨z, hf, rfl⟩ := Option.map_eq_some_iff.mp hx
    obtain ⟨hz, rfl⟩ := am_fnd_in hf
    rw [am_ro_all z hz] at hr
    cases hr
end AMRO
section AMKK
variable {args : Array Value} {s : State}
def am_lbM : MethodName := ⟨"java/lang/AbstractStringBuilder", "isLatin1", "()Z"⟩
theorem am_psl_ok (hts : ∀ w ∈ lw_tbl, w.before args s = true) : ∀ w ∈ am_psl, w.before args s = true := by
  intro w hw
  obtain ⟨q, hq, rfl⟩ := List.mem_map.mp hw
  have g1 : ∀ q ∈ am_psm, Cond.privateMethod ⟨"java/lang/AbstractStringBuilder", q.1, q.2⟩ ∈ lw_tbl ∧ Cond.instanceMethod ⟨"java/lang/AbstractStringBuilder", q.1, q.2⟩ ∈ lw_tbl := by decide +kernel
  have g2 : Cond.selects "java/lang/StringBuilder" am_lbM am_lbM ∈ lw_tbl := by decide +kernel
  obtain ⟨hp, hi⟩ := g1 q hq
  have hpriv := Cond.privateMethod_at (hts _ hp)
  obtain ⟨mk, methM, hnamed, hmethM, -, -⟩ := Cond.instanceMethod_spec (hts _ hi)
  have hfound := State.methodFound?_of_named hnamed ⟨(show "java/lang/AbstractStringBuilder" ≠ "java/lang/invoke/MethodHandle" by decide), (show "java/lang/AbstractStringBuilder" ≠ "java/lang/invoke/VarHandle" by decide)⟩
  obtain ⟨c, r, m, k1, k2, k3, k4, kP, k5, k6⟩ := Cond.selects_spec (hts _ g2)
  have hcls : m.cls = mk.cls := Option.some.inj ((show s.vm.findClass "java/lang/AbstractStringBuilder" = some m.cls from findClass_of_methodNamed k3).symm.trans (show s.vm.findClass "java/lang/AbstractStringBuilder" = some mk.cls from findClass_of_methodNamed hnamed))
  rw [hcls] at k5
  have hsel : selectMethod {} s.vm c mk = .method mk := selectMethod_private hmethM (hpriv mk methM hnamed hmethM)
  simp only [Cond.before, Cond.holds, Cond.value, k1, hfound, hnamed, hsel, k5]
  simp
  exact k6
theorem am_hts (hts : ∀ w ∈ lw_tbl, w.before args s = true) : ∀ w ∈ am_aw, w.before args s = true := by
  intro w hw
  obtain ⟨h1, h2⟩ := List.mem_filter.mp hw
  rcases List.mem_append.mp h1 with h1 | h1
  · exact hts w h1
  · exact am_psl_ok hts w h1
theorem am_inst_in : ∀ q ∈ am_cl, Cond.instantiable q.1 q.2.2 ∈ lw_tbl := by decide +kernel
theorem am_arr_in : ∀ t, t < 4 → Cond.arrayClass (am_tyl t) ∈ lw_tbl := by decide +kernel
theorem am_ao_in : ∀ w ∈ [Cond.arrayOver (.object "Bumpward$Walker"), Cond.arrayOver (.object "java/lang/Object"), Cond.arrayOver (.array .int)], w ∈ lw_tbl := by decide +kernel
theorem am_tyl_ok (hts : ∀ w ∈ lw_tbl, w.before args s = true) : ∀ t, t < 7 → ∃ cA, ArrOfT s cA (am_tyl t) ∧ va_RA s cA (am_tyl t) := by
  intro t ht
  by_cases h4 : t < 4
  · obtain ⟨c, k, comp, g1, g2, g3⟩ := Cond.arrayClass_spec (hts _ (am_arr_in t h4))
    refine ⟨c, fun N z => ⟨(fun k h => by cases h), k, g2, comp, g3⟩, ?_⟩
    rcases (show t = 0 ∨ t = 1 ∨ t = 2 ∨ t = 3 by omega) with rfl | rfl | rfl | rfl <;> exact g1
  · have hob : ∀ C, Cond.arrayOver (.object C) ∈ lw_tbl → ∃ cA, ArrOfT s cA (.object C) ∧ va_RA s cA (.object C) := by
      intro C hC
      obtain ⟨comp, c, k, g1, g2, g3, g4, g5⟩ := Cond.arrayOver_spec (hts _ hC)
      exact ⟨c, fun N z => ⟨(fun k h => by cases h), k, g3, comp, g4⟩, k, comp, g3, g4, g1, g5⟩
    rcases (show t = 4 ∨ t = 5 ∨ t = 6 by omega) with rfl | rfl | rfl
    · exact hob _ (am_ao_in _ List.mem_cons_self)
    · exact hob _ (am_ao_in _ (List.mem_cons_of_mem _ List.mem_cons_self))
    · obtain ⟨comp, c, k, g1, g2, g3, g4, g5⟩ := Jvm.Stand.arrayOver_specB (hts _ (am_ao_in (.arrayOver (.array .int)) (List.mem_cons_of_mem _ (List.mem_cons_of_mem _ List.mem_cons_self))))
      exact ⟨c, fun N z => ⟨(fun k h => by cases h), k, g3, comp, g4⟩, g5⟩
theorem am_K0s (hts : ∀ w ∈ lw_tbl, w.before args s = true) : ∃ (D : va_G) (dA : Nat → ClassId), va_K D am_cl (am_tys dA) s := by
  have h1 : ∀ c : Nat, ∃ x : ClassId × (Nat → Nat), ∀ q : vw_C, am_cl[c]? = some q → u_Kn s q.1 q.2.1 q.2.2 x.1 x.2 := by
    intro c
    cases hc : am_cl[c]? with
    | none => exact ⟨(0, fun _ => 0), fun q h => by cases h⟩
    | some q =>
      obtain ⟨cC, iS, hk⟩ := u_known (n := q.2.2) (am_hts hts) (am_cl_in c q hc) (hts _ (am_inst_in q (List.mem_of_getElem? hc)))
      exact ⟨(cC, iS), fun q' h => by cases h; exact hk⟩
  have h2 : ∀ t : Nat, ∃ cA : ClassId, t < 7 → ArrOfT s cA (am_tyl t) ∧ va_RA s cA (am_tyl t) := by
    intro t
    by_cases ht : t < 7
    · obtain ⟨cA, hA⟩ := am_tyl_ok hts t ht
      exact ⟨cA, fun _ => hA⟩
    · exact ⟨0, fun h => absurd h ht⟩
  obtain ⟨f, hf⟩ := Classical.axiomOfChoice h1
  obtain ⟨g, hg⟩ := Classical.axiomOfChoice h2
  refine ⟨(fun c => (f c).1, fun c => (f c).2), g, fun c q hq => hf c q hq, fun k q hk => ?_⟩
  have hlt : k < 7 := by
    have := (List.getElem?_eq_some_iff.mp hk).1
    simp [am_tys] at this
    exact this
  rw [am_tys_at g hlt] at hk
  cases hk
  exact hg k hlt
end AMKK
end
