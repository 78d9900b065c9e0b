/-! THE START: the literals and statics that stood there before the law. Mine. -/
section AMST
variable {args : Array Value} {s : State}
theorem am_nA (s : State) : ∀ a : Nat, a < s.heap.size → ¬ am_A s.heap.size a := fun _ h q => Nat.not_le.mpr h q
def am_lns : List Nat := am_sq.map fun q => q.2.2.1.length
def am_bts : List (List Int32) := am_sq.map fun q => q.2.2.1
theorem am_lns_at : ∀ i, i < 20 → am_lns.getD i 0 = (am_sq1 i).2.2.1.length := by decide +kernel
theorem am_bts_at {i : Nat} (h : i < 20) : am_bts.getD i [] = (am_sq1 i).2.2.1 := by
  have hl : am_sq.length = 20 := by decide +kernel
  unfold am_bts am_sq1
  rw [List.getD_eq_getElem?_getD, List.getD_eq_getElem?_getD, List.getElem?_map, List.getElem?_eq_getElem (by rw [hl]; exact h)]
  rfl
theorem am_lns_sm : ∀ i, i < 20 → am_lns.getD i 0 < 2 ^ 31 := by decide +kernel
theorem am_blk_at {i : Nat} (hi : i < 20) {w : Cond} (hw : w ∈ am_blk (am_sq1 i)) : w ∈ am_gsr := List.mem_flatMap.mpr ⟨i, List.mem_range.mpr hi, List.mem_append_left _ hw⟩
theorem am_ne_at {i j : Nat} (hj : j < 20) (hij : i < j) : Cond.not (.eq (am_tm (am_sq1 i)) (am_tm (am_sq1 j))) ∈ am_gsr := List.mem_flatMap.mpr ⟨j, List.mem_range.mpr hj, List.mem_append_right _ (List.mem_map.mpr ⟨i, List.mem_range.mpr hij, rfl⟩)⟩
theorem am_lit (h : (Jvm.Cond.and given_1 narrow_1).before args s = true) : ∃ K V : Nat → Nat, vk_S 20 am_lns am_bts K V (am_A s.heap.size) s s.heap ∧ ∀ i : Nat, i < 20 → (am_tm (am_sq1 i)).eval args s none [] s = some (.ref (K i)) := by
  have hg := am_given h
  have hB : ∀ (i : Nat), i < 20 → ∀ w, w ∈ am_blk (am_sq1 i) → w.before args s = true := fun i hi w hw => hg w (Or.inr (Or.inl (am_blk_at hi hw)))
  refine vk_Sof (tm := fun i => am_tm (am_sq1 i)) am_lns_sm (fun i hi => hB i hi _ ?_) (fun i hi => hB i hi _ ?_) (fun i hi => hB i hi _ ?_) (fun i hi => hB i hi _ ?_) (fun i hi j hj => hB i hi _ ?_) (fun i j hi hj hij => ?_) (am_nA s)
  · exact List.mem_append_left _ (List.mem_cons_self)
  · exact List.mem_append_left _ (List.mem_cons_of_mem _ List.mem_cons_self)
  · exact List.mem_append_left _ (List.mem_cons_of_mem _ (List.mem_cons_of_mem _ List.mem_cons_self))
  · rw [am_lns_at i hi]
    exact List.mem_append_left _ (List.mem_cons_of_mem _ (List.mem_cons_of_mem _ (List.mem_cons_of_mem _ List.mem_cons_self)))
  · rw [am_lns_at i hi] at hj
    rw [am_bts_at hi]
    exact List.mem_append_right _ (List.mem_map.mpr ⟨j, List.mem_range.mpr hj, rfl⟩)
  · rcases Nat.lt_or_gt_of_ne hij with q | q
    · exact Or.inl (hg _ (Or.inr (Or.inl (am_ne_at hj q))))
    · exact Or.inr (hg _ (Or.inr (Or.inl (am_ne_at hi q))))
theorem am_len_ex {t : Term} {N a : Nat} (hN : N < 2 ^ 31) (h : (Term.length t).eval args s none [] s = some (.int (Int32.ofNat N))) (ht : t.eval args s none [] s = some (.ref a)) : ∃ cell : Cell, s.heap[a]? = some cell ∧ cell.slots.size = N := by
  simp only [Term.eval, Option.bind_eq_bind] at h
  simp [ht] at h
  obtain ⟨cell, hcell, h⟩ := Option.bind_eq_some_iff.mp h
  by_cases hn : cell.slots.size < 2147483648
  · rw [if_pos hn] at h
    have h2 : cell.slots.size.toInt32 = Int32.ofNat N := Value.int.inj (Option.some.inj h)
    refine ⟨cell, (State.arrayAt?_spec hcell).1, ?_⟩
    have e1 : (cell.slots.size.toInt32).toNatClampNeg = cell.slots.size := Int32.toNatClampNeg_ofNat_of_lt hn
    have e2 : (Int32.ofNat N).toNatClampNeg = N := Int32.toNatClampNeg_ofNat_of_lt hN
    rw [h2] at e1
    omega
  · rw [if_neg hn] at h; cases h
theorem am_lay {C n d : String} (hts : ∀ w ∈ lw_tbl, w.before args s = true) (h1 : decide (Cond.laysStatic C n d ∈ lw_tbl) = true) (h2 : decide (Cond.initialized C ∈ lw_tbl) = true) : (Cond.laysStatic C n d).before args s = true ∧ (Cond.initialized C).before args s = true := ⟨hts _ (of_decide_eq_true h1), hts _ (of_decide_eq_true h2)⟩
theorem am_stO (hts : ∀ w ∈ lw_tbl, w.before args s = true) (h : (Jvm.Cond.and given_1 narrow_1).before args s = true) : ∃ o : Nat, va_Z "Bumpward$Grid" "OUTER" "[J" (.ref o) (am_A s.heap.size) s s.heap ∧ va_T .long o 4 (fun j => .long (am_fO j)) (am_A s.heap.size) s s.heap ∧ ∃ cell : Cell, s.heap[o]? = some cell ∧ cell.slots.size = 4 ∧ s.vm.findClass "[J" = some cell.cls := by
  have hg := am_given h
  have hq : ∀ w, w ∈ am_gst → w.before args s = true := fun w hw => hg w (Or.inl hw)
  have hlen := va_eqt (hq (.eq (.length am_tO) (.int 4)) (by simp [am_gst]))
  obtain ⟨o, ho, hT⟩ := va_Tof (tm := am_tO) (ty := .long) (N := 4) (f := fun j => .long (am_fO j)) (A := am_A s.heap.size) (by decide) (hq _ (by simp [am_gst])) hlen (fun j hj => va_eqtl (hq _ (List.mem_append_left _ (List.mem_append_left _ (List.mem_append_left _ (List.mem_append_right _ (List.mem_map.mpr ⟨j, List.mem_range.mpr hj, rfl⟩))))))) (am_nA s)
  obtain ⟨l1, l2⟩ := am_lay hts (C := "Bumpward$Grid") (n := "OUTER") (d := "[J") (by decide +kernel) (by decide +kernel)
  refine ⟨o, va_Zof l1 l2 ho (am_nA s), hT, ?_⟩
  obtain ⟨a2, c, cA, kA, q1, q2, q3, q4, q5, q6, -⟩ := Cond.exactly_spec (args := args) (first := s) (o := none) (s := s) (idx := []) (t := am_tO) (cls := "[J") (hg _ (Or.inr (Or.inr rfl)))
  cases ho.symm.trans q1
  obtain ⟨cB, r1, r2⟩ := am_len_ex (N := 4) (by decide) hlen ho
  cases q3.symm.trans r1
  exact ⟨_, q3, r2, by rw [q6]; exact q2⟩
theorem am_stD (hts : ∀ w ∈ lw_tbl, w.before args s = true) (h : (Jvm.Cond.and given_1 narrow_1).before args s = true) : ∃ o : Nat, va_Z "java/lang/Integer" "DigitOnes" "[B" (.ref o) (am_A s.heap.size) s s.heap ∧ va_T .byte o 100 (fun j => .int (am_fD j)) (am_A s.heap.size) s s.heap := by
  have hg := am_given h
  have hq : ∀ w, w ∈ am_gst → w.before args s = true := fun w hw => hg w (Or.inl hw)
  obtain ⟨o, ho, hT⟩ := va_Tof (tm := am_tD) (ty := .byte) (N := 100) (f := fun j => .int (am_fD j)) (A := am_A s.heap.size) (by decide) (hq _ (by simp [am_gst])) (va_eqt (hq (.eq (.length am_tD) (.int 100)) (by simp [am_gst]))) (fun j hj => va_eqt (hq _ (List.mem_append_left _ (List.mem_append_right _ (List.mem_map.mpr ⟨j, List.mem_range.mpr hj, rfl⟩))))) (am_nA s)
  obtain ⟨l1, l2⟩ := am_lay hts (C := "java/lang/Integer") (n := "DigitOnes") (d := "[B") (by decide +kernel) (by decide +kernel)
  exact ⟨o, va_Zof l1 l2 ho (am_nA s), hT⟩
theorem am_stE (hts : ∀ w ∈ lw_tbl, w.before args s = true) (h : (Jvm.Cond.and given_1 narrow_1).before args s = true) : ∃ o : Nat, va_Z "java/util/ArrayList" "DEFAULTCAPACITY_EMPTY_ELEMENTDATA" "[Ljava/lang/Object;" (.ref o) (am_A s.heap.size) s s.heap ∧ va_T (.object "java/lang/Object") o 0 (fun _ => .null) (am_A s.heap.size) s s.heap := by
  have hg := am_given h
  have hq : ∀ w, w ∈ am_gst → w.before args s = true := fun w hw => hg w (Or.inl hw)
  obtain ⟨o, ho, hT⟩ := va_Tof (tm := am_tE) (ty := .object "java/lang/Object") (N := 0) (f := fun _ => .null) (A := am_A s.heap.size) (by decide) (hq _ (by simp [am_gst])) (va_eqt (hq (.eq (.length am_tE) (.int 0)) (by simp [am_gst]))) (fun j hj => absurd hj (Nat.not_lt_zero j)) (am_nA s)
  obtain ⟨l1, l2⟩ := am_lay hts (C := "java/util/ArrayList") (n := "DEFAULTCAPACITY_EMPTY_ELEMENTDATA") (d := "[Ljava/lang/Object;") (by decide +kernel) (by decide +kernel)
  exact ⟨o, va_Zof l1 l2 ho (am_nA s), hT⟩
theorem am_zq {C n d : String} {A : Nat → Prop} {H : Heap} (h : va_Zq C n d A s H) : ∃ x : Option Nat, va_Z C n d (va_rf x) A s H := by
  rcases h with h | ⟨t, h⟩
  · exact ⟨none, h⟩
  · exact ⟨some t, h⟩
theorem am_stT (hts : ∀ w ∈ lw_tbl, w.before args s = true) (h : (Jvm.Cond.and given_1 narrow_1).before args s = true) : ∃ x : Option Nat, va_Z "java/lang/Integer" "DigitTens" "[B" (va_rf x) (am_A s.heap.size) s s.heap := by
  obtain ⟨l1, l2⟩ := am_lay hts (C := "java/lang/Integer") (n := "DigitTens") (d := "[B") (by decide +kernel) (by decide +kernel)
  exact am_zq (va_Zqof l1 l2 (am_given h _ (Or.inl (by simp [am_gst, am_tT]))) (am_nA s))
theorem am_stP (hts : ∀ w ∈ lw_tbl, w.before args s = true) (h : (Jvm.Cond.and given_1 narrow_1).before args s = true) : ∃ x : Option Nat, va_Z "jdk/internal/util/Preconditions" "SIOOBE_FORMATTER" "Ljava/util/function/BiFunction;" (va_rf x) (am_A s.heap.size) s s.heap := by
  obtain ⟨l1, l2⟩ := am_lay hts (C := "jdk/internal/util/Preconditions") (n := "SIOOBE_FORMATTER") (d := "Ljava/util/function/BiFunction;") (by decide +kernel) (by decide +kernel)
  exact am_zq (va_Zqof l1 l2 (am_given h _ (Or.inl (by simp [am_gst, am_tP]))) (am_nA s))
theorem am_stC (hts : ∀ w ∈ lw_tbl, w.before args s = true) (h : (Jvm.Cond.and given_1 narrow_1).before args s = true) : va_Z "java/lang/String" "COMPACT_STRINGS" "Z" (.int 1) (am_A s.heap.size) s s.heap := by
  obtain ⟨l1, l2⟩ := am_lay hts (C := "java/lang/String") (n := "COMPACT_STRINGS") (d := "Z") (by decide +kernel) (by decide +kernel)
  exact va_Zof l1 l2 (va_eqi (am_given h _ (Or.inl (by simp [am_gst])))) (am_nA s)
theorem am_stU (hts : ∀ w ∈ lw_tbl, w.before args s = true) (h : (Jvm.Cond.and given_1 narrow_1).before args s = true) : vx_Zq Bundle.tN "UNASSIGNED_STACK" Bundle.steD (am_A s.heap.size) s s.heap ∧ vx_Zq Bundle.tN "SUPPRESSED_SENTINEL" Bundle.listD (am_A s.heap.size) s s.heap := by
  obtain ⟨l1, l2⟩ := am_lay hts (C := Bundle.tN) (n := "UNASSIGNED_STACK") (d := Bundle.steD) (by decide +kernel) (by decide +kernel)
  obtain ⟨l3, l4⟩ := am_lay hts (C := Bundle.tN) (n := "SUPPRESSED_SENTINEL") (d := Bundle.listD) (by decide +kernel) (by decide +kernel)
  exact ⟨vx_Zqof l1 l2 (am_given h _ (Or.inl List.mem_cons_self)) (am_nA s), vx_Zqof l3 l4 (am_given h _ (Or.inl (List.mem_cons_of_mem _ List.mem_cons_self))) (am_nA s)⟩
end AMST
