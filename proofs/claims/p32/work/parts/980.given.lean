/-! WHAT THE PREMISES GIVE of what stood there before the law: out of narrow_1. Mine. -/
def am_tO : Term := .static "Bumpward$Grid" "OUTER" "[J"
def am_fO (j : Nat) : Int64 := [63, 34905131040, 67645734912, 1090785345].getD j 0
def am_gst : List Cond := [.isRef (.static "java/lang/Throwable" "UNASSIGNED_STACK" "[Ljava/lang/StackTraceElement;"), .isRef (.static "java/lang/Throwable" "SUPPRESSED_SENTINEL" "Ljava/util/List;"),
  .arrayOf am_tO .long, .eq (.length am_tO) (.int 4)] ++ ((List.range 4).map fun j => .eq (.elem am_tO (.int (Int32.ofNat j))) (.long (am_fO j)))
/-- the literals are Strings -/
def am_gex : List Cond := Cond.exactly am_tO "[J" :: am_strs.map fun q => .exactly (.string q.1 q.2.1) "java/lang/String"
theorem am_gst_in : (am_gst ++ am_gex).all (fun w => decide (w ∈ Jvm.Free.XT.flat narrow_1)) = true := by decide +kernel
theorem am_given {args : Array Value} {s : State} (h : (Jvm.Cond.and given_1 narrow_1).before args s = true) : ∀ w, w ∈ am_gst ++ am_gex → w.before args s = true := by
  rw [Cond.before_and, Bool.and_eq_true] at h
  have hs := flat_of_before _ h.2
  intro w hw
  exact hs w (of_decide_eq_true (List.all_eq_true.mp am_gst_in w hw))
/-! THE START: the literals and statics that stood there before the law. Mine. -/
section AMST
variable {args : Array Value} {s : State}
theorem am_nA (s : State) : ∀ a : Nat, a < s.heap.size → ¬ am_A s.heap.size a := fun _ h q => Nat.not_le.mpr h q
theorem am_str1 : ∀ q ∈ am_strs, ∀ q' ∈ am_strs, q.2.2.2 = q'.2.2.2 → q = q' := by decide +kernel
/-- where the literals lie -/
theorem am_lit (h : (Jvm.Cond.and given_1 narrow_1).before args s = true) : ∃ K : Nat → Nat, ∀ q ∈ am_strs, (Term.string q.1 q.2.1).eval args s none [] s = some (.ref (K q.2.2.2)) := by
  have h1 : ∀ r : Nat, ∃ a : Nat, ∀ q ∈ am_strs, q.2.2.2 = r → (Term.string q.1 q.2.1).eval args s none [] s = some (.ref a) := by
    intro r
    by_cases e : ∃ q, q ∈ am_strs ∧ q.2.2.2 = r
    · obtain ⟨q, hq, hr⟩ := e
      obtain ⟨a2, c, cA, kA, q1, -⟩ := Cond.exactly_spec (args := args) (first := s) (o := none) (s := s) (idx := []) (t := .string q.1 q.2.1) (cls := "java/lang/String") (am_given h _ (List.mem_append_right _ (List.mem_cons_of_mem _ (List.mem_map.mpr ⟨q, hq, rfl⟩))))
      exact ⟨a2, fun q' hq' hr' => by rw [am_str1 q' hq' q hq (hr'.trans hr.symm)]; exact q1⟩
    · exact ⟨0, fun q hq hr => absurd ⟨q, hq, hr⟩ e⟩
  obtain ⟨K, hK⟩ := Classical.axiomOfChoice h1
  exact ⟨K, fun q hq => hK _ q hq rfl⟩
theorem am_len_ex {t : Term} {N a : Nat} (hN : N < 2 ^ 31) (h : (Term.length t).eval args s none [] s = some (.int (Int32.ofNat N))) (ht : t.eval args s none [] s = some (.ref a)) : ∃ cell : Cell, s.heap[a]? = some cell ∧ cell.slots.size = N := by
  simp only [Term.eval, Option.bind_eq_bind] at h
  simp [ht] at h
  obtain ⟨cell, hcell, h⟩ := Option.bind_eq_some_iff.mp h
  by_cases hn : cell.slots.size < 2147483648
  · rw [if_pos hn] at h
    have h2 : cell.slots.size.toInt32 = Int32.ofNat N := Value.int.inj (Option.some.inj h)
    refine ⟨cell, (State.arrayAt?_spec hcell).1, ?_⟩
    have e1 : (cell.slots.size.toInt32).toNatClampNeg = cell.slots.size := Int32.toNatClampNeg_ofNat_of_lt hn
    have e2 : (Int32.ofNat N).toNatClampNeg = N := Int32.toNatClampNeg_ofNat_of_lt hN
    rw [h2] at e1
    omega
  · rw [if_neg hn] at h; cases h
theorem am_lay {C n d : String} (hts : ∀ w ∈ lw_tbl, w.before args s = true) (h1 : decide (Cond.laysStatic C n d ∈ lw_tbl) = true) (h2 : decide (Cond.initialized C ∈ lw_tbl) = true) : (Cond.laysStatic C n d).before args s = true ∧ (Cond.initialized C).before args s = true := ⟨hts _ (of_decide_eq_true h1), hts _ (of_decide_eq_true h2)⟩
theorem am_stO (hts : ∀ w ∈ lw_tbl, w.before args s = true) (h : (Jvm.Cond.and given_1 narrow_1).before args s = true) : ∃ o : Nat, va_Z "Bumpward$Grid" "OUTER" "[J" (.ref o) (am_A s.heap.size) s s.heap ∧ va_T .long o 4 (fun j => .long (am_fO j)) (am_A s.heap.size) s s.heap ∧ ∃ cell : Cell, s.heap[o]? = some cell ∧ cell.slots.size = 4 ∧ s.vm.findClass "[J" = some cell.cls := by
  have hg := am_given h
  have hq : ∀ w, w ∈ am_gst → w.before args s = true := fun w hw => hg w (List.mem_append_left _ hw)
  have hlen := va_eqt (hq (.eq (.length am_tO) (.int 4)) (by simp [am_gst]))
  obtain ⟨o, ho, hT⟩ := va_Tof (tm := am_tO) (ty := .long) (N := 4) (f := fun j => .long (am_fO j)) (A := am_A s.heap.size) (by decide) (hq _ (by simp [am_gst])) hlen (fun j hj => va_eqtl (hq _ (List.mem_append_right _ (List.mem_map.mpr ⟨j, List.mem_range.mpr hj, rfl⟩)))) (am_nA s)
  obtain ⟨l1, l2⟩ := am_lay hts (C := "Bumpward$Grid") (n := "OUTER") (d := "[J") (by decide +kernel) (by decide +kernel)
  refine ⟨o, va_Zof l1 l2 ho (am_nA s), hT, ?_⟩
  obtain ⟨a2, c, cA, kA, q1, q2, q3, q4, q5, q6, -⟩ := Cond.exactly_spec (args := args) (first := s) (o := none) (s := s) (idx := []) (t := am_tO) (cls := "[J") (hg _ (List.mem_append_right _ List.mem_cons_self))
  cases ho.symm.trans q1
  obtain ⟨cB, r1, r2⟩ := am_len_ex (N := 4) (by decide) hlen ho
  cases q3.symm.trans r1
  exact ⟨_, q3, r2, by rw [q6]; exact q2⟩
theorem am_stU (hts : ∀ w ∈ lw_tbl, w.before args s = true) (h : (Jvm.Cond.and given_1 narrow_1).before args s = true) : vx_Zq Bundle.tN "UNASSIGNED_STACK" Bundle.steD (am_A s.heap.size) s s.heap ∧ vx_Zq Bundle.tN "SUPPRESSED_SENTINEL" Bundle.listD (am_A s.heap.size) s s.heap := by
  obtain ⟨l1, l2⟩ := am_lay hts (C := Bundle.tN) (n := "UNASSIGNED_STACK") (d := Bundle.steD) (by decide +kernel) (by decide +kernel)
  obtain ⟨l3, l4⟩ := am_lay hts (C := Bundle.tN) (n := "SUPPRESSED_SENTINEL") (d := Bundle.listD) (by decide +kernel) (by decide +kernel)
  exact ⟨vx_Zqof l1 l2 (am_given h _ (List.mem_append_left _ List.mem_cons_self)) (am_nA s), vx_Zqof l3 l4 (am_given h _ (List.mem_append_left _ (List.mem_cons_of_mem _ List.mem_cons_self))) (am_nA s)⟩
end AMST
/-! the first world: the outer cells and the script -/
section AMW1
variable {s : State} {o b n : Nat} {K : Nat → Nat} {xs : Nat → Int32}
def am_sg1 (o : Nat) (K : Nat → Nat) (r : Nat) : Option Nat := if r = 0 then some o else some (K r)
def am_w1 (o b n : Nat) (xs : Nat → Int32) (a : Nat) : Option am_En := if a = b then some (.inl (8, n, .inl xs)) else if a = o then some (.inl (9, 4, .inr (.inl am_fO))) else none
def am_Giv (o base : Nat) (s : State) : Prop := va_T .long o 4 (fun j => .long (am_fO j)) (am_A base) s s.heap ∧ ∃ cell : Cell, s.heap[o]? = some cell ∧ cell.slots.size = 4 ∧ s.vm.findClass "[J" = some cell.cls
theorem am_T_ty {ty1 ty2 : FieldType} {a n1 n2 : Nat} {f1 f2 : Nat → Value} {A : Nat → Prop} {H : Heap} (h1 : va_T ty1 a n1 f1 A s H) (h2 : va_T ty2 a n2 f2 A s H) : ty1 = ty2 := by
  obtain ⟨c1, p1, ⟨-, k1, q1, m1, r1⟩, -, -, z1, -⟩ := h1
  obtain ⟨c2, p2, ⟨-, k2, q2, m2, r2⟩, -, -, z2, -⟩ := h2
  cases p1.symm.trans p2
  cases q1.symm.trans q2
  have hk := r1.symm.trans r2
  injection hk
theorem am_X_T (hX : va_X b n xs s s.heap) (hb : b < s.heap.size) : va_T .int b n (fun j => .int (xs j)) (am_A s.heap.size) s s.heap := by
  obtain ⟨scr, h1, h2, h3, h4, h5⟩ := hX
  exact ⟨scr, h1, h2, h3, (by omega), congrArg Nat.toInt32 h4, h5, am_nA s b hb⟩
theorem am_nob {base : Nat} (h : am_Giv o base s) (hX : va_T .int b n (fun j => .int (xs j)) (am_A base) s s.heap) : o ≠ b := fun e => by
  subst e
  have := am_T_ty h.1 hX
  cases this
theorem am_T_lt {ty : FieldType} {a n1 : Nat} {f1 : Nat → Value} {A : Nat → Prop} (h : va_T ty a n1 f1 A s s.heap) : a < s.heap.size := by
  obtain ⟨c, h1, -⟩ := h
  exact (Array.getElem?_eq_some_iff.mp h1).1
theorem am_RO0 (h : am_Giv o s.heap.size s) (hn : n < 2 ^ 31) (hX : va_T .int b n (fun j => .int (xs j)) (am_A s.heap.size) s s.heap) : am_RO s.heap.size (am_sg1 o K, am_w1 o b n xs) s s.heap := by
  refine ⟨Nat.le_refl _, fun a x hx0 => ?_⟩
  have hx : am_w1 o b n xs a = some x := hx0
  clear hx0
  unfold am_w1 at hx
  split at hx
  · rename_i hab
    subst hab
    rw [← Option.some.inj hx]
    exact ⟨am_T_lt hX, hn, hX, fun q => absurd q (by decide)⟩
  · split at hx
    · rename_i hao
      subst hao
      rw [← Option.some.inj hx]
      exact ⟨am_T_lt h.1, by decide, h.1, fun _ => h.2⟩
    · cases hx
theorem am_WR0 (D : va_G) (dA : Nat → ClassId) : am_WR D dA s.heap.size (am_sg1 o K, am_w1 o b n xs) (am_w1 o b n xs, s.heap.size, 0, am_sg1 o K) s.heap := by
  refine ⟨rfl, rfl, [], fun k q hk => (by cases hk), ⟨fun i j p q hi => (by cases hi), fun k q hk => (by cases hk)⟩, fun a x hx0 => ⟨fun _ => hx0, fun hr => ?_⟩⟩
  exfalso
  have hx : am_w1 o b n xs a = some x := hx0
  clear hx0
  unfold am_w1 at hx
  split at hx
  · cases hx; cases hr
  · split at hx
    · cases hx; cases hr
    · cases hx
end AMW1
