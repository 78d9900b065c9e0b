/-! THE START: the classes, the words. Mine. -/
section AMKK
variable {args : Array Value} {s : State}
theorem am_psl_ok (hts : ∀ w ∈ lw_tbl, w.before args s = true) : ∀ w ∈ am_psl, w.before args s = true := fun w hw => by
  obtain ⟨q, hq, -⟩ := List.mem_map.mp hw
  cases hq
theorem am_hts (hts : ∀ w ∈ lw_tbl, w.before args s = true) : ∀ w ∈ am_aw, w.before args s = true := by
  intro w hw
  obtain ⟨h1, h2⟩ := List.mem_filter.mp hw
  rcases List.mem_append.mp h1 with h1 | h1
  · exact hts w h1
  · exact am_psl_ok hts w h1
theorem am_inst_in : ∀ q ∈ am_cl, Cond.instantiable q.1 q.2.2 ∈ lw_tbl := by decide +kernel
theorem am_arr_in : ∀ t, t < 4 → Cond.arrayClass (am_tyl t) ∈ lw_tbl := by decide +kernel
theorem am_ao_in : Cond.arrayOver (.object "Bumpward$Walker") ∈ lw_tbl := of_decide_eq_true (by decide +kernel)
theorem am_tyl_ok (hts : ∀ w ∈ lw_tbl, w.before args s = true) : ∀ t, t < 7 → ∃ cA, ArrOfT s cA (am_tyl t) ∧ va_RA s cA (am_tyl t) := by
  intro t ht
  by_cases h4 : t < 4
  · obtain ⟨c, k, comp, g1, g2, g3⟩ := Cond.arrayClass_spec (hts _ (am_arr_in t h4))
    refine ⟨c, fun N z => ⟨(fun k h => by cases h), k, g2, comp, g3⟩, ?_⟩
    rcases (show t = 0 ∨ t = 1 ∨ t = 2 ∨ t = 3 by omega) with rfl | rfl | rfl | rfl <;> exact g1
  · have hob : ∀ C, Cond.arrayOver (.object C) ∈ lw_tbl → ∃ cA, ArrOfT s cA (.object C) ∧ va_RA s cA (.object C) := by
      intro C hC
      obtain ⟨comp, c, k, g1, g2, g3, g4, g5⟩ := Cond.arrayOver_spec (hts _ hC)
      exact ⟨c, fun N z => ⟨(fun k h => by cases h), k, g3, comp, g4⟩, k, comp, g3, g4, g1, g5⟩
    rcases (show t = 4 ∨ t = 5 ∨ t = 6 by omega) with rfl | rfl | rfl
    · exact hob _ am_ao_in
    · exact hob _ am_ao_in
    · exact hob _ am_ao_in
theorem am_K0s (hts : ∀ w ∈ lw_tbl, w.before args s = true) : ∃ (D : va_G) (dA : Nat → ClassId), va_K D am_cl (am_tys dA) s := by
  have h1 : ∀ c : Nat, ∃ x : ClassId × (Nat → Nat), ∀ q : vw_C, am_cl[c]? = some q → u_Kn s q.1 q.2.1 q.2.2 x.1 x.2 := by
    intro c
    cases hc : am_cl[c]? with
    | none => exact ⟨(0, fun _ => 0), fun q h => by cases h⟩
    | some q =>
      obtain ⟨cC, iS, hk⟩ := u_known (n := q.2.2) (am_hts hts) (am_cl_in c q hc) (hts _ (am_inst_in q (List.mem_of_getElem? hc)))
      exact ⟨(cC, iS), fun q' h => by cases h; exact hk⟩
  have h2 : ∀ t : Nat, ∃ cA : ClassId, t < 7 → ArrOfT s cA (am_tyl t) ∧ va_RA s cA (am_tyl t) := by
    intro t
    by_cases ht : t < 7
    · obtain ⟨cA, hA⟩ := am_tyl_ok hts t ht
      exact ⟨cA, fun _ => hA⟩
    · exact ⟨0, fun h => absurd h ht⟩
  obtain ⟨f, hf⟩ := Classical.axiomOfChoice h1
  obtain ⟨g, hg⟩ := Classical.axiomOfChoice h2
  refine ⟨(fun c => (f c).1, fun c => (f c).2), g, fun c q hq => hf c q hq, fun k q hk => ?_⟩
  have hlt : k < 7 := by
    have := (List.getElem?_eq_some_iff.mp hk).1
    simp [am_tys] at this
    exact this
  rw [am_tys_at g hlt] at hk
  cases hk
  exact hg k hlt
end AMKK
/-! am_Env stands -/
section AMEV
variable {args : Array Value} {s : State}
theorem am_nl_on : ∀ w ∈ am_nl, w.onTables = true := by decide +kernel
theorem am_strs_in : ∀ q ∈ am_strs, Cond.stringRef q.1 q.2.1 q.2.2.1 ∈ lw_tbl := by decide +kernel
theorem am_strs_no : ∀ q ∈ am_strs, q.2.2.2 ≠ 0 := by decide +kernel
theorem am_cst_in : ∀ q ∈ am_cst, Cond.castable q.1 q.2 ∈ lw_tbl := by decide +kernel
theorem am_dcl_in : ∀ w ∈ am_dcl, w ∈ lw_tbl := by decide +kernel
theorem am_tabs_on : ∀ w ∈ am_dcl ++ am_cst.map (fun q => Cond.castable q.1 q.2), w.onTables = true := by decide +kernel
theorem am_exn_nc : ∀ E ∈ am_exn, ∀ E' ∈ am_exc, E ≠ E' → Cond.not (.castable E E') ∈ Jvm.Free.XT.flat narrow_1 := by decide +kernel
theorem am_Env0 {b n : Nat} {xs : Nat → Int32} (hts : ∀ w ∈ lw_tbl, w.before args s = true) (hg : (Jvm.Cond.and given_1 narrow_1).before args s = true) (hn : n < 2 ^ 31) (hX : va_T .int b n (fun j => .int (xs j)) (am_A s.heap.size) s s.heap) :
    ∃ (o : Nat) (K : Nat → Nat) (D : va_G) (dA : Nat → ClassId), am_Giv o s.heap.size s ∧ am_Env D dA s.heap.size (am_sg1 o K, am_w1 o b n xs) s s.heap := by
  obtain ⟨K, hK⟩ := am_lit hg
  obtain ⟨o, hO1, hO2, hO3⟩ := am_stO hts hg
  obtain ⟨D, dA, hKK⟩ := am_K0s hts
  have hGiv : am_Giv o s.heap.size s := ⟨hO2, hO3⟩
  have hU := am_stU hts hg
  refine ⟨o, K, D, dA, hGiv, hKK, fun w hw => va_any (am_nl_on w hw) (hts w (List.mem_filter.mp hw).1), hU.1, hU.2, fun q hq => ?_, va_AO.of (hts _ am_ao_in), trivial, trivial, am_RO0 hGiv hn hX, fun z hz => ?_, fun z hz => (by cases hz), fun E hE E' hE' hne => ?_, fun q hq => (by cases hq), fun q hq => ?_, fun w hw => ?_⟩
  · refine ⟨K q.2.2.2, if_neg (am_strs_no q hq), vk_R.of (A := args) (hts _ (am_strs_in q hq)) (hK q hq)⟩
  · simp only [am_stats, List.mem_cons, List.not_mem_nil, or_false] at hz
    subst hz
    exact hO1
  · rw [Cond.before_and, Bool.and_eq_true] at hg
    exact va_Nc.of (flat_of_before _ hg.2 _ (am_exn_nc E hE E' hE' hne))
  · exact va_any (am_tabs_on _ (List.mem_append_right _ (List.mem_map.mpr ⟨q, hq, rfl⟩))) (hts _ (am_cst_in q hq))
  · exact va_any (am_tabs_on _ (List.mem_append_left _ hw)) (hts _ (am_dcl_in w hw))
end AMEV
