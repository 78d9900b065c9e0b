/-! THE START: am_Env stands. Mine. -/
section AMEV
variable {args : Array Value} {s : State}
theorem am_nl_on : ∀ w ∈ am_nl, w.onTables = true := by decide +kernel
theorem am_strs_in : ∀ q ∈ am_strs, Cond.stringRef q.1 q.2.1 q.2.2.1 ∈ lw_tbl := by decide +kernel
theorem am_strs_ix : ∀ q ∈ am_strs, (am_sq1 (am_ixr q.2.2.2)).1 = q.1 ∧ (am_sq1 (am_ixr q.2.2.2)).2.1 = q.2.1 ∧ am_ixr q.2.2.2 < 20 ∧ 10 ≤ q.2.2.2 := by decide +kernel
theorem am_cst_in : ∀ q ∈ am_cst, Cond.castable q.1 q.2 ∈ lw_tbl := by decide +kernel
theorem am_dcl_in : ∀ w ∈ am_dcl, w ∈ lw_tbl := by decide +kernel
theorem am_ifs_in : ∀ q ∈ am_ifs, Cond.declares q.2.1 ∈ lw_tbl ∧ Cond.interfaceMethod q.2.1.cls q.2.1.cls q.2.1.name q.2.1.desc ∈ lw_tbl ∧ Cond.publicMethod q.2.2 ∈ lw_tbl ∧ Cond.unhidden q.1 q.2.1.name q.2.1.desc ∈ lw_tbl ∧ Cond.castable q.1 q.2.1.cls ∈ lw_tbl := by decide +kernel
theorem am_tabs_on : ∀ w ∈ am_dcl ++ am_cst.map (fun q => Cond.castable q.1 q.2), w.onTables = true := by decide +kernel
theorem am_exn_nc : ∀ E ∈ am_exn, ∀ E' ∈ am_exn, E ≠ E' → Cond.not (.castable E E') ∈ Jvm.Free.XT.flat narrow_1 := by decide +kernel
theorem am_Env0 {b n : Nat} {xs : Nat → Int32} (hts : ∀ w ∈ lw_tbl, w.before args s = true) (hg : (Jvm.Cond.and given_1 narrow_1).before args s = true) (hn : n < 2 ^ 31) (hX : va_T .int b n (fun j => .int (xs j)) (am_A s.heap.size) s s.heap) :
    ∃ (o e d : Nat) (K V : Nat → Nat) (x3 x4 : Option Nat) (D : va_G) (dA : Nat → ClassId), am_Giv o e d K V s.heap.size s ∧ am_Env D dA s.heap.size (am_s1g o e d K x3 x4, am_w1 (am_gL o e d K V) b n xs) s s.heap := by
  obtain ⟨K, V, hS, hK⟩ := am_lit hg
  obtain ⟨o, hO1, hO2, hO3⟩ := am_stO hts hg
  obtain ⟨d, hD1, hD2⟩ := am_stD hts hg
  obtain ⟨e, hE1, hE2⟩ := am_stE hts hg
  obtain ⟨x3, hT⟩ := am_stT hts hg
  obtain ⟨x4, hP⟩ := am_stP hts hg
  obtain ⟨D, dA, hKK⟩ := am_K0s hts
  have hGiv : am_Giv o e d K V s.heap.size s := ⟨hO2, hO3, hE2, hD2, hS, _, (hKK.1 12 _ (show am_cl[12]? = some (RJ0, TJ0, 4) from rfl)).2⟩
  have hU := am_stU hts hg
  refine ⟨o, e, d, K, V, x3, x4, D, dA, hGiv, hKK, fun w hw => va_any (am_nl_on w hw) (hts w (List.mem_filter.mp hw).1), hU.1, hU.2, fun q hq => ?_, va_AO.of (hts _ (am_ao_in _ List.mem_cons_self)), va_AO.of (hts _ (am_ao_in _ (List.mem_cons_of_mem _ List.mem_cons_self))), hts _ (am_ao_in _ (List.mem_cons_of_mem _ (List.mem_cons_of_mem _ List.mem_cons_self))), am_RO0 hGiv hn hX x3 x4, fun z hz => ?_, fun z hz => ?_, fun E hE E' hE' hne => ?_, fun q hq => ?_, fun q hq => ?_, fun w hw => ?_⟩
  · obtain ⟨h1, h2, h3, h4⟩ := am_strs_ix q hq
    refine ⟨K (am_ixr q.2.2.2), ?_, ?_⟩
    · show am_s1g o e d K x3 x4 q.2.2.2 = _
      unfold am_s1g am_ad
      rw [if_neg (by omega), if_neg (by omega), if_neg (by omega), if_neg (by omega), if_neg (by omega)]
    · refine vk_R.of (A := args) (hts _ (am_strs_in q hq)) ?_
      have := hK _ h3
      unfold am_tm at this
      rw [h1, h2] at this
      exact this
  · simp only [am_stats, List.mem_cons, List.not_mem_nil, or_false] at hz
    rcases hz with rfl | rfl | rfl | rfl | rfl
    · exact hO1
    · exact hE1
    · exact hD1
    · exact hT
    · exact hP
  · simp only [am_stati, List.mem_cons, List.not_mem_nil, or_false] at hz
    subst hz
    exact am_stC hts hg
  · rw [Cond.before_and, Bool.and_eq_true] at hg
    exact va_Nc.of (flat_of_before _ hg.2 _ (am_exn_nc E hE E' hE' hne))
  · obtain ⟨h1, h2, h3, h4, h5⟩ := am_ifs_in q hq
    exact va_Fw.of (hts _ h1) (hts _ h2) (hts _ h3) (hts _ h4) (hts _ h5)
  · exact va_any (am_tabs_on _ (List.mem_append_right _ (List.mem_map.mpr ⟨q, hq, rfl⟩))) (hts _ (am_cst_in q hq))
  · exact va_any (am_tabs_on _ (List.mem_append_left _ hw)) (hts _ (am_dcl_in w hw))
end AMEV
