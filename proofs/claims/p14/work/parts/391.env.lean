/-! THE START: am_Env stands. Mine. -/
section AMEV
variable {args : Array Value} {s : State}
theorem am_nl_on : ∀ w ∈ am_nl, w.onTables = true := by decide +kernel
theorem am_strs_in : ∀ q ∈ am_strs, Cond.stringRef q.1 q.2.1 q.2.2.1 ∈ lw_tbl := by decide +kernel
theorem am_strs_ix : ∀ q ∈ am_strs, (am_sq1 (am_ixr q.2.2.2)).1 = q.1 ∧ (am_sq1 (am_ixr q.2.2.2)).2.1 = q.2.1 ∧ am_ixr q.2.2.2 < 20 ∧ 10 ≤ q.2.2.2 := by decide +kernel
theorem am_cst_in : ∀ q ∈ am_cst, Cond.castable q.1 q.2 ∈ lw_tbl := by decide +kernel
theorem am_dcl_in : ∀ w ∈ am_dcl, w ∈ lw_tbl := by decide +kernel
theorem am_ifs_in : ∀ q ∈ am_ifs, Cond.declares q.2.1 ∈ lw_tbl ∧ Cond.interfaceMethod q.2.1.cls q.2.1.cls q.2.1.name q.2.1.desc ∈ lw_tbl ∧ Cond.publicMethod q.2.2 ∈ lw_tbl ∧ Cond.unhidden q.1 q.2.1.name q.2.1.desc ∈ lw_tbl ∧ Cond.castable q.1 q.2.1.cls ∈ lw_tbl := by decide +kernel
theorem am_tabs_on : ∀ w ∈ am_dcl ++ am_cst.map (fun q => Cond.castable q.1 q.2), w.onTables = true := by decide +kernel
theorem am_exn_nc : ∀ E ∈ am_exn, ∀ E' ∈ am_exn, E ≠ E' → Cond.not (.castable E E') ∈ Jvm.Free.XT.flat narrow_1 := by decide +kernel
end AMEV
