/-! stub. -/
theorem am_law_OK : ∀ σ, am_OkAt (am_lawE 1368) σ := sorry
