/-! THE START: the law's run by the certificate. Mine. -/
def am_lawP : List am_Po := [(.inl (some (.inl (none, Int.ofNat 1))), [], [.inl (false, .inr (8, (some 0, Int.ofNat 0), .inl (Int.negSucc 2147483647, Int.ofNat 2147483647)))], (Int.ofNat 599124, Int.ofNat 0), (Int.ofNat 7291346, Int.ofNat 0))]
def am_lawE (g : Nat) : am_Et := ((266, 0), [(Int.ofNat 0, Int.ofNat 2560)], [.inl (false, .inr (8, (some 0, Int.ofNat 0), .inl (Int.negSucc 2147483647, Int.ofNat 2147483647)))], [some (am_sO 0), none, none, none, none, none, none, none], [], [], g, am_lawP)
theorem am_law_ent (b : Nat) : am_ent 266 [.ref b] = [some (.ref b), none, none, none, none, none, none, none] := by
  have h1 : am_ml 266 = 8 := by decide +kernel
  have h2 : ∃ l, am_dead 266 0 = l ∧ am_kill l [some (.ref b), none, none, none, none, none, none, none] = [some (.ref b), none, none, none, none, none, none, none] := ⟨_, rfl, rfl⟩
  obtain ⟨l, e1, e2⟩ := h2
  unfold am_ent am_nrm
  rw [e1, h1]
  exact e2
theorem am_law_sz : 16 + am_hg 266 ≤ room_1.frames ∧ 400 + 200 * am_hg 266 ≤ room_1.locals := by decide +kernel
theorem am_law_hh : am_hh 266 = [] := by decide +kernel
theorem am_law_by : am_by 266 = code := rfl
theorem am_law_ow : am_ow 266 = "BumpwardLaw" ∧ am_ry 266 = ret ∧ am_ml 266 = 8 := ⟨rfl, rfl, rfl⟩
