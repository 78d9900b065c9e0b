/-! THE START: the law's run by the certificate. Mine. -/
def am_lawP : List am_Po := [(.inl (some (.inl (none, Int.ofNat 1))), [], [.inl (false, .inr (8, (some 0, Int.ofNat 0), .inl (Int.negSucc 2147483647, Int.ofNat 2147483647)))], (Int.ofNat 599124, Int.ofNat 0), (Int.ofNat 7291346, Int.ofNat 0))]
def am_lawE (g : Nat) : am_Et := ((266, 0), [(Int.ofNat 0, Int.ofNat 2560)], [.inl (false, .inr (8, (some 0, Int.ofNat 0), .inl (Int.negSucc 2147483647, Int.ofNat 2147483647)))], [some (am_sO 0), none, none, none, none, none, none, none], [], [], g, am_lawP)
theorem am_law_ent (b : Nat) : am_ent 266 [.ref b] = [some (.ref b), none, none, none, none, none, none, none] := by
  have h1 : am_ml 266 = 8 := by decide +kernel
  have h2 : ∃ l, am_dead 266 0 = l ∧ am_kill l [some (.ref b), none, none, none, none, none, none, none] = [some (.ref b), none, none, none, none, none, none, none] := ⟨_, rfl, rfl⟩
  obtain ⟨l, e1, e2⟩ := h2
  unfold am_ent am_nrm
  rw [e1, h1]
  exact e2
theorem am_law_sz : 16 + am_hg 266 ≤ room_1.frames ∧ 400 + 200 * am_hg 266 ≤ room_1.locals := by decide +kernel
theorem am_law_hh : am_hh 266 = [] := by decide +kernel
theorem am_law_by : am_by 266 = code := rfl
theorem am_law_ow : am_ow 266 = "BumpwardLaw" ∧ am_ry 266 = ret ∧ am_ml 266 = 8 := ⟨rfl, rfl, rfl⟩
section AMLW
variable {s : State} {o e d b L : Nat} {K V : Nat → Nat} {xs : Nat → Int32}
theorem am_law_run {g : Nat} (hOK : ∀ σ, am_OkAt (am_lawE g) σ) (hL : L ≤ 2560) (h : am_Giv o e d K V s.heap.size s) (hX : va_T .int b L (fun j => .int (xs j)) (am_A s.heap.size) s s.heap) (x3 x4 : Option Nat) :
    ∃ r, am_run 266 0 (am_ent 266 [.ref b]) [] (am_w1 (am_gL o e d K V) b L xs, s.heap.size, 0, am_s1g o e d K x3 x4) = some r ∧ r.1 = .inl (some (.int 1)) ∧ r.2.2.1 ≤ s.heap.size + 599124 ∧ r.2.2.2.1 ≤ 7291346 := by
  rw [am_law_ent]
  have hw : am_w1 (am_gL o e d K V) b L xs b = some (.inl (8, L, .inl xs)) := if_pos rfl
  have hρ : am_rho (am_gL o e d K V) b = none := by
    unfold am_rho
    cases hf : am_fnd (am_gL o e d K V) b with
    | none => rfl
    | some z =>
      obtain ⟨h1, h2⟩ := am_fnd_in hf
      exact absurd h2 (am_hnb h hX z h1)
  have hxb : ∀ j : Nat, (Int.negSucc 2147483647) ≤ (xs j).toInt ∧ (xs j).toInt ≤ Int.ofNat 2147483647 := fun j => ⟨(xs j).le_toInt, Int.le_of_lt_add_one (xs j).toInt_lt⟩
  have hGS : am_GS [(L : Int)] [b] (am_rho (am_gL o e d K V)) ([(Int.ofNat 0, Int.ofNat 2560)], [.inl (false, .inr (8, (some 0, Int.ofNat 0), .inl (Int.negSucc 2147483647, Int.ofNat 2147483647)))], [], (0, 0), (0, 0)) (am_w1 (am_gL o e d K V) b L xs, s.heap.size, 0, am_s1g o e d K x3 x4) := by
    refine ⟨⟨rfl, fun i c x h1 h2 => ?_⟩, ⟨rfl, (by simp), fun j c a h1 h2 => ?_, fun j r a h1 h2 => ?_⟩, fun z hz => (by cases hz), am_RI0 h hX x3 x4⟩
    · match i, h1, h2 with
      | 0, h1, h2 => cases h1; cases h2; exact ⟨Int.natCast_nonneg L, by show (L : Int) ≤ 2560; omega⟩
      | i + 1, h1, h2 => cases h1
    · match j, h1, h2 with
      | 0, h1, h2 => cases h1; cases h2; exact ⟨hρ, _, hw, L, _, rfl, (by simp [am_ev]), xs, rfl, fun j _ => hxb j⟩
      | j + 1, h1, h2 => cases h1
    · match j, h1, h2 with
      | 0, h1, h2 => cases h1
      | j + 1, h1, h2 => cases h1
  obtain ⟨r, hr, po, hpo, σ1, τ1, ρ, -, -, hos, -, hc1, hc2⟩ := hOK [(L : Int)] [b] _ _ [some (.ref b), none, none, none, none, none, none, none] [] hGS ⟨⟨b, rfl, rfl⟩, trivial⟩ trivial
  refine ⟨r, hr, ?_⟩
  have hpo : po ∈ am_lawP := hpo
  obtain rfl := List.mem_singleton.mp hpo
  obtain ⟨y, hy, i, hi, hev⟩ := hos
  have hi1 : i = 1 := by
    apply Int32.toInt_inj.mp
    have : (some (1 : Int)) = some i.toInt := hev
    exact (Option.some.inj this).symm
  refine ⟨by rw [hy, hi, hi1], ?_, ?_⟩
  · have h9 : (r.2.2.1 : Int) ≤ (s.heap.size : Int) + (599124 + 0 * (2560 - (L : Int))) := hc1
    omega
  · have h9 : (r.2.2.2.1 : Int) ≤ (0 : Int) + (7291346 + 0 * (2560 - (L : Int))) := hc2
    omega
end AMLW
