/-! THE START: what is known of what stood there before, as roles and a first world. Mine. -/
section AMRH
variable {s : State} {o e d b n : Nat} {K V : Nat → Nat} {xs : Nat → Int32}
def am_six : List Nat := [0, 1, 2, 3, 4, 5, 6, 7, 8, 9, 10, 11, 12, 14, 15, 16, 17, 18, 19]
def am_gL (o e d : Nat) (K V : Nat → Nat) : List (Nat × Nat × am_En) :=
  [(o, 0, .inl (9, 4, .inr (.inl am_fO))), (e, 1, .inl (13, 0, .inr (.inr (.inr (.inr (fun _ => none)))))), (d, 2, .inl (11, 100, .inl am_fD))] ++
  (am_six.map (fun i => (K i, (am_sq1 i).2.2.2.1, .inr (12, [.ref (V i), .int 0]))) ++
   am_six.map (fun i => (V i, (am_sq1 i).2.2.2.2, .inl (11, (am_sq1 i).2.2.1.length, .inl (fun j => (am_sq1 i).2.2.1.getD j 0)))))
def am_fnd (L : List (Nat × Nat × am_En)) (a : Nat) : Option (Nat × Nat × am_En) := L.find? fun z => Nat.beq z.1 a
def am_rho (L : List (Nat × Nat × am_En)) (a : Nat) : Option Nat := (am_fnd L a).map fun z => z.2.1
def am_ixr (r : Nat) : Nat := (am_six.find? fun i => Nat.beq (am_sq1 i).2.2.2.1 r).getD 0
def am_ad (o e d : Nat) (K : Nat → Nat) (r : Nat) : Nat := if r = 0 then o else if r = 1 then e else if r = 2 then d else K (am_ixr r)
def am_s1g (o e d : Nat) (K : Nat → Nat) (x3 x4 : Option Nat) (r : Nat) : Option Nat := if r = 3 then x3 else if r = 4 then x4 else some (am_ad o e d K r)
def am_w1 (L : List (Nat × Nat × am_En)) (b n : Nat) (xs : Nat → Int32) (a : Nat) : Option am_En := if a = b then some (.inl (8, n, .inl xs)) else (am_fnd L a).map fun z => z.2.2
theorem am_fnd_in {L : List (Nat × Nat × am_En)} {a : Nat} {z : Nat × Nat × am_En} (h : am_fnd L a = some z) : z ∈ L ∧ z.1 = a := by
  refine ⟨List.mem_of_find?_eq_some h, ?_⟩
  have := List.find?_some h
  exact Nat.eq_of_beq_eq_true this
theorem am_fnd_ex {L : List (Nat × Nat × am_En)} {z : Nat × Nat × am_En} (h : z ∈ L) : ∃ z', am_fnd L z.1 = some z' := by
  cases hf : am_fnd L z.1 with
  | some z' => exact ⟨z', rfl⟩
  | none =>
    have := List.find?_eq_none.mp hf z h
    exact absurd (Nat.beq_refl z.1) this
/-- the entries, one by one -/
theorem am_gL_all {P : Nat × Nat × am_En → Prop} (h0 : P (o, 0, .inl (9, 4, .inr (.inl am_fO)))) (h1 : P (e, 1, .inl (13, 0, .inr (.inr (.inr (.inr (fun _ => none))))))) (h2 : P (d, 2, .inl (11, 100, .inl am_fD)))
    (h3 : ∀ i ∈ am_six, P (K i, (am_sq1 i).2.2.2.1, .inr (12, [.ref (V i), .int 0]))) (h4 : ∀ i ∈ am_six, P (V i, (am_sq1 i).2.2.2.2, .inl (11, (am_sq1 i).2.2.1.length, .inl (fun j => (am_sq1 i).2.2.1.getD j 0)))) : ∀ z ∈ am_gL o e d K V, P z := by
  intro z hz
  rcases List.mem_append.mp hz with hz | hz
  · simp only [List.mem_cons, List.not_mem_nil, or_false] at hz
    rcases hz with rfl | rfl | rfl
    · exact h0
    · exact h1
    · exact h2
  · rcases List.mem_append.mp hz with hz | hz
    · obtain ⟨i, hi, rfl⟩ := List.mem_map.mp hz
      exact h3 i hi
    · obtain ⟨i, hi, rfl⟩ := List.mem_map.mp hz
      exact h4 i hi
theorem am_gL_K {i : Nat} (hi : i ∈ am_six) : (K i, (am_sq1 i).2.2.2.1, (.inr (12, [.ref (V i), .int 0]) : am_En)) ∈ am_gL o e d K V := List.mem_append_right _ (List.mem_append_left _ (List.mem_map.mpr ⟨i, hi, rfl⟩))
theorem am_gL_V {i : Nat} (hi : i ∈ am_six) : (V i, (am_sq1 i).2.2.2.2, (.inl (11, (am_sq1 i).2.2.1.length, .inl (fun j => (am_sq1 i).2.2.1.getD j 0)) : am_En)) ∈ am_gL o e d K V := List.mem_append_right _ (List.mem_append_right _ (List.mem_map.mpr ⟨i, hi, rfl⟩))
theorem am_six_lt : ∀ i ∈ am_six, i < 20 := by decide
theorem am_ixr_at : ∀ i ∈ am_six, am_ixr (am_sq1 i).2.2.2.1 = i ∧ 10 ≤ (am_sq1 i).2.2.2.1 ∧ (am_sq1 i).2.2.2.1 < 30 := by decide +kernel
theorem am_rlb : ∀ i ∈ am_six, 30 ≤ (am_sq1 i).2.2.2.2 := by decide +kernel
end AMRH
