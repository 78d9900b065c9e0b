/-! THE START: the roles stand. Mine. -/
section AMRI
variable {s : State} {o e d b n base : Nat} {K V : Nat → Nat} {xs : Nat → Int32}
def am_Giv (o e d : Nat) (K V : Nat → Nat) (base : Nat) (s : State) : Prop :=
  va_T .long o 4 (fun j => .long (am_fO j)) (am_A base) s s.heap ∧ (∃ cell : Cell, s.heap[o]? = some cell ∧ cell.slots.size = 4 ∧ s.vm.findClass "[J" = some cell.cls) ∧ va_T (.object "java/lang/Object") e 0 (fun _ => .null) (am_A base) s s.heap ∧
  va_T .byte d 100 (fun j => .int (am_fD j)) (am_A base) s s.heap ∧ vk_S 20 am_lns am_bts K V (am_A base) s s.heap ∧ ∃ c, ClassAt s "java/lang/String" c
theorem am_T_ty {ty1 ty2 : FieldType} {a n1 n2 : Nat} {f1 f2 : Nat → Value} {A : Nat → Prop} {H : Heap} (h1 : va_T ty1 a n1 f1 A s H) (h2 : va_T ty2 a n2 f2 A s H) : ty1 = ty2 ∧ (n1 < 2 ^ 31 → n2 < 2 ^ 31 → n1 = n2) := by
  obtain ⟨c1, p1, ⟨-, k1, q1, m1, r1⟩, -, -, z1, -⟩ := h1
  obtain ⟨c2, p2, ⟨-, k2, q2, m2, r2⟩, -, -, z2, -⟩ := h2
  cases p1.symm.trans p2
  cases q1.symm.trans q2
  have hk := r1.symm.trans r2
  refine ⟨by injection hk, fun g1 g2 => ?_⟩
  have e1 : (Int32.ofNat n1).toNatClampNeg = n1 := Int32.toNatClampNeg_ofNat_of_lt g1
  have e2 : (Int32.ofNat n2).toNatClampNeg = n2 := Int32.toNatClampNeg_ofNat_of_lt g2
  rw [← z1, z2, e2] at e1
  exact e1.symm
theorem am_T_O {ty : FieldType} {a n1 : Nat} {f1 : Nat → Value} {A : Nat → Prop} {H : Heap} (h1 : va_T ty a n1 f1 A s H) (h2 : va_O "java/lang/String" a A s H) (h3 : ∃ c, ClassAt s "java/lang/String" c) : False := by
  obtain ⟨c1, p1, ⟨-, k1, q1, m1, r1⟩, -⟩ := h1
  obtain ⟨c2, p2, -, p3, -⟩ := h2
  obtain ⟨c, g1, kC, g2, g3⟩ := h3
  cases p1.symm.trans p2
  cases p3.symm.trans g1
  cases q1.symm.trans g2
  rw [r1] at g3
  cases g3
def am_rln (n : Nat) : Nat := match am_sq.find? (fun q => Nat.beq q.2.2.1.length n) with
  | some q => q.2.2.2.2
  | none => 2
def am_rf (t n : Nat) : Nat := if t = 9 then 0 else if t = 13 then 1 else am_rln n
theorem am_rln_at : ∀ i ∈ am_six, am_rln (am_sq1 i).2.2.1.length = (am_sq1 i).2.2.2.2 := by decide +kernel
theorem am_rln_d : am_rln 100 = 2 := by decide +kernel
def am_ZF (K : Nat → Nat) (base : Nat) (s : State) (z : Nat × Nat × am_En) : Prop := match z.2.2 with
  | .inl (t, n, A) => (t = 9 ∨ t = 11 ∨ t = 13) ∧ n < 2 ^ 31 ∧ va_T (am_tyl (t % 8)) z.1 n (am_fv A) (am_A base) s s.heap ∧ z.2.1 = am_rf t n
  | .inr _ => va_O "java/lang/String" z.1 (am_A base) s s.heap ∧ ∃ i ∈ am_six, z.1 = K i ∧ z.2.1 = (am_sq1 i).2.2.2.1
theorem am_T_fv {ty : FieldType} {a n1 : Nat} {f1 f2 : Nat → Value} {A : Nat → Prop} {H : Heap} (h : va_T ty a n1 f1 A s H) (hf : ∀ j, j < n1 → f1 j = f2 j) : va_T ty a n1 f2 A s H := by
  obtain ⟨c1, p1, p2, p3, p4, p5, p6, p7⟩ := h
  exact ⟨c1, p1, p2, p3, p4, p5, fun j hj => by rw [← hf j hj]; exact p6 j hj, p7⟩
theorem am_ZF_all (h : am_Giv o e d K V base s) : ∀ z ∈ am_gL o e d K V, am_ZF K base s z := by
  obtain ⟨hO, -, hE, hD, hS, -⟩ := h
  refine am_gL_all ⟨Or.inl rfl, by decide, hO, rfl⟩ ⟨Or.inr (Or.inr rfl), by decide, hE, rfl⟩ ⟨Or.inr (Or.inl rfl), by decide, hD, am_rln_d.symm⟩ (fun i hi => ?_) (fun i hi => ?_)
  · exact ⟨(hS.1 i (am_six_lt i hi)).1, i, hi, rfl, rfl⟩
  · have h4 := (hS.1 i (am_six_lt i hi)).2.2.2
    rw [am_lns_at i (am_six_lt i hi), am_bts_at (am_six_lt i hi)] at h4
    have h5 := am_lns_sm i (am_six_lt i hi)
    rw [am_lns_at i (am_six_lt i hi)] at h5
    exact ⟨Or.inr (Or.inl rfl), h5, h4, (am_rln_at i hi).symm⟩
theorem am_hco (h : am_Giv o e d K V base s) : ∀ z ∈ am_gL o e d K V, ∀ z' ∈ am_gL o e d K V, z.1 = z'.1 → z.2.1 = z'.2.1 := by
  intro z hz z' hz' he
  have f1 := am_ZF_all h z hz
  have f2 := am_ZF_all h z' hz'
  obtain ⟨a, r, x⟩ := z
  obtain ⟨a', r', x'⟩ := z'
  have he : a = a' := he
  subst he
  obtain ⟨-, -, -, -, hS, hC⟩ := h
  match x, x', f1, f2 with
  | .inl (t, n, A), .inl (t', n', A'), ⟨g1, g2, g3, g4⟩, ⟨k1, k2, k3, k4⟩ =>
    obtain ⟨q1, q2⟩ := am_T_ty g3 k3
    have q2 := q2 g2 k2
    subst q2
    have ht : t = t' := by
      rcases g1 with rfl | rfl | rfl <;> rcases k1 with rfl | rfl | rfl <;> first | rfl | cases q1
    subst ht
    exact g4.trans k4.symm
  | .inl (t, n, A), .inr _, ⟨g1, g2, g3, g4⟩, ⟨k1, k2⟩ => exact (am_T_O g3 k1 hC).elim
  | .inr _, .inl (t, n, A), ⟨k1, k2⟩, ⟨g1, g2, g3, g4⟩ => exact (am_T_O g3 k1 hC).elim
  | .inr _, .inr _, ⟨g1, i, g2, g3, g4⟩, ⟨k1, j, k2, k3, k4⟩ =>
    have g3 : a = K i := g3
    have k3 : a = K j := k3
    have hij := hS.2 i j (am_six_lt i g2) (am_six_lt j k2) (g3.symm.trans k3)
    subst hij
    exact g4.trans k4.symm
theorem am_rho_at (h : am_Giv o e d K V base s) {z : Nat × Nat × am_En} (hz : z ∈ am_gL o e d K V) : am_rho (am_gL o e d K V) z.1 = some z.2.1 := by
  obtain ⟨z', hf⟩ := am_fnd_ex hz
  obtain ⟨h1, h2⟩ := am_fnd_in hf
  unfold am_rho
  rw [hf]
  exact congrArg some (am_hco h z' h1 z hz h2)
theorem am_X_T (hX : va_X b n xs s s.heap) (hb : b < s.heap.size) : va_T .int b n (fun j => .int (xs j)) (am_A s.heap.size) s s.heap := by
  obtain ⟨scr, h1, h2, h3, h4, h5⟩ := hX
  exact ⟨scr, h1, h2, h3, (by omega), congrArg Nat.toInt32 h4, h5, am_nA s b hb⟩
theorem am_hnb (h : am_Giv o e d K V base s) (hX : va_T .int b n (fun j => .int (xs j)) (am_A base) s s.heap) : ∀ z ∈ am_gL o e d K V, z.1 ≠ b := by
  intro z hz he
  have f1 := am_ZF_all h z hz
  obtain ⟨a, r, x⟩ := z
  have he : a = b := he
  subst he
  match x, f1 with
  | .inl (t, n, A), ⟨g1, g2, g3, g4⟩ =>
    obtain ⟨q1, -⟩ := am_T_ty g3 hX
    rcases g1 with rfl | rfl | rfl <;> cases q1
  | .inr _, ⟨k1, k2⟩ => exact am_T_O hX k1 h.2.2.2.2.2
theorem am_w1_lt (h : am_Giv o e d K V s.heap.size s) (hX : va_T .int b n (fun j => .int (xs j)) (am_A s.heap.size) s s.heap) {a : Nat} {x : am_En} (hx : am_w1 (am_gL o e d K V) b n xs a = some x) : a < s.heap.size := by
  unfold am_w1 at hx
  split at hx
  · rename_i hab
    subst hab
    obtain ⟨c, h1, -⟩ := hX
    exact (Array.getElem?_eq_some_iff.mp h1).1
  · obtain ⟨z, hf, rfl⟩ := Option.map_eq_some_iff.mp hx
    obtain ⟨hz, rfl⟩ := am_fnd_in hf
    have f1 := am_ZF_all h z hz
    obtain ⟨a, r, x⟩ := z
    match x, f1 with
    | .inl (t, n, A), ⟨g1, g2, ⟨c, h1, _⟩, g4⟩ => exact (Array.getElem?_eq_some_iff.mp h1).1
    | .inr _, ⟨⟨c, h1, _⟩, k2⟩ => exact (Array.getElem?_eq_some_iff.mp h1).1
/-! what stands in the first world -/
theorem am_w1_in (h : am_Giv o e d K V base s) (hX : va_T .int b n (fun j => .int (xs j)) (am_A base) s s.heap) {z : Nat × Nat × am_En} (hz : z ∈ am_gL o e d K V) : ∃ z' ∈ am_gL o e d K V, am_w1 (am_gL o e d K V) b n xs z.1 = some z'.2.2 ∧ z'.2.1 = z.2.1 := by
  obtain ⟨z', hf⟩ := am_fnd_ex hz
  obtain ⟨h1, h2⟩ := am_fnd_in hf
  refine ⟨z', h1, ?_, am_hco h z' h1 z hz h2⟩
  unfold am_w1
  rw [if_neg (am_hnb h hX z hz), hf]
  rfl
theorem am_w1_of (h : am_Giv o e d K V base s) (hX : va_T .int b n (fun j => .int (xs j)) (am_A base) s s.heap) {z : Nat × Nat × am_En} (hz : z ∈ am_gL o e d K V) {P : am_En → Prop} (hP : ∀ z' ∈ am_gL o e d K V, z'.2.1 = z.2.1 → P z'.2.2) : ∃ x, am_w1 (am_gL o e d K V) b n xs z.1 = some x ∧ P x := by
  obtain ⟨z', h1, h2, h3⟩ := am_w1_in h hX hz
  exact ⟨_, h2, hP z' h1 h3⟩
theorem am_w1_o (h : am_Giv o e d K V base s) (hX : va_T .int b n (fun j => .int (xs j)) (am_A base) s s.heap) : am_w1 (am_gL o e d K V) b n xs o = some (.inl (9, 4, .inr (.inl am_fO))) := by
  obtain ⟨x, h1, rfl⟩ := am_w1_of h hX (z := (o, 0, .inl (9, 4, .inr (.inl am_fO)))) (List.mem_append_left _ List.mem_cons_self) (P := fun x => x = .inl (9, 4, .inr (.inl am_fO))) (am_gL_all (fun _ => rfl) (fun q => absurd (show (1 : Nat) = 0 from q) (by decide)) (fun q => absurd (show (2 : Nat) = 0 from q) (by decide)) (fun i hi q => by
    have := (am_ixr_at i hi).2.1
    have q : (am_sq1 i).2.2.2.1 = 0 := q
    omega) (fun i hi q => by
    have := am_rlb i hi
    have q : (am_sq1 i).2.2.2.2 = 0 := q
    omega))
  exact h1
theorem am_w1_e (h : am_Giv o e d K V base s) (hX : va_T .int b n (fun j => .int (xs j)) (am_A base) s s.heap) : am_w1 (am_gL o e d K V) b n xs e = some (.inl (13, 0, .inr (.inr (.inr (.inr (fun _ => none)))))) := by
  obtain ⟨x, h1, rfl⟩ := am_w1_of h hX (z := (e, 1, .inl (13, 0, .inr (.inr (.inr (.inr (fun _ => none))))))) (List.mem_append_left _ (List.mem_cons_of_mem _ List.mem_cons_self)) (P := fun x => x = .inl (13, 0, .inr (.inr (.inr (.inr (fun _ => none)))))) (am_gL_all (fun q => absurd (show (0 : Nat) = 1 from q) (by decide)) (fun _ => rfl) (fun q => absurd (show (2 : Nat) = 1 from q) (by decide)) (fun i hi q => by
    have := (am_ixr_at i hi).2.1
    have q : (am_sq1 i).2.2.2.1 = 1 := q
    omega) (fun i hi q => by
    have := am_rlb i hi
    have q : (am_sq1 i).2.2.2.2 = 1 := q
    omega))
  exact h1
theorem am_w1_d (h : am_Giv o e d K V base s) (hX : va_T .int b n (fun j => .int (xs j)) (am_A base) s s.heap) : am_w1 (am_gL o e d K V) b n xs d = some (.inl (11, 100, .inl am_fD)) := by
  obtain ⟨x, h1, rfl⟩ := am_w1_of h hX (z := (d, 2, .inl (11, 100, .inl am_fD))) (List.mem_append_left _ (List.mem_cons_of_mem _ (List.mem_cons_of_mem _ List.mem_cons_self))) (P := fun x => x = .inl (11, 100, .inl am_fD)) (am_gL_all (fun q => absurd (show (0 : Nat) = 2 from q) (by decide)) (fun q => absurd (show (1 : Nat) = 2 from q) (by decide)) (fun _ => rfl) (fun i hi q => by
    have := (am_ixr_at i hi).2.1
    have q : (am_sq1 i).2.2.2.1 = 2 := q
    omega) (fun i hi q => by
    have := am_rlb i hi
    have q : (am_sq1 i).2.2.2.2 = 2 := q
    omega))
  exact h1
theorem am_w1_K (h : am_Giv o e d K V base s) (hX : va_T .int b n (fun j => .int (xs j)) (am_A base) s s.heap) {i : Nat} (hi : i ∈ am_six) : am_w1 (am_gL o e d K V) b n xs (K i) = some (.inr (12, [.ref (V i), .int 0])) := by
  obtain ⟨k1, k2, k3⟩ := am_ixr_at i hi
  obtain ⟨x, h1, rfl⟩ := am_w1_of h hX (am_gL_K hi) (P := fun x => x = .inr (12, [.ref (V i), .int 0])) (am_gL_all (fun q => by
    have q : 0 = (am_sq1 i).2.2.2.1 := q
    omega) (fun q => by
    have q : 1 = (am_sq1 i).2.2.2.1 := q
    omega) (fun q => by
    have q : 2 = (am_sq1 i).2.2.2.1 := q
    omega) (fun j hj q => by
    have q : (am_sq1 j).2.2.2.1 = (am_sq1 i).2.2.2.1 := q
    have := (am_ixr_at j hj).1
    rw [q, k1] at this
    subst this
    rfl) (fun j hj q => by
    have := am_rlb j hj
    have q : (am_sq1 j).2.2.2.2 = (am_sq1 i).2.2.2.1 := q
    omega))
  exact h1
theorem am_rl_ln : ∀ i ∈ am_six, ∀ j ∈ am_six, (am_sq1 j).2.2.2.2 = (am_sq1 i).2.2.2.2 → (am_sq1 j).2.2.1.length = (am_sq1 i).2.2.1.length := by decide +kernel
theorem am_rlk : ∀ i ∈ am_six, ∀ j ∈ am_six, (am_sq1 j).2.2.2.1 ≠ (am_sq1 i).2.2.2.2 := by decide +kernel
theorem am_byk : ∀ i ∈ am_six, ∀ x ∈ (am_sq1 i).2.2.1, am_ok .byte (.int x) = true := by decide +kernel
theorem am_w1_V (h : am_Giv o e d K V base s) (hX : va_T .int b n (fun j => .int (xs j)) (am_A base) s s.heap) {i : Nat} (hi : i ∈ am_six) : ∃ f : Nat → Int32, am_w1 (am_gL o e d K V) b n xs (V i) = some (.inl (11, (am_sq1 i).2.2.1.length, .inl f)) ∧ ∀ j, am_ok .byte (.int (f j)) = true := by
  have hr := am_rlb i hi
  obtain ⟨x, h1, f, rfl, hf⟩ := am_w1_of h hX (am_gL_V hi) (P := fun x => ∃ f : Nat → Int32, x = .inl (11, (am_sq1 i).2.2.1.length, .inl f) ∧ ∀ j, am_ok .byte (.int (f j)) = true) (am_gL_all (fun q => by
    have q : 0 = (am_sq1 i).2.2.2.2 := q
    omega) (fun q => by
    have q : 1 = (am_sq1 i).2.2.2.2 := q
    omega) (fun q => by
    have q : 2 = (am_sq1 i).2.2.2.2 := q
    omega) (fun j hj q => absurd q (am_rlk i hi j hj)) (fun j hj q => by
    have ln := am_rl_ln i hi j hj q
    refine ⟨fun z => (am_sq1 j).2.2.1.getD z 0, by rw [← ln], fun z => ?_⟩
    show am_ok .byte (.int ((am_sq1 j).2.2.1.getD z 0)) = true
    rw [List.getD_eq_getElem?_getD]
    by_cases hz : z < (am_sq1 j).2.2.1.length
    · rw [List.getElem?_eq_getElem hz]
      exact am_byk j hj _ (List.getElem_mem hz)
    · rw [List.getElem?_eq_none (by omega)]
      rfl))
  exact ⟨f, h1, hf⟩
theorem am_T_eq {ty : FieldType} {a n1 : Nat} {f1 f2 : Nat → Value} {A : Nat → Prop} {H : Heap} (h1 : va_T ty a n1 f1 A s H) (h2 : va_T ty a n1 f2 A s H) : ∀ j, j < n1 → f1 j = f2 j := by
  obtain ⟨c1, p1, -, -, -, -, p6, -⟩ := h1
  obtain ⟨c2, q1, -, -, -, -, q6, -⟩ := h2
  cases p1.symm.trans q1
  intro j hj
  exact Option.some.inj ((p6 j hj).symm.trans (q6 j hj))
/-- the same, with what it holds -/
theorem am_w1_Vc (h : am_Giv o e d K V base s) (hX : va_T .int b n (fun j => .int (xs j)) (am_A base) s s.heap) {i : Nat} (hi : i ∈ am_six) : ∃ f : Nat → Int32, am_w1 (am_gL o e d K V) b n xs (V i) = some (.inl (11, (am_sq1 i).2.2.1.length, .inl f)) ∧ (∀ j, am_ok .byte (.int (f j)) = true) ∧ ∀ j, j < (am_sq1 i).2.2.1.length → f j = (am_sq1 i).2.2.1.getD j 0 := by
  obtain ⟨f, h1, h2⟩ := am_w1_V h hX hi
  refine ⟨f, h1, h2, ?_⟩
  have hz := am_gL_V (o := o) (e := e) (d := d) (K := K) (V := V) hi
  obtain ⟨⟨a', r', x'⟩, hf⟩ := am_fnd_ex hz
  obtain ⟨h3, h4⟩ := am_fnd_in hf
  have h4 : a' = V i := h4
  have h5 : am_w1 (am_gL o e d K V) b n xs (V i) = some x' := by
    unfold am_w1
    rw [if_neg (am_hnb h hX _ hz), hf]
    rfl
  have h6 : x' = .inl (11, (am_sq1 i).2.2.1.length, .inl f) := Option.some.inj (h5.symm.trans h1)
  subst h6
  subst h4
  obtain ⟨-, -, g3, -⟩ := am_ZF_all h _ h3
  obtain ⟨-, -, k3, -⟩ := am_ZF_all h _ hz
  intro j hj
  exact Value.int.inj (am_T_eq g3 k3 j hj)
end AMRI
