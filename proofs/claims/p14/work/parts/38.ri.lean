/-! THE START: the roles stand. Mine. -/
section AMRI
variable {s : State} {o e d b n base : Nat} {K V : Nat → Nat} {xs : Nat → Int32}
def am_Giv (o e d : Nat) (K V : Nat → Nat) (base : Nat) (s : State) : Prop :=
  va_T .long o 4 (fun j => .long (am_fO j)) (am_A base) s s.heap ∧ (∃ cell : Cell, s.heap[o]? = some cell ∧ cell.slots.size = 4 ∧ s.vm.findClass "[J" = some cell.cls) ∧ va_T (.object "java/lang/Object") e 0 (fun _ => .null) (am_A base) s s.heap ∧
  va_T .byte d 100 (fun j => .int (am_fD j)) (am_A base) s s.heap ∧ vk_S 20 am_lns am_bts K V (am_A base) s s.heap ∧ ∃ c, ClassAt s "java/lang/String" c
theorem am_T_ty {ty1 ty2 : FieldType} {a n1 n2 : Nat} {f1 f2 : Nat → Value} {A : Nat → Prop} {H : Heap} (h1 : va_T ty1 a n1 f1 A s H) (h2 : va_T ty2 a n2 f2 A s H) : ty1 = ty2 ∧ (n1 < 2 ^ 31 → n2 < 2 ^ 31 → n1 = n2) := by
  obtain ⟨c1, p1, ⟨-, k1, q1, m1, r1⟩, -, -, z1, -⟩ := h1
  obtain ⟨c2, p2, ⟨-, k2, q2, m2, r2⟩, -, -, z2, -⟩ := h2
  cases p1.symm.trans p2
  cases q1.symm.trans q2
  have hk := r1.symm.trans r2
  refine ⟨by injection hk, fun g1 g2 => ?_⟩
  have e1 : (Int32.ofNat n1).toNatClampNeg = n1 := Int32.toNatClampNeg_ofNat_of_lt g1
  have e2 : (Int32.ofNat n2).toNatClampNeg = n2 := Int32.toNatClampNeg_ofNat_of_lt g2
  rw [← z1, z2, e2] at e1
  exact e1.symm
theorem am_T_O {ty : FieldType} {a n1 : Nat} {f1 : Nat → Value} {A : Nat → Prop} {H : Heap} (h1 : va_T ty a n1 f1 A s H) (h2 : va_O "java/lang/String" a A s H) (h3 : ∃ c, ClassAt s "java/lang/String" c) : False := by
  obtain ⟨c1, p1, ⟨-, k1, q1, m1, r1⟩, -⟩ := h1
  obtain ⟨c2, p2, -, p3, -⟩ := h2
  obtain ⟨c, g1, kC, g2, g3⟩ := h3
  cases p1.symm.trans p2
  cases p3.symm.trans g1
  cases q1.symm.trans g2
  rw [r1] at g3
  cases g3
def am_rln (n : Nat) : Nat := match am_sq.find? (fun q => Nat.beq q.2.2.1.length n) with
  | some q => q.2.2.2.2
  | none => 2
def am_rf (t n : Nat) : Nat := if t = 9 then 0 else if t = 13 then 1 else am_rln n
theorem am_rln_at : ∀ i ∈ am_six, am_rln (am_sq1 i).2.2.1.length = (am_sq1 i).2.2.2.2 := by decide +kernel
theorem am_rln_d : am_rln 100 = 2 := by decide +kernel
def am_ZF (K : Nat → Nat) (base : Nat) (s : State) (z : Nat × Nat × am_En) : Prop := match z.2.2 with
  | .inl (t, n, A) => (t = 9 ∨ t = 11 ∨ t = 13) ∧ n < 2 ^ 31 ∧ va_T (am_tyl (t % 8)) z.1 n (am_fv A) (am_A base) s s.heap ∧ z.2.1 = am_rf t n
  | .inr _ => va_O "java/lang/String" z.1 (am_A base) s s.heap ∧ ∃ i ∈ am_six, z.1 = K i ∧ z.2.1 = (am_sq1 i).2.2.2.1
theorem am_T_fv {ty : FieldType} {a n1 : Nat} {f1 f2 : Nat → Value} {A : Nat → Prop} {H : Heap} (h : va_T ty a n1 f1 A s H) (hf : ∀ j, j < n1 → f1 j = f2 j) : va_T ty a n1 f2 A s H := by
  obtain ⟨c1, p1, p2, p3, p4, p5, p6, p7⟩ := h
  exact ⟨c1, p1, p2, p3, p4, p5, fun j hj => by rw [← hf j hj]; exact p6 j hj, p7⟩
theorem am_ZF_all (h : am_Giv o e d K V base s) : ∀ z ∈ am_gL o e d K V, am_ZF K base s z := by
  obtain ⟨hO, -, hE, hD, hS, -⟩ := h
  refine am_gL_all ⟨Or.inl rfl, by decide, hO, rfl⟩ ⟨Or.inr (Or.inr rfl), by decide, hE, rfl⟩ ⟨Or.inr (Or.inl rfl), by decide, hD, am_rln_d.symm⟩ (fun i hi => ?_) (fun i hi => ?_)
  · exact ⟨(hS.1 i (am_six_lt i hi)).1, i, hi, rfl, rfl⟩
  · have h4 := (hS.1 i (am_six_lt i hi)).2.2.2
    rw [am_lns_at i (am_six_lt i hi), am_bts_at (am_six_lt i hi)] at h4
    have h5 := am_lns_sm i (am_six_lt i hi)
    rw [am_lns_at i (am_six_lt i hi)] at h5
    exact ⟨Or.inr (Or.inl rfl), h5, h4, (am_rln_at i hi).symm⟩
theorem am_hco (h : am_Giv o e d K V base s) : ∀ z ∈ am_gL o e d K V, ∀ z' ∈ am_gL o e d K V, z.1 = z'.1 → z.2.1 = z'.2.1 := by
  intro z hz z' hz' he
  have f1 := am_ZF_all h z hz
  have f2 := am_ZF_all h z' hz'
  obtain ⟨a, r, x⟩ := z
  obtain ⟨a', r', x'⟩ := z'
  have he : a = a' := he
  subst he
  obtain ⟨-, -, -, -, hS, hC⟩ := h
  match x, x', f1, f2 with
  | .inl (t, n, A), .inl (t', n', A'), ⟨g1, g2, g3, g4⟩, ⟨k1, k2, k3, k4⟩ =>
    obtain ⟨q1, q2⟩ := am_T_ty g3 k3
    have q2 := q2 g2 k2
    subst q2
    have ht : t = t' := by
      rcases g1 with rfl | rfl | rfl <;> rcases k1 with rfl | rfl | rfl <;> first | rfl | cases q1
    subst ht
    exact g4.trans k4.symm
  | .inl (t, n, A), .inr _, ⟨g1, g2, g3, g4⟩, ⟨k1, k2⟩ => exact (am_T_O g3 k1 hC).elim
  | .inr _, .inl (t, n, A), ⟨k1, k2⟩, ⟨g1, g2, g3, g4⟩ => exact (am_T_O g3 k1 hC).elim
  | .inr _, .inr _, ⟨g1, i, g2, g3, g4⟩, ⟨k1, j, k2, k3, k4⟩ =>
    have g3 : a = K i := g3
    have k3 : a = K j := k3
    have hij := hS.2 i j (am_six_lt i g2) (am_six_lt j k2) (g3.symm.trans k3)
    subst hij
    exact g4.trans k4.symm
theorem am_rho_at (h : am_Giv o e d K V base s) {z : Nat × Nat × am_En} (hz : z ∈ am_gL o e d K V) : am_rho (am_gL o e d K V) z.1 = some z.2.1 := by
  obtain ⟨z', hf⟩ := am_fnd_ex hz
  obtain ⟨h1, h2⟩ := am_fnd_in hf
  unfold am_rho
  rw [hf]
  exact congrArg some (am_hco h z' h1 z hz h2)
theorem am_rolK : ∀ i ∈ am_six, am_role (am_sq1 i).2.2.2.1 = some ([], .inl (12, [am_sR (am_sq1 i).2.2.2.2, .inl (none, 0)])) := by
  intro i hi
  simp only [am_six, List.mem_cons, List.not_mem_nil, or_false] at hi
  rcases hi with rfl | rfl | rfl | rfl | rfl | rfl | rfl | rfl | rfl | rfl | rfl | rfl | rfl | rfl | rfl | rfl | rfl | rfl | rfl <;> rfl
theorem am_rolV : ∀ i ∈ am_six, am_role (am_sq1 i).2.2.2.2 = some ([], .inr (11, (none, ((am_sq1 i).2.2.1.length : Int)), .inl (-128, 127))) := by
  intro i hi
  simp only [am_six, List.mem_cons, List.not_mem_nil, or_false] at hi
  rcases hi with rfl | rfl | rfl | rfl | rfl | rfl | rfl | rfl | rfl | rfl | rfl | rfl | rfl | rfl | rfl | rfl | rfl | rfl | rfl <;> rfl
theorem am_bytb : ∀ i ∈ am_six, ∀ x ∈ (am_sq1 i).2.2.1, (-128 : Int) ≤ x.toInt ∧ x.toInt ≤ 127 := by decide +kernel
theorem am_fDb (i : Nat) : (-128 : Int) ≤ (am_fD i).toInt ∧ (am_fD i).toInt ≤ 127 := by
  have h : i % 10 < 10 := Nat.mod_lt _ (by decide)
  have h1 : (am_fD i).toInt = ((48 + i % 10 : Nat) : Int) := Int32.toInt_ofNat_of_lt (by omega)
  rw [h1]
  omega
theorem am_rov (h : am_Giv o e d K V base s) : ∀ z ∈ am_gL o e d K V, ∃ Er b0, am_role z.2.1 = some (Er, b0) ∧ am_ROV (am_rho (am_gL o e d K V)) Er b0 z.2.2 := by
  refine am_gL_all ⟨_, _, rfl, 4, _, rfl, rfl, _, rfl⟩ ⟨_, _, rfl, 0, _, rfl, rfl, _, rfl, rfl, fun i v q => (by cases q)⟩ ⟨_, _, rfl, 100, _, rfl, rfl, _, rfl, fun i _ => am_fDb i⟩ (fun i hi => ?_) (fun i hi => ?_)
  · exact ⟨_, _, am_rolK i hi, _, rfl, ⟨V i, am_rho_at h (am_gL_V hi), rfl⟩, ⟨0, rfl, by decide, by decide⟩, trivial⟩
  · refine ⟨_, _, am_rolV i hi, _, _, rfl, rfl, _, rfl, fun j hj => ?_⟩
    refine am_bytb i hi _ ?_
    show (am_sq1 i).2.2.1.getD j 0 ∈ (am_sq1 i).2.2.1
    rw [List.getD_eq_getElem?_getD, List.getElem?_eq_getElem hj]
    exact List.getElem_mem hj
theorem am_X_T (hX : va_X b n xs s s.heap) (hb : b < s.heap.size) : va_T .int b n (fun j => .int (xs j)) (am_A s.heap.size) s s.heap := by
  obtain ⟨scr, h1, h2, h3, h4, h5⟩ := hX
  exact ⟨scr, h1, h2, h3, (by omega), congrArg Nat.toInt32 h4, h5, am_nA s b hb⟩
theorem am_hnb (h : am_Giv o e d K V base s) (hX : va_T .int b n (fun j => .int (xs j)) (am_A base) s s.heap) : ∀ z ∈ am_gL o e d K V, z.1 ≠ b := by
  intro z hz he
  have f1 := am_ZF_all h z hz
  obtain ⟨a, r, x⟩ := z
  have he : a = b := he
  subst he
  match x, f1 with
  | .inl (t, n, A), ⟨g1, g2, g3, g4⟩ =>
    obtain ⟨q1, -⟩ := am_T_ty g3 hX
    rcases g1 with rfl | rfl | rfl <;> cases q1
  | .inr _, ⟨k1, k2⟩ => exact am_T_O hX k1 h.2.2.2.2.2
theorem am_RI0 (h : am_Giv o e d K V s.heap.size s) (hX : va_T .int b n (fun j => .int (xs j)) (am_A s.heap.size) s s.heap) (x3 x4 : Option Nat) :
    am_RI (am_rho (am_gL o e d K V)) ((am_w1 (am_gL o e d K V) b n xs, s.heap.size, 0, am_s1g o e d K x3 x4) : am_Wd) := by
  refine ⟨fun a r hr => ?_, fun a b' r hr h1 h2 => ?_, fun k h4 hk hs => ?_, fun a x hx => ?_⟩
  · unfold am_rho at hr
    obtain ⟨z, hf, rfl⟩ := Option.map_eq_some_iff.mp hr
    obtain ⟨hz, rfl⟩ := am_fnd_in hf
    obtain ⟨Er, b0, g1, g2⟩ := am_rov h z hz
    refine ⟨Er, b0, z.2.2, g1, ?_, g2⟩
    show am_w1 _ b n xs z.1 = _
    unfold am_w1
    rw [if_neg (am_hnb h hX z hz), hf]
    rfl
  · unfold am_rho at h1 h2
    obtain ⟨z, hf, e1⟩ := Option.map_eq_some_iff.mp h1
    obtain ⟨z', hf', e2⟩ := Option.map_eq_some_iff.mp h2
    obtain ⟨hz, rfl⟩ := am_fnd_in hf
    obtain ⟨hz', rfl⟩ := am_fnd_in hf'
    rw [am_gL_ad z hz (by omega), am_gL_ad z' hz' (by omega), e1, e2]
  · obtain ⟨z, hz, h1, h2⟩ := am_ad_gL (o := o) (e := e) (d := d) (K := K) (V := V) hk hs
    refine ⟨am_ad o e d K k, ?_, ?_⟩
    · show am_s1g o e d K x3 x4 k = _
      unfold am_s1g
      have h3 : k ≠ 3 := fun q => by subst q; revert hs; decide +kernel
      rw [if_neg h3, if_neg h4]
    · rw [← h1, am_rho_at h hz, h2]
  · have hx : am_w1 _ b n xs a = some x := hx
    unfold am_w1 at hx
    split at hx
    · rename_i hab
      subst hab
      obtain ⟨c, h1, -⟩ := hX
      exact (Array.getElem?_eq_some_iff.mp h1).1
    · obtain ⟨z, hf, rfl⟩ := Option.map_eq_some_iff.mp hx
      obtain ⟨hz, rfl⟩ := am_fnd_in hf
      have f1 := am_ZF_all h z hz
      obtain ⟨a, r, x⟩ := z
      match x, f1 with
      | .inl (t, n, A), ⟨g1, g2, ⟨c, h1, _⟩, g4⟩ => exact (Array.getElem?_eq_some_iff.mp h1).1
      | .inr _, ⟨⟨c, h1, _⟩, k2⟩ => exact (Array.getElem?_eq_some_iff.mp h1).1
end AMRI
