/-! NEW THINGS: arrays, rows of arrays; copies; statics; sameness. Mine. -/
section AMNW
variable {K : am_K0} {σ : List Int} {τ : List Nat} {ρ : am_Rh} {h : am_Hp} {w : am_Wd}
/-- something comes that has no name yet -/
theorem am_IV_un (hI : am_IV K σ τ ρ h w) (e : am_En) (n : Nat) : am_IV K σ τ ρ (am_use h 1 n) (am_nw w e n) ∧ ρ w.2.1 = none ∧ (∀ (o : Nat), τ[o]? ≠ some w.2.1) ∧ K.2.2.2.2.2.1 ≤ w.2.1 := by
  have hold : ∀ a' e', w.1 a' = some e' → (am_nw w e n).1 a' = w.1 a' := fun a' e' p => am_nw_ne w e n (fun q => by have := hI.lt p; omega)
  have hfr : ρ w.2.1 = none := by
    cases hx : ρ w.2.1 with
    | none => rfl
    | some r => have := hI.ltr hx; omega
  have hltt : ∀ (o : Nat), τ[o]? ≠ some w.2.1 := fun (o : Nat) p => by have := hI.ltt p; omega
  obtain ⟨⟨e1, ⟨o1, o2, o3, o4⟩, l1, r1, r2, r3, r4⟩, f1, f2, ⟨g1, g2, g3, g4, g5, g6⟩, f4, f5, f6, f7⟩ := hI
  refine ⟨⟨⟨e1, ⟨o1, o2, fun o' b' a' p q => ?_, o4⟩, am_LI_mo List.prefix_rfl List.prefix_rfl (fun a' t x k _ => hold a' _ k) l1, fun a' r' p => ?_, r2, r3, fun a' e' p => ?_⟩, f1, f2, ⟨g1, fun a' k1 k2 k3 => ?_, fun a' t x k1 k2 => ?_, Nat.le_trans g4 (Nat.le_succ _), g5, Nat.le_trans g6 (Nat.le_add_right _ _)⟩, f4, f5, ?_, ?_⟩, hfr, hltt, g4⟩
  · obtain ⟨z1, e', z2, z3⟩ := o3 o' b' a' p q
    exact ⟨z1, e', by rw [hold a' e' z2]; exact z2, z3⟩
  · obtain ⟨Er, b', e', k1, k2, k3⟩ := r1 a' r' p
    exact ⟨Er, b', e', k1, by rw [hold a' e' k2]; exact k2, k3⟩
  · show a' < w.2.1 + 1
    by_cases hq : a' = w.2.1
    · omega
    · rw [am_nw_ne w e n hq] at p
      have := r4 a' e' p
      omega
  · obtain ⟨m1, m2⟩ := g2 a' k1 k2 k3
    exact ⟨m1, by rw [am_nw_ne w e n (by omega)]; exact m2⟩
  · have m := g3 a' t x k1 k2
    rw [hold a' _ (m.trans k1)]
    exact m
  · show ((w.2.1 + 1 : Nat) : Int) ≤ _ + am_cs K.2.1 (h.2.2.2.1.1 + 1, h.2.2.2.1.2)
    rw [am_cs_add]
    omega
  · show ((w.2.2.1 + n : Nat) : Int) ≤ _ + am_cs K.2.1 (h.2.2.2.2.1 + (n : Int), h.2.2.2.2.2)
    rw [am_cs_add]
    omega
/-- it gets a name -/
theorem am_IV_nm (hI : am_IV K σ τ ρ h w) {b : am_SO} {e : am_En} {a : Nat} (hb : am_OV σ τ ρ b e) (he : w.1 a = some e) (hr : ρ a = none) (ht : ∀ (o : Nat), τ[o]? ≠ some a) (hk : K.2.2.2.2.2.1 ≤ a) : am_IV K σ (τ ++ [a]) ρ (h.1, h.2.1 ++ [.inl (true, b)], h.2.2) w ∧ am_VV σ (τ ++ [a]) ρ (am_sO h.2.1.length) (.ref a) := by
  have hτ : τ <+: τ ++ [a] := List.prefix_append _ _
  have hmo : am_mo σ σ τ (τ ++ [a]) ρ ρ := ⟨List.prefix_rfl, hτ, fun _ _ h => h⟩
  have hnew : ∀ (o x : Nat), (τ ++ [a])[o]? = some x → (o < τ.length ∧ τ[o]? = some x) ∨ (o = τ.length ∧ x = a) := by
    intro o x p
    by_cases ho : o < τ.length
    · rw [List.getElem?_append_left ho] at p; exact Or.inl ⟨ho, p⟩
    · rw [List.getElem?_append_right (by omega)] at p
      cases hz : o - τ.length with
      | zero => rw [hz] at p; exact Or.inr ⟨by omega, (Option.some.inj p).symm⟩
      | succ j => rw [hz] at p; cases p
  have hlen := hI.1.2.1.1
  have hos : ∀ (o : Nat) (x : (Bool × am_SO) ⊕ Nat), (h.2.1 ++ [.inl (true, b)])[o]? = some x → (o < τ.length ∧ h.2.1[o]? = some x) ∨ (o = τ.length ∧ x = .inl (true, b)) := by
    intro o x p
    by_cases ho : o < h.2.1.length
    · rw [List.getElem?_append_left ho] at p; exact Or.inl ⟨by omega, p⟩
    · rw [List.getElem?_append_right (by omega)] at p
      cases hz : o - h.2.1.length with
      | zero => rw [hz] at p; exact Or.inr ⟨by omega, (Option.some.inj p).symm⟩
      | succ j => rw [hz] at p; cases p
  obtain ⟨⟨e1, ⟨o1, o2, o3, o4⟩, l1, r1, r2, r3, r4⟩, f1, f2, ⟨g1, g2, g3, g4, g5, g6⟩, f4, f5, f6, f7⟩ := hI
  refine ⟨⟨⟨e1, ⟨by show (h.2.1 ++ [_]).length = _; simp [o1], ?_, fun o' b' a' p q => ?_, fun o' r' a' p q => ?_⟩, am_LI_mo List.prefix_rfl hτ (fun _ _ _ _ _ => rfl) l1, r1, r2, r3, r4⟩, f1, f2.trans hτ, ⟨g1, g2, g3, g4, g5, g6⟩, fun o' b' a' p q => ?_, fun o' a' p q => ?_, f6, f7⟩, ?_⟩
  · rw [List.nodup_append]
    refine ⟨o2, by simp, fun x hx c hc => ?_⟩
    rw [List.mem_singleton] at hc
    obtain ⟨i, hi⟩ := List.getElem?_of_mem hx
    intro q
    rw [q, hc] at hi
    exact ht i hi
  · rcases hos o' _ p with ⟨k1, k2⟩ | ⟨k1, k2⟩
    · rcases hnew o' a' q with ⟨m1, m2⟩ | ⟨m1, m2⟩
      · obtain ⟨z1, e', z2, z3⟩ := o3 o' b' a' k2 m2
        exact ⟨z1, e', z2, am_OV_mo hmo z3⟩
      · omega
    · rcases hnew o' a' q with ⟨m1, m2⟩ | ⟨m1, m2⟩
      · omega
      · obtain rfl := Sum.inl.inj k2
        subst m2
        exact ⟨hr, e, he, am_OV_mo hmo hb⟩
  · rcases hos o' _ p with ⟨k1, k2⟩ | ⟨k1, k2⟩
    · rcases hnew o' a' q with ⟨m1, m2⟩ | ⟨m1, m2⟩
      · exact o4 o' r' a' k2 m2
      · omega
    · cases k2
  · rcases hos o' _ p with ⟨k1, k2⟩ | ⟨k1, k2⟩
    · rcases hnew o' a' q with ⟨m1, m2⟩ | ⟨m1, m2⟩
      · exact f4 o' b' a' k2 m2
      · omega
    · rcases hnew o' a' q with ⟨m1, m2⟩ | ⟨m1, m2⟩
      · omega
      · subst m2; exact Or.inl hk
  · rcases hnew o' a' p with ⟨m1, m2⟩ | ⟨m1, m2⟩
    · exact f5 o' a' m2 q
    · subst m2; exact hk
  · refine ⟨a, ?_, rfl⟩
    rw [o1]
    simp
/-- it gets a role -/
theorem am_IV_rl (hI : am_IV K σ τ ρ h w) {e : am_En} {a r : Nat} (he : w.1 a = some e) (hr : ρ a = none) (ht : ∀ (o : Nat), τ[o]? ≠ some a) (hk : K.2.2.2.2.2.1 ≤ a) (h30 : 30 ≤ r) {Er : am_Ev} {b : am_SO} (hrl : am_role r = some (Er, b)) (hb : am_ROV ρ Er b e) :
    am_IV K σ τ (fun x => if x = a then some r else ρ x) h w ∧ am_mo σ σ τ τ ρ (fun x => if x = a then some r else ρ x) := by
  have hup : ∀ a' r', ρ a' = some r' → (if a' = a then some r else ρ a') = some r' := by
    intro a' r' p
    rw [if_neg (fun q => by subst q; rw [hr] at p; cases p)]
    exact p
  have hmo : am_mo σ σ τ τ ρ (fun x => if x = a then some r else ρ x) := ⟨List.prefix_rfl, List.prefix_rfl, hup⟩
  refine ⟨?_, hmo⟩
  obtain ⟨⟨e1, ⟨o1, o2, o3, o4⟩, l1, r1, r2, r3, r4⟩, f1, f2, ⟨g1, g2, g3, g4, g5, g6⟩, f4, f5, f6, f7⟩ := hI
  refine ⟨⟨e1, ⟨o1, o2, fun o' b1 a' p q => ?_, fun o' r' a' p q => hup a' r' (o4 o' r' a' p q)⟩, l1, fun a' r' p => ?_, fun x y r' k p q => ?_, fun k k1 k2 k3 => ?_, r4⟩, f1, f2, ⟨fun a' r' p => hup a' r' (g1 a' r' p), fun a' k1 k2 k3 => ?_, g3, g4, g5, g6⟩, f4, f5, f6, f7⟩
  · obtain ⟨k1, e', k2, k3⟩ := o3 o' b1 a' p q
    refine ⟨?_, e', k2, am_OV_mo hmo k3⟩
    show (if a' = a then some r else ρ a') = none
    rw [if_neg (fun z => by subst z; exact ht o' q)]
    exact k1
  · have p : (if a' = a then some r else ρ a') = some r' := p
    by_cases hq : a' = a
    · subst hq
      rw [if_pos rfl] at p
      obtain rfl := Option.some.inj p
      exact ⟨Er, b, e, hrl, he, am_ROV_mo hup hb⟩
    · rw [if_neg hq] at p
      obtain ⟨Er', b1, e', k1, k2, k3⟩ := r1 a' r' p
      exact ⟨Er', b1, e', k1, k2, am_ROV_mo hup k3⟩
  · have p : (if x = a then some r else ρ x) = some r' := p
    have q : (if y = a then some r else ρ y) = some r' := q
    have hx : x ≠ a := fun e => by rw [if_pos e] at p; have := Option.some.inj p; omega
    have hy : y ≠ a := fun e => by rw [if_pos e] at q; have := Option.some.inj q; omega
    rw [if_neg hx] at p
    rw [if_neg hy] at q
    exact r2 x y r' k p q
  · obtain ⟨a', z1, z2⟩ := r3 k k1 k2 k3
    exact ⟨a', z1, hup a' k z2⟩
  · obtain ⟨m1, m2⟩ := g2 a' k1 k2 k3
    refine ⟨?_, m2⟩
    show (if a' = a then some r else ρ a') = none
    rw [if_neg (by omega)]
    exact m1
theorem am_use_use (h : am_Hp) (a b c d : Int) : am_use (am_use h a b) c d = am_use h (a + c) (b + d) := by
  unfold am_use
  dsimp only
  rw [Int.add_assoc, Int.add_assoc]
theorem am_rows_ok {k r : Nat} (h30 : 30 ≤ r) {Er : am_Ev} {b : Int × Int} (hrl : am_role r = some (Er, .inr (0, (none, (k : Int)), .inl b))) (hb : b.1 ≤ 0 ∧ 0 ≤ b.2) : ∀ (i : Nat) {ρ : am_Rh} {h : am_Hp} {w : am_Wd}, am_IV K σ τ ρ h w →
    ∃ ρ', am_IV K σ τ ρ' (am_use h (i : Int) (i * k : Int)) (am_rows w k i) ∧ am_mo σ σ τ τ ρ ρ' ∧ (∀ j, j < i → ρ' (w.2.1 + j) = some r) ∧ (am_rows w k i).2.1 = w.2.1 + i ∧ (∀ a, a < w.2.1 → (am_rows w k i).1 a = w.1 a ∧ ρ' a = ρ a) := by
  intro i
  induction i with
  | zero =>
    intro ρ h w hI
    refine ⟨ρ, ?_, am_mo_rf _ _ _, fun j hj => by omega, rfl, fun a _ => ⟨rfl, rfl⟩⟩
    have e : am_use h ((0 : Nat) : Int) (((0 : Nat) : Int) * (k : Int)) = h := by
      unfold am_use
      simp
    rw [e]
    exact hI
  | succ i ih =>
    intro ρ h w hI
    obtain ⟨ρ1, hI1, m1, z1, z2, z3⟩ := ih hI
    obtain ⟨hI2, y1, y2, y3⟩ := am_IV_un hI1 (.inl (0, k, .inl (fun _ => 0))) k
    have hz : (0 : Int32).toInt = 0 := rfl
    obtain ⟨hI3, m3⟩ := am_IV_rl hI2 (am_nw_at _ _ _) y1 y2 y3 h30 hrl ⟨k, _, rfl, rfl, _, rfl, fun j hj => by (try dsimp only); omega⟩
    rw [am_use_use] at hI3
    refine ⟨_, ?_, am_mo_tr m1 m3, fun j hj => ?_, ?_, fun a ha => ?_⟩
    · have e1 : ((i + 1 : Nat) : Int) = (i : Int) + 1 := by omega
      have e2 : ((i + 1 : Nat) : Int) * (k : Int) = (i : Int) * (k : Int) + (k : Int) := by rw [e1, Int.add_mul, Int.one_mul]
      rw [e2, e1]
      exact hI3
    · show (if w.2.1 + j = (am_rows w k i).2.1 then some r else ρ1 (w.2.1 + j)) = some r
      by_cases hji : j = i
      · rw [if_pos (by rw [z2, hji])]
      · rw [if_neg (by rw [z2]; omega)]
        exact z1 j (by omega)
    · show (am_rows w k i).2.1 + 1 = _
      rw [z2]
      omega
    · constructor
      · show (am_nw (am_rows w k i) _ k).1 a = _
        rw [am_nw_ne _ _ _ (by rw [z2]; omega)]
        exact (z3 a ha).1
      · show (if a = (am_rows w k i).2.1 then some r else ρ1 a) = _
        rw [if_neg (by rw [z2]; omega)]
        exact (z3 a ha).2
theorem am_naS_ok (hI : am_IV K σ τ ρ h w) {t : Nat} {q : am_I} {n : Int32} (hq : am_ev σ q = some n.toInt) {p : am_SV × am_Hp} (h1 : am_naS h t q = some p) : ∃ w', am_na w t n = some w' ∧ am_IV K σ (τ ++ [w.2.1]) ρ p.2 w' ∧ am_VV σ (τ ++ [w.2.1]) ρ p.1 (.ref w.2.1) ∧ am_ge w w' := by
  unfold am_naS at h1
  split at h1
  · rename_i k hk
    have e := am_kn_ok hI.EB hq hk
    subst e
    split at h1
    · rename_i hc
      rw [Bool.and_eq_true, am_le_ok, am_le_ok] at hc
      obtain rfl := Option.some.inj h1
      have hcl : (n.toNatClampNeg : Int) = n.toInt := by
        show ((n.toInt.toNat : Nat) : Int) = _
        omega
      have h0 : ¬ (n < 0 ∨ 4096 < n.toNatClampNeg) := by
        rintro (hh | hh)
        · have h3 : n.toInt < (0 : Int32).toInt := Int32.lt_iff_toInt_lt.mp hh
          have h4 : (0 : Int32).toInt = 0 := rfl
          omega
        · omega
      have hb : am_OV σ τ ρ (.inr (t, (none, n.toInt), am_inS t n.toInt.toNat)) (.inl (t, n.toNatClampNeg, am_in t)) := by
        refine ⟨n.toNatClampNeg, am_in t, rfl, congrArg some hcl.symm, ?_⟩
        unfold am_inS am_in
        split
        · rename_i ht
          rw [if_pos (Nat.eq_of_beq_eq_true ht)]
          exact ⟨_, rfl⟩
        · rename_i ht
          have ht : ¬ t = 1 := fun z => ht (by rw [z]; rfl)
          rw [if_neg ht]
          split
          · rename_i ht4
            rw [if_pos (Nat.blt_eq.mp ht4)]
            exact ⟨_, rfl, fun i _ => by have h4 : (0 : Int32).toInt = 0 := rfl; dsimp only; omega⟩
          · rename_i ht4
            rw [if_neg (fun z => ht4 (Nat.blt_eq.mpr z))]
            refine ⟨_, rfl, by rw [List.length_replicate]; rfl, fun i v hv => ?_⟩
            rw [List.getElem?_replicate] at hv
            split at hv
            · obtain rfl := Option.some.inj hv; rfl
            · cases hv
      obtain ⟨m1, m2⟩ := am_IV_nw hI hb n.toNatClampNeg
      rw [hcl] at m1 m2
      refine ⟨_, ?_, m1, m2, am_ge_nw _ _ _⟩
      unfold am_na
      rw [if_neg h0]
    · cases h1
  · cases h1
theorem am_mnS_ok (hI : am_IV K σ τ ρ h w) {r : Nat} {q z : am_I} {n k : Int32} (hq : am_ev σ q = some n.toInt) (hz : am_ev σ z = some k.toInt) {p : am_SV × am_Hp} (h1 : am_mnS h r q z = some p) : ∃ w' ρ', am_mn w n k = some w' ∧ am_IV K σ (τ ++ [w.2.1]) ρ' p.2 w' ∧ am_VV σ (τ ++ [w.2.1]) ρ' p.1 (.ref w.2.1) ∧ am_mo σ σ τ (τ ++ [w.2.1]) ρ ρ' := by
  unfold am_mnS at h1
  split at h1
  · rename_i nn kk Er t m b hn hk hrl
    have e1 := am_kn_ok hI.EB hq hn
    have e2 := am_kn_ok hI.EB hz hk
    subst e1
    subst e2
    split at h1
    · rename_i hc
      simp only [Bool.and_eq_true, am_le_ok] at hc
      obtain ⟨⟨⟨⟨⟨⟨⟨⟨c1, c2⟩, c3⟩, c4⟩, c5⟩, c6⟩, c7⟩, c8⟩, c9⟩ := hc
      have c1 := Nat.eq_of_beq_eq_true c1
      subst c1
      have c2 := Nat.ble_eq.mp c2
      have c3 := am_qe_ok c3
      subst c3
      obtain rfl := Option.some.inj h1
      have hcn : (n.toNatClampNeg : Int) = n.toInt := by show ((n.toInt.toNat : Nat) : Int) = _; omega
      have hck : (k.toNatClampNeg : Int) = k.toInt := by show ((k.toInt.toNat : Nat) : Int) = _; omega
      have hneg : ∀ x : Int32, 0 ≤ x.toInt → ¬ x < 0 := by
        intro x hx hh
        have h3 : x.toInt < (0 : Int32).toInt := Int32.lt_iff_toInt_lt.mp hh
        have h4 : (0 : Int32).toInt = 0 := rfl
        omega
      have h0 : ¬ (n < 0 ∨ k < 0 ∨ 4096 < n.toNatClampNeg ∨ 4096 < k.toNatClampNeg) := by
        rintro (hh | hh | hh | hh)
        · exact hneg n c4 hh
        · exact hneg k c6 hh
        · omega
        · omega
      obtain ⟨hI1, y1, y2, y3⟩ := am_IV_un hI (.inl (6, n.toNatClampNeg, .inr (.inr (.inr (.inr (fun i => if i < n.toNatClampNeg then some (w.2.1 + 1 + i) else none)))))) n.toNatClampNeg
      rw [← hck] at hrl
      obtain ⟨ρ2, hI2, m2, z1, z2, z3⟩ := am_rows_ok (K := K) (σ := σ) (τ := τ) c2 hrl ⟨c8, c9⟩ n.toNatClampNeg hI1
      have hat : (am_rows (am_nw w (.inl (6, n.toNatClampNeg, .inr (.inr (.inr (.inr (fun i => if i < n.toNatClampNeg then some (w.2.1 + 1 + i) else none)))))) n.toNatClampNeg) k.toNatClampNeg n.toNatClampNeg).1 w.2.1 = some (.inl (6, n.toNatClampNeg, .inr (.inr (.inr (.inr (fun i => if i < n.toNatClampNeg then some (w.2.1 + 1 + i) else none)))))) := by
        rw [(z3 w.2.1 (Nat.lt_succ_self _)).1]
        exact am_nw_at _ _ _
      have hb : am_OV σ τ ρ2 (.inr (6, (none, n.toInt), .inr (.inr (.inr r)))) (.inl (6, n.toNatClampNeg, .inr (.inr (.inr (.inr (fun i => if i < n.toNatClampNeg then some (w.2.1 + 1 + i) else none)))))) := by
        refine ⟨_, _, rfl, congrArg some hcn.symm, _, rfl, fun i hi => ⟨w.2.1 + 1 + i, ?_, z1 i hi⟩⟩
        (try dsimp only)
        rw [if_pos hi]
      obtain ⟨hI3, v3⟩ := am_IV_nm hI2 hb hat ((z3 w.2.1 (Nat.lt_succ_self _)).2.trans y1) y2 y3
      have hmn : am_mn w n k = some (am_rows (am_nw w (.inl (6, n.toNatClampNeg, .inr (.inr (.inr (.inr (fun i => if i < n.toNatClampNeg then some (w.2.1 + 1 + i) else none)))))) n.toNatClampNeg) k.toNatClampNeg n.toNatClampNeg) := by
        unfold am_mn
        rw [if_neg h0]
      refine ⟨_, ρ2, hmn, ?_, v3, List.prefix_rfl, List.prefix_append _ _, m2.2.2⟩
      rw [am_use_use] at hI3
      rw [hcn, hck] at hI3
      exact hI3
    · cases h1
  · cases h1
theorem am_cyS_ok (hI : am_IV K σ τ ρ h w) {v0 v : am_SV} {x0 x : Value} (hv0 : am_VV σ τ ρ v0 x0) (hv : am_VV σ τ ρ v x) {qs qd qn : am_I} {sp dp n : Int32} (hs : am_ev σ qs = some sp.toInt) (hd : am_ev σ qd = some dp.toInt) (hn : am_ev σ qn = some n.toInt) {h' : am_Hp} (h1 : am_cyS h v0 qs v qd qn = some h') :
    ∃ a0 a w', x0 = .ref a0 ∧ x = .ref a ∧ am_cy w a0 sp a dp n = some w' ∧ am_IV K σ τ ρ h' w' ∧ w'.2 = w.2 := by
  have bs := am_bd_ok hI.EB hs
  have bd := am_bd_ok hI.EB hd
  have bn := am_bd_ok hI.EB hn
  unfold am_cyS at h1
  split at h1
  · rename_i t0 n0 b0 o t1 n1 b1 hr0 hr
    obtain ⟨a0, k0, A0, rfl, he0, hk0, ⟨f, rfl, hf⟩, -⟩ := am_ar_ok hI hv0 hr0
    obtain ⟨a, e, rfl, ha, ho, hna, he, hov⟩ := am_rv_in hI hv hr
    obtain ⟨k, A, rfl, hk, g, rfl, hg⟩ := hov
    split at h1
    · rename_i hc
      simp only [Bool.and_eq_true, am_le_ok] at hc
      obtain ⟨⟨⟨⟨⟨⟨⟨⟨c1, c2⟩, c3⟩, c4⟩, c5⟩, c6⟩, c7⟩, c8⟩, c9⟩ := hc
      have c1 := Nat.eq_of_beq_eq_true c1
      have c2 := Nat.eq_of_beq_eq_true c2
      subst c2
      obtain rfl := Option.some.inj h1
      have b0' := am_bd_ok hI.EB hk0
      have b1' := am_bd_ok hI.EB hk
      have hcs : (sp.toNatClampNeg : Int) = sp.toInt := by show ((sp.toInt.toNat : Nat) : Int) = _; omega
      have hcd : (dp.toNatClampNeg : Int) = dp.toInt := by show ((dp.toInt.toNat : Nat) : Int) = _; omega
      have hcn : (n.toNatClampNeg : Int) = n.toInt := by show ((n.toInt.toNat : Nat) : Int) = _; omega
      have hneg : ∀ x : Int32, 0 ≤ x.toInt → ¬ x < 0 := by
        intro x hx hh
        have h3 : x.toInt < (0 : Int32).toInt := Int32.lt_iff_toInt_lt.mp hh
        have h4 : (0 : Int32).toInt = 0 := rfl
        omega
      have hcond : (t0 % 8 = 3 ∧ (3 : Nat) = 3 ∧ ¬ sp < 0 ∧ ¬ dp < 0 ∧ ¬ n < 0) ∧ (sp.toNatClampNeg + n.toNatClampNeg ≤ k0 ∧ dp.toNatClampNeg + n.toNatClampNeg ≤ k) ∧ (∀ i, i < n.toNatClampNeg → am_ok .byte (.int (f (sp.toNatClampNeg + i))) = true) := by
        refine ⟨⟨c1, rfl, hneg _ (by omega), hneg _ (by omega), hneg _ (by omega)⟩, ⟨by omega, by omega⟩, fun i hi => ?_⟩
        have := hf (sp.toNatClampNeg + i) (by omega)
        exact decide_eq_true ⟨Int32.le_iff_toInt_le.mpr (by show (-128 : Int) ≤ _; omega), Int32.le_iff_toInt_le.mpr (by show _ ≤ (127 : Int); omega)⟩
      refine ⟨a0, a, am_pt w a (.inl (3, k, .inl (va_cpy f g sp.toNatClampNeg dp.toNatClampNeg n.toNatClampNeg))), rfl, rfl, ?_, am_IV_wr hI ho ha he (fun t x q => by cases q; omega) ⟨k, _, rfl, hk, _, rfl, fun j hj => ?_⟩, rfl⟩
      · unfold am_cy
        rw [he0, he]
        dsimp only
        rw [if_pos hcond]
      · have m1 := am_mi_le b0.1 b1.1
        have m2 := am_mx_ge b0.2 b1.2
        unfold va_cpy
        (try dsimp only)
        split
        · have := hf (sp.toNatClampNeg + (j - dp.toNatClampNeg)) (by omega); omega
        · have := hg j hj; omega
    · cases h1
  · cases h1
theorem am_sg_ok (hI : am_IV K σ τ ρ h w) {k : Nat} {v : am_SV} (h1 : am_sg k = some v) : am_VV σ τ ρ v (va_rf (w.2.2.2 k)) := by
  unfold am_sg at h1
  split at h1
  · obtain rfl := Option.some.inj h1
    show _ = _ ∨ _
    cases w.2.2.2 k with
    | none => exact Or.inl rfl
    | some a => exact Or.inr ⟨a, rfl⟩
  · rename_i h4
    split at h1
    · rename_i h30
      obtain ⟨r, hr, h1⟩ := Option.bind_eq_some_iff.mp h1
      obtain rfl := Option.some.inj h1
      obtain ⟨a, e1, e2⟩ := hI.1.2.2.2.2.2.1 k (fun q => h4 (by rw [q]; rfl)) (Nat.blt_eq.mp h30) (by rw [hr]; rfl)
      rw [e1]
      exact ⟨a, e2, rfl⟩
    · cases h1
theorem am_sm_ok (hI : am_IV K σ τ ρ h w) {v u : am_SV} {x y : Value} (hv : am_VV σ τ ρ v x) (hu : am_VV σ τ ρ u y) {o : Option Bool} (h1 : am_sm h v u = some o) : ∃ a c, x = .ref a ∧ y = .ref c ∧ ∀ b, o = some b → (b = true ↔ a = c) := by
  unfold am_sm at h1
  split at h1
  · rename_i p q hp hq
    obtain ⟨o1, f1, b1⟩ := p
    obtain ⟨o2, f2, b2⟩ := q
    obtain ⟨a, e, rfl, ha, -, -, -, -⟩ := am_rv_in hI hv hp
    obtain ⟨c, e', rfl, hc, -, -, -, -⟩ := am_rv_in hI hu hq
    obtain rfl := Option.some.inj h1
    refine ⟨a, c, rfl, rfl, fun b hb => ?_⟩
    obtain rfl := Option.some.inj hb
    refine ⟨fun z => ?_, fun z => ?_⟩
    · have z := Nat.eq_of_beq_eq_true z
      dsimp only at z
      subst z
      exact Option.some.inj (ha.symm.trans hc)
    · subst z
      have z := hI.inj ha hc
      show Nat.beq o1 o2 = true
      rw [z]
      exact Nat.beq_refl o2
  · rename_i p r hp hq
    obtain ⟨o1, f1, b1⟩ := p
    obtain ⟨a, e, rfl, -, -, hn, -, -⟩ := am_rv_in hI hv hp
    obtain ⟨c, rfl, hc⟩ := am_rv_ro hI hu hq
    obtain rfl := Option.some.inj h1
    refine ⟨a, c, rfl, rfl, fun b hb => ?_⟩
    obtain rfl := Option.some.inj hb
    refine ⟨fun z => (by cases z), fun z => ?_⟩
    subst z
    rw [hn] at hc
    cases hc
  · rename_i r p hp hq
    obtain ⟨o1, f1, b1⟩ := p
    obtain ⟨a, rfl, ha⟩ := am_rv_ro hI hv hp
    obtain ⟨c, e, rfl, -, -, hn, -, -⟩ := am_rv_in hI hu hq
    obtain rfl := Option.some.inj h1
    refine ⟨a, c, rfl, rfl, fun b hb => ?_⟩
    obtain rfl := Option.some.inj hb
    refine ⟨fun z => (by cases z), fun z => ?_⟩
    subst z
    rw [hn] at ha
    cases ha
  · rename_i r j hp hq
    obtain ⟨a, rfl, ha⟩ := am_rv_ro hI hv hp
    obtain ⟨c, rfl, hc⟩ := am_rv_ro hI hu hq
    obtain rfl := Option.some.inj h1
    refine ⟨a, c, rfl, rfl, fun b hb => ?_⟩
    split at hb
    · rename_i hrj
      have hrj := Nat.eq_of_beq_eq_true hrj
      subst hrj
      split at hb
      · rename_i h30
        obtain rfl := Option.some.inj hb
        exact ⟨fun _ => hI.1.2.2.2.2.1 a c r (Nat.blt_eq.mp h30) ha hc, fun _ => rfl⟩
      · cases hb
    · rename_i hrj
      obtain rfl := Option.some.inj hb
      refine ⟨fun z => (by cases z), fun z => ?_⟩
      subst z
      rw [ha] at hc
      exact absurd (by rw [Option.some.inj hc]; exact Nat.beq_refl _) hrj
  · cases h1
theorem am_vS_ok {v : Value} (h1 : am_vok v = true) : am_VV σ τ ρ (am_vS v) v := by
  cases v with
  | int x => exact ⟨x, rfl, rfl⟩
  | long x => exact ⟨x, rfl⟩
  | double x => exact ⟨x, rfl⟩
  | null => rfl
  | _ => cases h1
theorem am_df_ok : ∀ {l : List Value}, l.all am_vok = true → am_VS σ τ ρ (l.map am_vS) l
  | [], _ => trivial
  | v :: t, h1 => by
    rw [List.all_cons, Bool.and_eq_true] at h1
    exact ⟨am_vS_ok h1.1, am_df_ok h1.2⟩
theorem am_nul_ok {v : am_SV} {x : Value} (hv : am_VV σ τ ρ v x) : (am_nul v = some true → x = .null) ∧ (am_nul v = some false → ∃ a, x = .ref a) := by
  unfold am_nul
  split
  · rename_i k
    split
    · rename_i hk
      have hk := Nat.eq_of_beq_eq_true hk
      subst hk
      exact ⟨fun _ => hv, fun z => by cases z⟩
    · exact ⟨fun z => (by cases z), fun z => (by cases z)⟩
  · obtain ⟨a, -, hx⟩ := hv
    exact ⟨fun z => (by cases z), fun _ => ⟨a, hx⟩⟩
  · obtain ⟨a, -, hx⟩ := hv
    exact ⟨fun z => (by cases z), fun _ => ⟨a, hx⟩⟩
  · exact ⟨fun z => (by cases z), fun z => (by cases z)⟩
end AMNW
