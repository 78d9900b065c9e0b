/-! OBJECTS: what is written, made, published. Mine. -/
section AMHP
variable {K : am_K0} {σ : List Int} {τ : List Nat} {ρ : am_Rh} {h : am_Hp} {w : am_Wd}
theorem am_IV.ob (hI : am_IV K σ τ ρ h w) {o : Nat} {b : Bool × am_SO} (ho : h.2.1[o]? = some (.inl b)) {a : Nat} (ha : τ[o]? = some a) : ρ a = none ∧ ∃ e, w.1 a = some e ∧ am_OV σ τ ρ b.2 e := hI.1.2.1.2.2.1 o b a ho ha
theorem am_IV.rl (hI : am_IV K σ τ ρ h w) {o r : Nat} (ho : h.2.1[o]? = some (.inr r)) {a : Nat} (ha : τ[o]? = some a) : ρ a = some r := hI.1.2.1.2.2.2 o r a ho ha
theorem am_IV.at (hI : am_IV K σ τ ρ h w) {o : Nat} {x : (Bool × am_SO) ⊕ Nat} (ho : h.2.1[o]? = some x) : ∃ a, τ[o]? = some a := by
  have hl : o < τ.length := by rw [← hI.1.2.1.1]; exact (List.getElem?_eq_some_iff.mp ho).1
  exact ⟨τ[o], List.getElem?_eq_getElem hl⟩
theorem am_IV.role (hI : am_IV K σ τ ρ h w) {a r : Nat} (hr : ρ a = some r) : ∃ Er b e, am_role r = some (Er, b) ∧ w.1 a = some e ∧ am_ROV ρ Er b e := hI.1.2.2.2.1 a r hr
theorem am_IV.lt (hI : am_IV K σ τ ρ h w) {a : Nat} {e : am_En} (he : w.1 a = some e) : a < w.2.1 := hI.1.2.2.2.2.2.2 a e he
theorem am_IV.ltr (hI : am_IV K σ τ ρ h w) {a r : Nat} (hr : ρ a = some r) : a < w.2.1 := by
  obtain ⟨Er, b, e, -, he, -⟩ := hI.role hr
  exact hI.lt he
theorem am_IV.ltt (hI : am_IV K σ τ ρ h w) {o a : Nat} (ha : τ[o]? = some a) : a < w.2.1 := by
  have hl : o < h.2.1.length := by rw [hI.1.2.1.1]; exact (List.getElem?_eq_some_iff.mp ha).1
  have ho : h.2.1[o]? = some h.2.1[o] := List.getElem?_eq_getElem hl
  rcases hx : h.2.1[o] with b | r
  · rw [hx] at ho
    obtain ⟨-, e, he, -⟩ := hI.ob ho ha
    exact hI.lt he
  · rw [hx] at ho
    exact hI.ltr (hI.rl ho ha)
theorem am_IV.inj (hI : am_IV K σ τ ρ h w) {o o' a : Nat} (ha : τ[o]? = some a) (hb : τ[o']? = some a) : o = o' := by
  have hn := hI.1.2.1.2.1
  obtain ⟨h1, e1⟩ := List.getElem?_eq_some_iff.mp ha
  obtain ⟨h2, e2⟩ := List.getElem?_eq_some_iff.mp hb
  have hp := List.pairwise_iff_getElem.mp hn
  rcases Nat.lt_trichotomy o o' with q | q | q
  · exact absurd (e1.trans e2.symm) (hp o o' h1 h2 q)
  · exact q
  · exact absurd (e2.trans e1.symm) (hp o' o h2 h1 q)
theorem am_IV.own (hI : am_IV K σ τ ρ h w) {o : Nat} {b : am_SO} (ho : h.2.1[o]? = some (.inl (true, b))) {a : Nat} (ha : τ[o]? = some a) : K.2.2.2.2.2.1 ≤ a ∨ am_SN K.1 K.2.2.1 a := hI.2.2.2.2.1 o b a ho ha
theorem am_rv_in (hI : am_IV K σ τ ρ h w) {v : am_SV} {x : Value} (hv : am_VV σ τ ρ v x) {o : Nat} {fl : Bool} {b : am_SO} (h1 : am_rv h v = some (.inl (o, fl, b))) : ∃ a e, x = .ref a ∧ τ[o]? = some a ∧ h.2.1[o]? = some (.inl (fl, b)) ∧ ρ a = none ∧ w.1 a = some e ∧ am_OV σ τ ρ b e := by
  unfold am_rv at h1
  split at h1
  · rename_i o'
    obtain ⟨a, ha, rfl⟩ := hv
    split at h1
    · rename_i ob ho
      have h1 : (o', ob) = (o, fl, b) := Sum.inl.inj (Option.some.inj h1)
      obtain ⟨rfl, rfl⟩ := Prod.mk.inj h1
      obtain ⟨k1, e, k2, k3⟩ := hI.ob ho ha
      exact ⟨a, e, rfl, ha, ho, k1, k2, k3⟩
    · cases h1
    · cases h1
  · cases h1
  · cases h1
theorem am_rv_ro (hI : am_IV K σ τ ρ h w) {v : am_SV} {x : Value} (hv : am_VV σ τ ρ v x) {r : Nat} (h1 : am_rv h v = some (.inr r)) : ∃ a, x = .ref a ∧ ρ a = some r := by
  unfold am_rv at h1
  split at h1
  · rename_i o'
    obtain ⟨a, ha, rfl⟩ := hv
    split at h1
    · cases h1
    · rename_i r' ho
      obtain rfl := Sum.inr.inj (Option.some.inj h1)
      exact ⟨a, rfl, hI.rl ho ha⟩
    · cases h1
  · rename_i r'
    obtain ⟨a, ha, rfl⟩ := hv
    obtain rfl := Sum.inr.inj (Option.some.inj h1)
    exact ⟨a, rfl, ha⟩
  · cases h1
theorem am_ro1_ok (hI : am_IV K σ τ ρ h w) {v : am_SV} {x : Value} (hv : am_VV σ τ ρ v x) {r : Nat} (h1 : am_ro1 h v = some r) : ∃ a, x = .ref a ∧ ρ a = some r := by
  unfold am_ro1 at h1
  split at h1
  · rename_i r' hr
    obtain rfl := Option.some.inj h1
    exact am_rv_ro hI hv hr
  · cases h1
theorem am_rv_ref (hI : am_IV K σ τ ρ h w) {v : am_SV} {x : Value} (hv : am_VV σ τ ρ v x) (h1 : (am_rv h v).isSome = true) : ∃ a, x = .ref a := by
  cases hr : am_rv h v with
  | none => rw [hr] at h1; cases h1
  | some y =>
    rcases y with ⟨o, fl, b⟩ | r
    · obtain ⟨a, e, hx, -⟩ := am_rv_in hI hv hr; exact ⟨a, hx⟩
    · obtain ⟨a, hx, -⟩ := am_rv_ro hI hv hr; exact ⟨a, hx⟩
/-! kinds of values -/
theorem am_isL_ok {v : am_SV} {x : Value} (hv : am_VV σ τ ρ v x) (h1 : am_isL v = true) : ∃ j, x = .long j := by
  unfold am_isL at h1
  split at h1
  · rename_i k
    have hk := Nat.eq_of_beq_eq_true h1
    subst hk
    exact hv
  · cases h1
theorem am_isI_ok {v : am_SV} {x : Value} (hv : am_VV σ τ ρ v x) (h1 : am_isI v = true) : ∃ j, x = .int j := by
  unfold am_isI at h1
  split at h1
  · obtain ⟨i, hi, -⟩ := hv; exact ⟨i, hi⟩
  · cases h1
theorem am_dS_ok {v : am_SV} {x : Value} (hv : am_VV σ τ ρ v x) (h1 : am_dS v = true) : ∃ j, x = .double j := by
  unfold am_dS at h1
  split at h1
  · rename_i k
    have hk := Nat.eq_of_beq_eq_true h1
    subst hk
    exact hv
  · obtain ⟨d, -, hd⟩ := hv; exact ⟨d, hd⟩
  · cases h1
theorem am_rS_ok {v : am_SV} {x : Value} (hv : am_VV σ τ ρ v x) (h1 : am_rS v = true) : x = .null ∨ ∃ a, x = .ref a := by
  unfold am_rS at h1
  split at h1
  · cases h1
  · rename_i k
    rw [Bool.or_eq_true] at h1
    rcases h1 with h1 | h1
    · have hk := Nat.eq_of_beq_eq_true h1
      subst hk
      exact Or.inl hv
    · have hk := Nat.eq_of_beq_eq_true h1
      subst hk
      exact hv
  · obtain ⟨a, -, hx⟩ := hv; exact Or.inr ⟨a, hx⟩
  · obtain ⟨a, -, hx⟩ := hv; exact Or.inr ⟨a, hx⟩
  · cases h1
theorem am_cS_ok {v : am_SV} {x : Value} (hv : am_VV σ τ ρ v x) : am_c2 x = am_cS v := by
  unfold am_cS
  split
  · obtain ⟨i, rfl, -⟩ := hv; rfl
  · rename_i k
    have hv : (if k = 0 then ∃ j, x = .long j else if k = 1 then x = .null else if k = 2 then (x = .null ∨ ∃ a, x = .ref a) else if k = 3 then ∃ d, x = .double d else False) := hv
    split at hv
    · rename_i h0; subst h0; obtain ⟨j, rfl⟩ := hv; rfl
    · split at hv
      · rename_i h0; subst h0; subst hv; rfl
      · split at hv
        · rename_i h0; subst h0; rcases hv with rfl | ⟨a, rfl⟩ <;> rfl
        · split at hv
          · rename_i h0; subst h0; obtain ⟨j, rfl⟩ := hv; rfl
          · exact hv.elim
  · obtain ⟨a, -, rfl⟩ := hv; rfl
  · obtain ⟨a, -, rfl⟩ := hv; rfl
  · obtain ⟨a, -, rfl⟩ := hv; rfl
theorem am_bw_ok (hI : am_IV K σ τ ρ h w) {q : am_I} {x : Int} (hq : am_ev σ q = some x) {lo hi : Int} (h1 : am_bw h q lo hi = true) : lo ≤ x ∧ x ≤ hi := by
  unfold am_bw at h1
  rw [Bool.and_eq_true, am_le_ok, am_le_ok] at h1
  have := am_bd_ok hI.EB hq
  omega
theorem am_okS_ok (hI : am_IV K σ τ ρ h w) {ty : FieldType} {v : am_SV} {x : Value} (hv : am_VV σ τ ρ v x) (h1 : am_okS ty h v = true) : am_ok ty x = true := by
  have hz : (0 : Int32).toInt = 0 := rfl
  have hrs : ∀ v : am_SV, am_VV σ τ ρ v x → am_rS v = true → ∀ s, am_ok (.object s) x = true ∧ ∀ t, am_ok (.array t) x = true := by
    intro v hv h1 s
    rcases am_rS_ok hv h1 with rfl | ⟨a, rfl⟩ <;> exact ⟨rfl, fun _ => rfl⟩
  unfold am_okS at h1
  split at h1
  · obtain ⟨i, rfl, -⟩ := hv; rfl
  · rename_i k
    have hk := Nat.eq_of_beq_eq_true h1
    subst hk
    obtain ⟨j, rfl⟩ := hv
    rfl
  · obtain ⟨j, rfl⟩ := am_dS_ok hv h1; rfl
  · exact (hrs _ hv h1 _).1
  · exact (hrs _ hv h1 "").2 _
  · obtain ⟨i, rfl, hi⟩ := hv
    have hb := am_bw_ok hI hi h1
    rcases am_bit hb.1 hb.2 with rfl | rfl <;> rfl
  · obtain ⟨i, rfl, hi⟩ := hv
    have hb := am_bw_ok hI hi h1
    exact decide_eq_true ⟨Int32.le_iff_toInt_le.mpr hb.1, Int32.le_iff_toInt_le.mpr hb.2⟩
  · obtain ⟨i, rfl, hi⟩ := hv
    have hb := am_bw_ok hI hi h1
    exact decide_eq_true ⟨Int32.le_iff_toInt_le.mpr hb.1, Int32.le_iff_toInt_le.mpr hb.2⟩
  · cases h1
/-! a write to a named object -/
theorem am_pt_at (w : am_Wd) (a : Nat) (e : am_En) : (am_pt w a e).1 a = some e := if_pos rfl
theorem am_pt_ne (w : am_Wd) {a b : Nat} (e : am_En) (h : b ≠ a) : (am_pt w a e).1 b = w.1 b := if_neg h
def am_wrt (e : am_En) : Prop := ∀ (t : Nat) (x : vp_A), e = .inl (t, x) → t < 8
theorem am_IV_wr (hI : am_IV K σ τ ρ h w) {o : Nat} {b0 b : am_SO} (ho : h.2.1[o]? = some (.inl (true, b0))) {a : Nat} (ha : τ[o]? = some a) {e0 e : am_En} (he0 : w.1 a = some e0) (hr : am_wrt e0) (hb : am_OV σ τ ρ b e) : am_IV K σ τ ρ (am_ob h o b) (am_pt w a e) := by
  have hro : ∀ a' t x, w.1 a' = some (.inl (t, x)) → 8 ≤ t → (am_pt w a e).1 a' = w.1 a' := by
    intro a' t x hx ht
    refine am_pt_ne w e fun q => ?_
    subst q
    rw [he0] at hx
    have := hr t x (Option.some.inj hx)
    omega
  have hna : ρ a = none := (hI.ob ho ha).1
  have hlo : o < h.2.1.length := (List.getElem?_eq_some_iff.mp ho).1
  have hne : ∀ o' a', o' ≠ o → τ[o']? = some a' → a' ≠ a := fun o' a' hq ha' q => hq (hI.inj (by rw [q] at ha'; exact ha') ha)
  have hfr : ∀ a', a' < K.2.2.2.2.2.1 → ¬ am_SN K.1 K.2.2.1 a' → a' ≠ a := by
    intro a' h1 h2 q
    subst q
    rcases hI.own ho ha with k | k
    · omega
    · exact h2 k
  obtain ⟨⟨e1, ⟨o1, o2, o3, o4⟩, l1, r1, r2, r3, r4⟩, f1, f2, ⟨g1, g2, g3, g4, g5, g6⟩, f4, f5, f6, f7⟩ := hI
  refine ⟨⟨e1, ⟨by simp [am_ob, o1], o2, fun o' b' a' p q => ?_, fun o' r' a' p q => ?_⟩, am_LI_mo List.prefix_rfl List.prefix_rfl hro l1, fun a' r' p => ?_, r2, r3, fun a' e' p => ?_⟩, f1, f2, ⟨g1, fun a' k1 k2 k3 => ?_, fun a' t x k1 k2 => ?_, g4, g5, g6⟩, fun o' b' a' p q => ?_, f5, f6, f7⟩
  · by_cases hq : o = o'
    · subst hq
      have p : (h.2.1.set o (.inl (true, b)))[o]? = some (.inl b') := p
      rw [List.getElem?_set_self hlo] at p
      obtain rfl := Sum.inl.inj (Option.some.inj p)
      have ea : a' = a := Option.some.inj (q.symm.trans ha)
      subst ea
      exact ⟨hna, e, am_pt_at w a' e, hb⟩
    · have p : (h.2.1.set o (.inl (true, b)))[o']? = some (.inl b') := p
      rw [List.getElem?_set_ne hq] at p
      obtain ⟨k1, e', k2, k3⟩ := o3 o' b' a' p q
      exact ⟨k1, e', by rw [am_pt_ne w e (hne o' a' (Ne.symm hq) q)]; exact k2, k3⟩
  · by_cases hq : o = o'
    · subst hq
      have p : (h.2.1.set o (.inl (true, b)))[o]? = some (.inr r') := p
      rw [List.getElem?_set_self hlo] at p
      cases p
    · have p : (h.2.1.set o (.inl (true, b)))[o']? = some (.inr r') := p
      rw [List.getElem?_set_ne hq] at p
      exact o4 o' r' a' p q
  · obtain ⟨Er, b', e', k1, k2, k3⟩ := r1 a' r' p
    refine ⟨Er, b', e', k1, ?_, k3⟩
    rw [am_pt_ne w e (fun q => by subst q; rw [hna] at p; cases p)]
    exact k2
  · by_cases hq : a' = a
    · subst hq; exact r4 a' e0 he0
    · rw [am_pt_ne w e hq] at p; exact r4 a' e' p
  · obtain ⟨m1, m2⟩ := g2 a' k1 k2 k3
    exact ⟨m1, by rw [am_pt_ne w e (hfr a' k1 k2)]; exact m2⟩
  · have m := g3 a' t x k1 k2
    rw [hro a' t x (m.trans k1) k2]
    exact m
  · by_cases hq : o = o'
    · subst hq
      exact f4 o b0 a' ho q
    · have p : (h.2.1.set o (.inl (true, b)))[o']? = some (.inl (true, b')) := p
      rw [List.getElem?_set_ne hq] at p
      exact f4 o' b' a' p q
/-- to one of a role -/
theorem am_IV_wrR (hI : am_IV K σ τ ρ h w) {a r : Nat} (hr0 : ρ a = some r) {e0 e : am_En} (he0 : w.1 a = some e0) (hr : am_wrt e0) {Er : am_Ev} {b : am_SO} (hrl : am_role r = some (Er, b)) (hb : am_ROV ρ Er b e) : am_IV K σ τ ρ h (am_pt w a e) := by
  have hro : ∀ a' t x, w.1 a' = some (.inl (t, x)) → 8 ≤ t → (am_pt w a e).1 a' = w.1 a' := by
    intro a' t x hx ht
    refine am_pt_ne w e fun q => ?_
    subst q
    rw [he0] at hx
    have := hr t x (Option.some.inj hx)
    omega
  obtain ⟨⟨e1, ⟨o1, o2, o3, o4⟩, l1, r1, r2, r3, r4⟩, f1, f2, ⟨g1, g2, g3, g4, g5, g6⟩, f4, f5, f6, f7⟩ := hI
  refine ⟨⟨e1, ⟨o1, o2, fun o' b' a' p q => ?_, o4⟩, am_LI_mo List.prefix_rfl List.prefix_rfl hro l1, fun a' r' p => ?_, r2, r3, fun a' e' p => ?_⟩, f1, f2, ⟨g1, fun a' k1 k2 k3 => ?_, fun a' t x k1 k2 => ?_, g4, g5, g6⟩, f4, f5, f6, f7⟩
  · obtain ⟨k1, e', k2, k3⟩ := o3 o' b' a' p q
    refine ⟨k1, e', ?_, k3⟩
    rw [am_pt_ne w e (fun q => by subst q; rw [hr0] at k1; cases k1)]
    exact k2
  · by_cases hq : a' = a
    · subst hq
      have er : r' = r := Option.some.inj (p.symm.trans hr0)
      subst er
      exact ⟨Er, b, e, hrl, am_pt_at w a' e, hb⟩
    · obtain ⟨Er', b', e', k1, k2, k3⟩ := r1 a' r' p
      exact ⟨Er', b', e', k1, by rw [am_pt_ne w e hq]; exact k2, k3⟩
  · by_cases hq : a' = a
    · subst hq; exact r4 a' e0 he0
    · rw [am_pt_ne w e hq] at p; exact r4 a' e' p
  · obtain ⟨m1, m2⟩ := g2 a' k1 k2 k3
    refine ⟨m1, ?_⟩
    rw [am_pt_ne w e (fun q => by subst q; rw [hr0] at m1; cases m1)]
    exact m2
  · have m := g3 a' t x k1 k2
    rw [hro a' t x (m.trans k1) k2]
    exact m
theorem am_cs_add (σ : List Int) (c : Int × Int) (n : Int) : am_cs σ (c.1 + n, c.2) = am_cs σ c + n := by
  unfold am_cs
  dsimp only
  omega
/-- cells that nothing is said of -/
theorem am_IV_jk (hI : am_IV K σ τ ρ h w) (k n : Nat) : am_IV K σ τ ρ (am_use h k n) (am_jk w k n) := by
  obtain ⟨⟨e1, ⟨o1, o2, o3, o4⟩, l1, r1, r2, r3, r4⟩, f1, f2, ⟨g1, g2, g3, g4, g5, g6⟩, f4, f5, f6, f7⟩ := hI
  refine ⟨⟨e1, ⟨o1, o2, o3, o4⟩, l1, r1, r2, r3, fun a' e' p => Nat.lt_of_lt_of_le (r4 a' e' p) (Nat.le_add_right _ _)⟩, f1, f2, ⟨g1, g2, g3, Nat.le_trans g4 (Nat.le_add_right _ _), g5, Nat.le_trans g6 (Nat.le_add_right _ _)⟩, f4, f5, ?_, ?_⟩
  · show ((w.2.1 + k : Nat) : Int) ≤ _ + am_cs K.2.1 (h.2.2.2.1.1 + (k : Int), h.2.2.2.1.2)
    rw [am_cs_add]
    omega
  · show ((w.2.2.1 + n : Nat) : Int) ≤ _ + am_cs K.2.1 (h.2.2.2.2.1 + (n : Int), h.2.2.2.2.2)
    rw [am_cs_add]
    omega
theorem am_nw_at (w : am_Wd) (e : am_En) (n : Nat) : (am_nw w e n).1 w.2.1 = some e := if_pos rfl
theorem am_nw_ne (w : am_Wd) {b : Nat} (e : am_En) (n : Nat) (h : b ≠ w.2.1) : (am_nw w e n).1 b = w.1 b := if_neg h
/-- a new object -/
theorem am_IV_nw (hI : am_IV K σ τ ρ h w) {b : am_SO} {e : am_En} (hb : am_OV σ τ ρ b e) (n : Nat) : am_IV K σ (τ ++ [w.2.1]) ρ (am_nwS h b n).2 (am_nw w e n) ∧ am_VV σ (τ ++ [w.2.1]) ρ (am_nwS h b n).1 (.ref w.2.1) := by
  have hold : ∀ a' e', w.1 a' = some e' → (am_nw w e n).1 a' = w.1 a' := fun a' e' p => am_nw_ne w e n (fun q => by have := hI.lt p; omega)
  have hlen := hI.1.2.1.1
  have hfr : ρ w.2.1 = none := by
    cases hx : ρ w.2.1 with
    | none => rfl
    | some r => have := hI.ltr hx; omega
  have hτ : τ <+: τ ++ [w.2.1] := List.prefix_append _ _
  have hmo : am_mo σ σ τ (τ ++ [w.2.1]) ρ ρ := ⟨List.prefix_rfl, hτ, fun _ _ h => h⟩
  have hltt : ∀ o a, τ[o]? = some a → a < w.2.1 := fun o a p => hI.ltt p
  have hnew : ∀ (o a : Nat), (τ ++ [w.2.1])[o]? = some a → (o < τ.length ∧ τ[o]? = some a) ∨ (o = τ.length ∧ a = w.2.1) := by
    intro o a p
    by_cases ho : o < τ.length
    · rw [List.getElem?_append_left ho] at p; exact Or.inl ⟨ho, p⟩
    · rw [List.getElem?_append_right (by omega)] at p
      cases hz : o - τ.length with
      | zero => rw [hz] at p; exact Or.inr ⟨by omega, (Option.some.inj p).symm⟩
      | succ j => rw [hz] at p; cases p
  have hos : ∀ (o : Nat) (x : (Bool × am_SO) ⊕ Nat), (h.2.1 ++ [.inl (true, b)])[o]? = some x → (o < τ.length ∧ h.2.1[o]? = some x) ∨ (o = τ.length ∧ x = .inl (true, b)) := by
    intro o x p
    by_cases ho : o < h.2.1.length
    · rw [List.getElem?_append_left ho] at p; exact Or.inl ⟨by omega, p⟩
    · rw [List.getElem?_append_right (by omega)] at p
      cases hz : o - h.2.1.length with
      | zero => rw [hz] at p; exact Or.inr ⟨by omega, (Option.some.inj p).symm⟩
      | succ j => rw [hz] at p; cases p
  obtain ⟨⟨e1, ⟨o1, o2, o3, o4⟩, l1, r1, r2, r3, r4⟩, f1, f2, ⟨g1, g2, g3, g4, g5, g6⟩, f4, f5, f6, f7⟩ := hI
  refine ⟨⟨⟨e1, ⟨by show (h.2.1 ++ [_]).length = _; simp [o1], ?_, fun o' b' a' p q => ?_, fun o' r' a' p q => ?_⟩, am_LI_mo List.prefix_rfl hτ (fun a' t x k _ => hold a' _ k) l1, fun a' r' p => ?_, r2, r3, fun a' e' p => ?_⟩, f1, f2.trans hτ, ⟨g1, fun a' k1 k2 k3 => ?_, fun a' t x k1 k2 => ?_, Nat.le_trans g4 (Nat.le_succ _), g5, Nat.le_trans g6 (Nat.le_add_right _ _)⟩, fun o' b' a' p q => ?_, fun o' a' p q => ?_, ?_, ?_⟩, ?_⟩
  · rw [List.nodup_append]
    refine ⟨o2, by simp, fun a ha c hc => ?_⟩
    rw [List.mem_singleton] at hc
    obtain ⟨i, hi⟩ := List.getElem?_of_mem ha
    have := hltt i a hi
    omega
  · rcases hos o' _ p with ⟨k1, k2⟩ | ⟨k1, k2⟩
    · rcases hnew o' a' q with ⟨m1, m2⟩ | ⟨m1, m2⟩
      · obtain ⟨z1, e', z2, z3⟩ := o3 o' b' a' k2 m2
        exact ⟨z1, e', by rw [hold a' e' z2]; exact z2, am_OV_mo hmo z3⟩
      · omega
    · rcases hnew o' a' q with ⟨m1, m2⟩ | ⟨m1, m2⟩
      · omega
      · obtain rfl := Sum.inl.inj k2
        subst m2
        exact ⟨hfr, e, am_nw_at w e n, am_OV_mo hmo hb⟩
  · rcases hos o' _ p with ⟨k1, k2⟩ | ⟨k1, k2⟩
    · rcases hnew o' a' q with ⟨m1, m2⟩ | ⟨m1, m2⟩
      · exact o4 o' r' a' k2 m2
      · omega
    · cases k2
  · obtain ⟨Er, b', e', k1, k2, k3⟩ := r1 a' r' p
    exact ⟨Er, b', e', k1, by rw [hold a' e' k2]; exact k2, k3⟩
  · show a' < w.2.1 + 1
    by_cases hq : a' = w.2.1
    · omega
    · rw [am_nw_ne w e n hq] at p
      have := r4 a' e' p
      omega
  · obtain ⟨m1, m2⟩ := g2 a' k1 k2 k3
    exact ⟨m1, by rw [am_nw_ne w e n (by omega)]; exact m2⟩
  · have m := g3 a' t x k1 k2
    rw [hold a' _ (m.trans k1)]
    exact m
  · rcases hos o' _ p with ⟨k1, k2⟩ | ⟨k1, k2⟩
    · rcases hnew o' a' q with ⟨m1, m2⟩ | ⟨m1, m2⟩
      · exact f4 o' b' a' k2 m2
      · omega
    · rcases hnew o' a' q with ⟨m1, m2⟩ | ⟨m1, m2⟩
      · omega
      · subst m2; exact Or.inl g4
  · rcases hnew o' a' p with ⟨m1, m2⟩ | ⟨m1, m2⟩
    · exact f5 o' a' m2 q
    · subst m2; exact g4
  · show ((w.2.1 + 1 : Nat) : Int) ≤ _ + am_cs K.2.1 (h.2.2.2.1.1 + 1, h.2.2.2.1.2)
    rw [am_cs_add]
    omega
  · show ((w.2.2.1 + n : Nat) : Int) ≤ _ + am_cs K.2.1 (h.2.2.2.2.1 + (n : Int), h.2.2.2.2.2)
    rw [am_cs_add]
    omega
  · refine ⟨w.2.1, ?_, rfl⟩
    rw [o1]
    simp
/-- a named object becomes one of a role -/
theorem am_IV_pb (hI : am_IV K σ τ ρ h w) {o : Nat} {b : am_SO} (ho : h.2.1[o]? = some (.inl (true, b))) {a : Nat} (ha : τ[o]? = some a) {e : am_En} (he : w.1 a = some e) {r : Nat} (hr : 30 ≤ r) {Er : am_Ev} {b' : am_SO} (hrl : am_role r = some (Er, b')) (hb : am_ROV ρ Er b' e) :
    am_IV K σ τ (fun x => if x = a then some r else ρ x) (h.1, h.2.1.set o (.inr r), h.2.2) w ∧ am_mo σ σ τ τ ρ (fun x => if x = a then some r else ρ x) := by
  have hna : ρ a = none := (hI.ob ho ha).1
  have hlo : o < h.2.1.length := (List.getElem?_eq_some_iff.mp ho).1
  have hne : ∀ o' a', o' ≠ o → τ[o']? = some a' → a' ≠ a := fun o' a' hq ha' q => hq (hI.inj (by rw [q] at ha'; exact ha') ha)
  have hup : ∀ a' r', ρ a' = some r' → (if a' = a then some r else ρ a') = some r' := by
    intro a' r' p
    rw [if_neg (fun q => by subst q; rw [hna] at p; cases p)]
    exact p
  have hfr : ∀ a', a' < K.2.2.2.2.2.1 → ¬ am_SN K.1 K.2.2.1 a' → a' ≠ a := by
    intro a' h1 h2 q
    subst q
    rcases hI.own ho ha with k | k
    · omega
    · exact h2 k
  have hmo : am_mo σ σ τ τ ρ (fun x => if x = a then some r else ρ x) := ⟨List.prefix_rfl, List.prefix_rfl, hup⟩
  refine ⟨?_, hmo⟩
  obtain ⟨⟨e1, ⟨o1, o2, o3, o4⟩, l1, r1, r2, r3, r4⟩, f1, f2, ⟨g1, g2, g3, g4, g5, g6⟩, f4, f5, f6, f7⟩ := hI
  refine ⟨⟨e1, ⟨by simp [o1], o2, fun o' b1 a' p q => ?_, fun o' r' a' p q => ?_⟩, l1, fun a' r' p => ?_, fun x y r' k p q => ?_, fun k k1 k2 k3 => ?_, r4⟩, f1, f2, ⟨fun a' r' p => hup a' r' (g1 a' r' p), fun a' k1 k2 k3 => ?_, g3, g4, g5, g6⟩, fun o' b1 a' p q => ?_, f5, f6, f7⟩
  · by_cases hq : o = o'
    · subst hq
      have p : (h.2.1.set o (.inr r))[o]? = some (.inl b1) := p
      rw [List.getElem?_set_self hlo] at p
      cases p
    · have p : (h.2.1.set o (.inr r))[o']? = some (.inl b1) := p
      rw [List.getElem?_set_ne hq] at p
      obtain ⟨k1, e', k2, k3⟩ := o3 o' b1 a' p q
      exact ⟨by show (if a' = a then some r else ρ a') = none; rw [if_neg (hne o' a' (Ne.symm hq) q)]; exact k1, e', k2, am_OV_mo hmo k3⟩
  · by_cases hq : o = o'
    · subst hq
      have p : (h.2.1.set o (.inr r))[o]? = some (.inr r') := p
      rw [List.getElem?_set_self hlo] at p
      obtain rfl := Sum.inr.inj (Option.some.inj p)
      have ea : a' = a := Option.some.inj (q.symm.trans ha)
      subst ea
      exact if_pos rfl
    · have p : (h.2.1.set o (.inr r))[o']? = some (.inr r') := p
      rw [List.getElem?_set_ne hq] at p
      exact hup a' r' (o4 o' r' a' p q)
  · have p : (if a' = a then some r else ρ a') = some r' := p
    by_cases hq : a' = a
    · subst hq
      rw [if_pos rfl] at p
      obtain rfl := Option.some.inj p
      exact ⟨Er, b', e, hrl, he, am_ROV_mo hup hb⟩
    · rw [if_neg hq] at p
      obtain ⟨Er', b1, e', k1, k2, k3⟩ := r1 a' r' p
      exact ⟨Er', b1, e', k1, k2, am_ROV_mo hup k3⟩
  · have p : (if x = a then some r else ρ x) = some r' := p
    have q : (if y = a then some r else ρ y) = some r' := q
    have hx : x ≠ a := fun e => by rw [if_pos e] at p; have := Option.some.inj p; omega
    have hy : y ≠ a := fun e => by rw [if_pos e] at q; have := Option.some.inj q; omega
    rw [if_neg hx] at p
    rw [if_neg hy] at q
    exact r2 x y r' k p q
  · obtain ⟨a', z1, z2⟩ := r3 k k1 k2 k3
    exact ⟨a', z1, hup a' k z2⟩
  · obtain ⟨m1, m2⟩ := g2 a' k1 k2 k3
    exact ⟨by show (if a' = a then some r else ρ a') = none; rw [if_neg (hfr a' k1 k2)]; exact m1, m2⟩
  · by_cases hq : o = o'
    · subst hq
      have p : (h.2.1.set o (.inr r))[o]? = some (.inl (true, b1)) := p
      rw [List.getElem?_set_self hlo] at p
      cases p
    · have p : (h.2.1.set o (.inr r))[o']? = some (.inl (true, b1)) := p
      rw [List.getElem?_set_ne hq] at p
      exact f4 o' b1 a' p q
/-! what fits a role -/
theorem am_cf_ok (hI : am_IV K σ τ ρ h w) {Er : am_Ev} {t v : am_SV} {x : Value} (hv : am_VV σ τ ρ v x) (h1 : am_cf h Er t v = true) : am_RV ρ Er t x := by
  unfold am_cf at h1
  split at h1
  · rename_i q
    split at h1
    · rename_i z
      obtain ⟨i, rfl, hi⟩ := hv
      rw [Bool.and_eq_true, am_le_ok, am_le_ok] at h1
      have := am_bd_ok hI.EB hi
      exact ⟨i, rfl, by omega, by omega⟩
    · cases h1
  · rename_i k
    show am_VV [] [] ρ (.inr (.inl k)) x
    rw [Bool.or_eq_true, Bool.or_eq_true, Bool.and_eq_true, Bool.and_eq_true] at h1
    rcases h1 with (h1 | ⟨h1, h2⟩) | ⟨h1, h2⟩
    · split at h1
      · rename_i j
        have hk := Nat.eq_of_beq_eq_true h1
        subst hk
        exact hv
      · cases h1
    · have hk := Nat.eq_of_beq_eq_true h1
      subst hk
      exact am_rS_ok hv h2
    · have hk := Nat.eq_of_beq_eq_true h1
      subst hk
      exact am_dS_ok hv h2
  · cases h1
  · rename_i r
    split at h1
    · rename_i j hj
      have hk := Nat.eq_of_beq_eq_true h1
      subst hk
      obtain ⟨a, hx, ha⟩ := am_ro1_ok hI hv hj
      exact ⟨a, ha, hx⟩
    · cases h1
  · cases h1
theorem am_cfs_ok (hI : am_IV K σ τ ρ h w) {Er : am_Ev} : ∀ {ts vs : List am_SV} {xs : List Value}, am_VS σ τ ρ vs xs → am_cfs h Er ts vs = true → am_RVS ρ Er ts xs
  | [], [], [], _, _ => trivial
  | t :: ts, v :: vs, x :: xs, hv, h1 => by
    rw [am_cfs, Bool.and_eq_true] at h1
    exact ⟨am_cf_ok hI hv.1 h1.1, am_cfs_ok hI hv.2 h1.2⟩
  | [], _ :: _, _, _, h1 => (by cases h1)
  | _ :: _, [], _, _, h1 => (by cases h1)
  | _, [], _ :: _, hv, _ => hv.elim
  | _, _ :: _, [], hv, _ => hv.elim
theorem am_cfc_ok (hI : am_IV K σ τ ρ h w) {k : Nat} {t ct : am_Ct} {A : am_Cn} (hA : am_CT σ τ ρ k ct A) (h1 : am_cfc h (k : Int) t ct = true) : am_CT [] [] ρ k t A := by
  unfold am_cfc at h1
  split at h1
  · rename_i a b
    obtain ⟨f, rfl, hf⟩ := hA
    rw [Bool.and_eq_true, am_le_ok, am_le_ok] at h1
    exact ⟨f, rfl, fun i hi => (by have := hf i hi; omega)⟩
  · exact hA
  · rename_i r j
    have hk := Nat.eq_of_beq_eq_true h1
    subst hk
    exact hA
  · rename_i r l
    obtain ⟨f, rfl, hl, hf⟩ := hA
    rw [Bool.and_eq_true, am_ie_ok] at h1
    refine ⟨f, rfl, fun i hi => ?_⟩
    have hil : i < l.length := by omega
    have h2 := List.all_eq_true.mp h1.2 l[i] (List.getElem_mem hil)
    split at h2
    · rename_i j hj
      have hk := Nat.eq_of_beq_eq_true h2
      subst hk
      obtain ⟨a, hx, ha⟩ := am_ro1_ok hI (hf i l[i] (List.getElem?_eq_getElem hil)) hj
      refine ⟨a, ?_, ha⟩
      cases hfi : f i with
      | none => rw [hfi] at hx; cases hx
      | some c => rw [hfi] at hx; cases hx; rfl
    · cases h2
  · cases h1
theorem am_pb_ok (hI : am_IV K σ τ ρ h w) {o r : Nat} {h' : am_Hp} (h1 : am_pb h o r = some h') : ∃ ρ', am_IV K σ τ ρ' h' w ∧ am_mo σ σ τ τ ρ ρ' := by
  unfold am_pb at h1
  split at h1
  · rename_i c fs ho
    split at h1
    · rename_i Er c' ts hrl
      split at h1
      · rename_i hc
        simp only [Bool.and_eq_true] at hc
        obtain ⟨⟨c1, c2⟩, c3⟩ := hc
        obtain rfl := Option.some.inj h1
        have hk := Nat.eq_of_beq_eq_true c2
        subst hk
        obtain ⟨a, ha⟩ := hI.at ho
        obtain ⟨-, e, he, hov⟩ := hI.ob ho ha
        obtain ⟨vs, rfl, hvs⟩ := hov
        exact ⟨_, am_IV_pb hI ho ha he (Nat.ble_eq.mp c1) hrl ⟨vs, rfl, am_cfs_ok hI hvs c3⟩⟩
      · cases h1
    · cases h1
  · rename_i t n ct ho
    split at h1
    · rename_i Er t' n' ct' hrl
      split at h1
      · rename_i hc
        simp only [Bool.and_eq_true] at hc
        obtain ⟨⟨⟨⟨c1, c2⟩, c3⟩, c4⟩, c5⟩ := hc
        obtain rfl := Option.some.inj h1
        have hk := Nat.eq_of_beq_eq_true c2
        subst hk
        have hn := am_qe_ok c3
        subst hn
        obtain ⟨a, ha⟩ := hI.at ho
        obtain ⟨-, e, he, hov⟩ := hI.ob ho ha
        obtain ⟨k, A, rfl, hk, hA⟩ := hov
        obtain ⟨ni, nc⟩ := n
        have c4 : ni = none := am_oe_ok c4
        subst c4
        have hk : nc = (k : Int) := Option.some.inj hk
        subst hk
        exact ⟨_, am_IV_pb hI ho ha he (Nat.ble_eq.mp c1) hrl ⟨k, A, rfl, rfl, am_cfc_ok hI hA c5⟩⟩
      · cases h1
    · cases h1
  · cases h1
theorem am_pbs_ok : ∀ {l : List (Nat × Nat)} {ρ : am_Rh} {h h' : am_Hp}, am_IV K σ τ ρ h w → am_pbs h l = some h' → ∃ ρ', am_IV K σ τ ρ' h' w ∧ am_mo σ σ τ τ ρ ρ' := by
  intro l
  induction l with
  | nil => intro ρ h h' hI h1; obtain rfl := Option.some.inj h1; exact ⟨ρ, hI, am_mo_rf _ _ _⟩
  | cons z t ih =>
    intro ρ h h' hI h1
    obtain ⟨h2, e1, e2⟩ := Option.bind_eq_some_iff.mp h1
    have key : ∃ ρ', am_IV K σ τ ρ' h2 w ∧ am_mo σ σ τ τ ρ ρ' := by
      split at e1
      · split at e1
        · obtain rfl := Option.some.inj e1; exact ⟨ρ, hI, am_mo_rf _ _ _⟩
        · cases e1
      · exact am_pb_ok hI e1
    obtain ⟨ρ1, hI1, m1⟩ := key
    obtain ⟨ρ2, hI2, m2⟩ := ih hI1 e2
    exact ⟨ρ2, hI2, am_mo_tr m1 m2⟩
end AMHP
