/-! WHAT THE SYMBOLS MEAN. Mine. -/
abbrev am_Rh : Type := Nat → Option Nat
def am_ev (σ : List Int) (q : am_I) : Option Int := match q.1 with
  | none => some q.2
  | some i => (σ[i]?).map fun x => x + q.2
def am_VV (σ : List Int) (τ : List Nat) (ρ : am_Rh) (v : am_SV) (x : Value) : Prop := match v with
  | .inl q => ∃ i : Int32, x = .int i ∧ am_ev σ q = some i.toInt
  | .inr (.inl k) => if k = 0 then ∃ j, x = .long j else if k = 1 then x = .null else if k = 2 then (x = .null ∨ ∃ a, x = .ref a) else if k = 3 then ∃ d, x = .double d else False
  | .inr (.inr (.inl o)) => ∃ a, τ[o]? = some a ∧ x = .ref a
  | .inr (.inr (.inr (.inl r))) => ∃ a, ρ a = some r ∧ x = .ref a
  | .inr (.inr (.inr (.inr l))) => ∃ d, d ∈ l ∧ x = .double d
def am_VS (σ : List Int) (τ : List Nat) (ρ : am_Rh) : List am_SV → List Value → Prop
  | [], [] => True
  | v :: t, x :: u => am_VV σ τ ρ v x ∧ am_VS σ τ ρ t u
  | _, _ => False
def am_LS (σ : List Int) (τ : List Nat) (ρ : am_Rh) : am_SL → am_Lc → Prop
  | [], [] => True
  | none :: t, none :: u => am_LS σ τ ρ t u
  | some v :: t, some x :: u => am_VV σ τ ρ v x ∧ am_LS σ τ ρ t u
  | _, _ => False
abbrev am_Cn : Type := (Nat → Int32) ⊕ (Nat → Int64) ⊕ (Nat → UInt32) ⊕ (Nat → UInt64) ⊕ (Nat → Option Nat)
def am_CT (σ : List Int) (τ : List Nat) (ρ : am_Rh) (k : Nat) (ct : am_Ct) (A : am_Cn) : Prop := match ct with
  | .inl b => ∃ f : Nat → Int32, A = .inl f ∧ ∀ i, i < k → b.1 ≤ (f i).toInt ∧ (f i).toInt ≤ b.2
  | .inr (.inl _) => ∃ f : Nat → Int64, A = .inr (.inl f)
  | .inr (.inr (.inl l)) => ∃ f : Nat → Option Nat, A = .inr (.inr (.inr (.inr f))) ∧ l.length = k ∧ ∀ (i : Nat) (v : am_SV), l[i]? = some v → am_VV σ τ ρ v (va_rf (f i))
  | .inr (.inr (.inr r)) => ∃ f : Nat → Option Nat, A = .inr (.inr (.inr (.inr f))) ∧ ∀ i, i < k → ∃ a, f i = some a ∧ ρ a = some r
def am_OV (σ : List Int) (τ : List Nat) (ρ : am_Rh) (b : am_SO) (e : am_En) : Prop := match b with
  | .inl (c, fs) => ∃ vs, e = .inr (c, vs) ∧ am_VS σ τ ρ fs vs
  | .inr (t, n, ct) => ∃ (k : Nat) (A : am_Cn), e = .inl (t, k, A) ∧ am_ev σ n = some (k : Int) ∧ am_CT σ τ ρ k ct A
/-- a part of an object of a role -/
def am_RV (ρ : am_Rh) (Er : am_Ev) (t : am_SV) (x : Value) : Prop := match t with
  | .inl q => ∃ i : Int32, x = .int i ∧ (am_bd Er q).1 ≤ i.toInt ∧ i.toInt ≤ (am_bd Er q).2
  | t => am_VV [] [] ρ t x
def am_RVS (ρ : am_Rh) (Er : am_Ev) : List am_SV → List Value → Prop
  | [], [] => True
  | v :: t, x :: u => am_RV ρ Er v x ∧ am_RVS ρ Er t u
  | _, _ => False
def am_ROV (ρ : am_Rh) (Er : am_Ev) (b : am_SO) (e : am_En) : Prop := match b with
  | .inl (c, ts) => ∃ vs, e = .inr (c, vs) ∧ am_RVS ρ Er ts vs
  | .inr (t, n, ct) => ∃ (k : Nat) (A : am_Cn), e = .inl (t, k, A) ∧ n = (none, (k : Int)) ∧ am_CT [] [] ρ k ct A
def am_EB (E : am_Ev) (σ : List Int) : Prop := E.length = σ.length ∧ ∀ (i : Nat) (b : Int × Int) (x : Int), E[i]? = some b → σ[i]? = some x → b.1 ≤ x ∧ x ≤ b.2
/-- the roles -/
def am_RI (ρ : am_Rh) (w : am_Wd) : Prop := (∀ a r, ρ a = some r → ∃ Er b e, am_role r = some (Er, b) ∧ w.1 a = some e ∧ am_ROV ρ Er b e) ∧
  (∀ a b r, r < 30 → ρ a = some r → ρ b = some r → a = b) ∧ (∀ k, k ≠ 4 → k < 30 → (am_role k).isSome = true → ∃ a, w.2.2.2 k = some a ∧ ρ a = some k) ∧ (∀ a e, w.1 a = some e → a < w.2.1)
/-- the named objects -/
def am_OI (σ : List Int) (τ : List Nat) (ρ : am_Rh) (os : am_Os) (w : am_Wd) : Prop := os.length = τ.length ∧ τ.Nodup ∧
  (∀ (o : Nat) (b : Bool × am_SO) (a : Nat), os[o]? = some (.inl b) → τ[o]? = some a → ρ a = none ∧ ∃ e, w.1 a = some e ∧ am_OV σ τ ρ b.2 e) ∧ ∀ (o r a : Nat), os[o]? = some (.inr r) → τ[o]? = some a → ρ a = some r
/-- the method whose answers are kept: beyond -/
def am_pure : Nat := 100
def am_R1 (σ : List Int) (τ : List Nat) (w : am_Wd) (z : Nat × am_I × am_I × am_I) : Prop :=
  if z.1 = 0 then ∃ x y, am_ev σ z.2.1 = some x ∧ am_ev σ z.2.2.1 = some y ∧ x ≤ y
  else if z.1 = 3 then ∃ (o a k : Nat) (f : Nat → Int32) (i : Int32), z.2.1 = (none, (o : Int)) ∧ τ[o]? = some a ∧ w.1 a = some (.inl (8, k, .inl f)) ∧ am_ev σ z.2.2.1 = some i.toInt ∧ am_ev σ z.2.2.2 = some (f i.toNatClampNeg).toInt
  else if z.1 = 4 then ∃ x y v : Int32, am_ev σ z.2.1 = some x.toInt ∧ am_ev σ z.2.2.1 = some y.toInt ∧ am_ev σ z.2.2.2 = some v.toInt ∧ ∀ w', am_x am_pure [.int x, .int y] w' = some (.inl (some (.int v)), w')
  else ∃ x y : Int32, am_ev σ z.2.1 = some x.toInt ∧ am_ev σ z.2.2.1 = some y.toInt ∧ am_ev σ z.2.2.2 = some (am_f2 z.1 x y).toInt
def am_LI (σ : List Int) (τ : List Nat) (w : am_Wd) (R : am_Rl) : Prop := ∀ z ∈ R, am_R1 σ τ w z
def am_GS (σ : List Int) (τ : List Nat) (ρ : am_Rh) (h : am_Hp) (w : am_Wd) : Prop := am_EB h.1 σ ∧ am_OI σ τ ρ h.2.1 w ∧ am_LI σ τ w h.2.2.1 ∧ am_RI ρ w
/-- where a run began: its named objects, unknowns, addresses, roles, world -/
abbrev am_K0 : Type := am_Os × List Int × List Nat × am_Rh × am_Wd
/-- what a run may write of what stood there before it -/
def am_SN (os : am_Os) (τ : List Nat) (a : Nat) : Prop := ∃ (o : Nat) (b : am_SO), os[o]? = some (.inl (true, b)) ∧ τ[o]? = some a
def am_cs (σ : List Int) (c : Int × Int) : Int := c.1 + c.2 * (2560 - σ.headD 0)
/-- what a run has left alone -/
def am_FR (os : am_Os) (τ0 : List Nat) (ρ0 : am_Rh) (w0 : am_Wd) (ρ : am_Rh) (w : am_Wd) : Prop :=
  (∀ a r, ρ0 a = some r → ρ a = some r) ∧ (∀ a, a < w0.2.1 → ¬ am_SN os τ0 a → ρ0 a = none → ρ a = none ∧ w.1 a = w0.1 a) ∧
  (∀ a t x, w0.1 a = some (.inl (t, x)) → 8 ≤ t → w.1 a = w0.1 a) ∧ w0.2.1 ≤ w.2.1 ∧ w.2.2.2 = w0.2.2.2 ∧ w0.2.2.1 ≤ w.2.2.1
def am_FI (K : am_K0) (σ : List Int) (τ : List Nat) (ρ : am_Rh) (h : am_Hp) (w : am_Wd) : Prop :=
  K.2.1 <+: σ ∧ K.2.2.1 <+: τ ∧ am_FR K.1 K.2.2.1 K.2.2.2.1 K.2.2.2.2 ρ w ∧
  (∀ (o : Nat) (b : am_SO) (a : Nat), h.2.1[o]? = some (.inl (true, b)) → τ[o]? = some a → K.2.2.2.2.2.1 ≤ a ∨ am_SN K.1 K.2.2.1 a) ∧
  (∀ (o a : Nat), τ[o]? = some a → K.2.2.1.length ≤ o → K.2.2.2.2.2.1 ≤ a) ∧
  (w.2.1 : Int) ≤ (K.2.2.2.2.2.1 : Int) + am_cs K.2.1 h.2.2.2.1 ∧ (w.2.2.1 : Int) ≤ (K.2.2.2.2.2.2.1 : Int) + am_cs K.2.1 h.2.2.2.2
def am_IV (K : am_K0) (σ : List Int) (τ : List Nat) (ρ : am_Rh) (h : am_Hp) (w : am_Wd) : Prop := am_GS σ τ ρ h w ∧ am_FI K σ τ ρ h w
def am_OS (σ : List Int) (τ : List Nat) (ρ : am_Rh) (o : am_SR) (x : am_Out) : Prop := match o with
  | .inl none => x = .inl none
  | .inl (some v) => ∃ y, x = .inl (some y) ∧ am_VV σ τ ρ v y
  | .inr k => x = .inr (am_xn k)
/-- more unknowns, addresses, roles -/
def am_mo (σ σ' : List Int) (τ τ' : List Nat) (ρ ρ' : am_Rh) : Prop := σ <+: σ' ∧ τ <+: τ' ∧ ∀ a r, ρ a = some r → ρ' a = some r
theorem am_mo_rf (σ : List Int) (τ : List Nat) (ρ : am_Rh) : am_mo σ σ τ τ ρ ρ := ⟨List.prefix_rfl, List.prefix_rfl, fun _ _ h => h⟩
theorem am_mo_tr {σ σ' σ'' : List Int} {τ τ' τ'' : List Nat} {ρ ρ' ρ'' : am_Rh} (h : am_mo σ σ' τ τ' ρ ρ') (k : am_mo σ' σ'' τ' τ'' ρ' ρ'') : am_mo σ σ'' τ τ'' ρ ρ'' := ⟨h.1.trans k.1, h.2.1.trans k.2.1, fun a r q => k.2.2 a r (h.2.2 a r q)⟩
theorem am_pf_at {α : Type} {l l' : List α} (h : l <+: l') {i : Nat} {x : α} (q : l[i]? = some x) : l'[i]? = some x := by
  obtain ⟨t, rfl⟩ := h
  rw [List.getElem?_append_left (List.getElem?_eq_some_iff.mp q).1]
  exact q
theorem am_ev_mo {σ σ' : List Int} (h : σ <+: σ') {q : am_I} {x : Int} (e : am_ev σ q = some x) : am_ev σ' q = some x := by
  unfold am_ev at e ⊢
  split at e
  · rename_i hq; (try rw [hq]); exact e
  · rename_i i hq
    try rw [hq]
    obtain ⟨y, hy, e⟩ := Option.map_eq_some_iff.mp e
    show Option.map _ _ = _
    rw [am_pf_at h hy]
    exact congrArg some e
theorem am_VV_mo {σ σ' : List Int} {τ τ' : List Nat} {ρ ρ' : am_Rh} (h : am_mo σ σ' τ τ' ρ ρ') {v : am_SV} {x : Value} (e : am_VV σ τ ρ v x) : am_VV σ' τ' ρ' v x := by
  match v, e with
  | .inl q, ⟨i, e, k⟩ => exact ⟨i, e, am_ev_mo h.1 k⟩
  | .inr (.inl k), e => exact e
  | .inr (.inr (.inl o)), ⟨a, e, k⟩ => exact ⟨a, am_pf_at h.2.1 e, k⟩
  | .inr (.inr (.inr (.inl r))), ⟨a, e, k⟩ => exact ⟨a, h.2.2 _ _ e, k⟩
  | .inr (.inr (.inr (.inr l))), e => exact e
theorem am_VS_mo {σ σ' : List Int} {τ τ' : List Nat} {ρ ρ' : am_Rh} (h : am_mo σ σ' τ τ' ρ ρ') : ∀ {v : List am_SV} {x : List Value}, am_VS σ τ ρ v x → am_VS σ' τ' ρ' v x
  | [], [], _ => trivial
  | _ :: _, _ :: _, e => ⟨am_VV_mo h e.1, am_VS_mo h e.2⟩
  | [], _ :: _, e => e.elim
  | _ :: _, [], e => e.elim
theorem am_LS_mo {σ σ' : List Int} {τ τ' : List Nat} {ρ ρ' : am_Rh} (h : am_mo σ σ' τ τ' ρ ρ') : ∀ {v : am_SL} {x : am_Lc}, am_LS σ τ ρ v x → am_LS σ' τ' ρ' v x
  | [], [], _ => trivial
  | none :: t, none :: u, e => am_LS_mo h (v := t) (x := u) e
  | some _ :: _, some _ :: _, e => ⟨am_VV_mo h e.1, am_LS_mo h e.2⟩
  | none :: _, some _ :: _, e => e.elim
  | some _ :: _, none :: _, e => e.elim
  | [], _ :: _, e => e.elim
  | none :: _, [], e => e.elim
  | some _ :: _, [], e => e.elim
theorem am_CT_mo {σ σ' : List Int} {τ τ' : List Nat} {ρ ρ' : am_Rh} (h : am_mo σ σ' τ τ' ρ ρ') {k : Nat} {ct : am_Ct} {A : am_Cn} (e : am_CT σ τ ρ k ct A) : am_CT σ' τ' ρ' k ct A := by
  match ct, e with
  | .inl b, e => exact e
  | .inr (.inl _), e => exact e
  | .inr (.inr (.inl l)), ⟨f, e, k, m⟩ => exact ⟨f, e, k, fun i v q => am_VV_mo h (m i v q)⟩
  | .inr (.inr (.inr r)), ⟨f, e, m⟩ => exact ⟨f, e, fun i q => by obtain ⟨a, e1, e2⟩ := m i q; exact ⟨a, e1, h.2.2 _ _ e2⟩⟩
theorem am_OV_mo {σ σ' : List Int} {τ τ' : List Nat} {ρ ρ' : am_Rh} (h : am_mo σ σ' τ τ' ρ ρ') {b : am_SO} {e : am_En} (q : am_OV σ τ ρ b e) : am_OV σ' τ' ρ' b e := by
  match b, q with
  | .inl (c, fs), ⟨vs, e, k⟩ => exact ⟨vs, e, am_VS_mo h k⟩
  | .inr (t, n, ct), ⟨k, A, e, m, z⟩ => exact ⟨k, A, e, am_ev_mo h.1 m, am_CT_mo h z⟩
theorem am_RV_mo {ρ ρ' : am_Rh} (h : ∀ a r, ρ a = some r → ρ' a = some r) {Er : am_Ev} {t : am_SV} {x : Value} (e : am_RV ρ Er t x) : am_RV ρ' Er t x := by
  match t, e with
  | .inl q, e => exact e
  | .inr t, e => exact am_VV_mo (v := .inr t) ⟨List.prefix_rfl, List.prefix_rfl, h⟩ e
theorem am_RVS_mo {ρ ρ' : am_Rh} (h : ∀ a r, ρ a = some r → ρ' a = some r) {Er : am_Ev} : ∀ {v : List am_SV} {x : List Value}, am_RVS ρ Er v x → am_RVS ρ' Er v x
  | [], [], _ => trivial
  | _ :: _, _ :: _, e => ⟨am_RV_mo h e.1, am_RVS_mo h e.2⟩
  | [], _ :: _, e => e.elim
  | _ :: _, [], e => e.elim
theorem am_ROV_mo {ρ ρ' : am_Rh} (h : ∀ a r, ρ a = some r → ρ' a = some r) {Er : am_Ev} {b : am_SO} {e : am_En} (q : am_ROV ρ Er b e) : am_ROV ρ' Er b e := by
  match b, q with
  | .inl (c, fs), ⟨vs, e, k⟩ => exact ⟨vs, e, am_RVS_mo h k⟩
  | .inr (t, n, ct), ⟨k, A, e, m, z⟩ => exact ⟨k, A, e, m, am_CT_mo ⟨List.prefix_rfl, List.prefix_rfl, h⟩ z⟩
theorem am_OS_mo {σ σ' : List Int} {τ τ' : List Nat} {ρ ρ' : am_Rh} (h : am_mo σ σ' τ τ' ρ ρ') {o : am_SR} {x : am_Out} (e : am_OS σ τ ρ o x) : am_OS σ' τ' ρ' o x := by
  match o, e with
  | .inl none, e => exact e
  | .inl (some v), ⟨y, e, k⟩ => exact ⟨y, e, am_VV_mo h k⟩
  | .inr k, e => exact e
/-- a relation stands while what is read alone stands -/
theorem am_R1_mo {σ σ' : List Int} {τ τ' : List Nat} {w w' : am_Wd} (hσ : σ <+: σ') (hτ : τ <+: τ') (hw : ∀ a t x, w.1 a = some (.inl (t, x)) → 8 ≤ t → w'.1 a = w.1 a) {z : Nat × am_I × am_I × am_I} (e : am_R1 σ τ w z) : am_R1 σ' τ' w' z := by
  unfold am_R1 at e ⊢
  split at e
  · rename_i hz; rw [if_pos hz]
    obtain ⟨x, y, h1, h2, h3⟩ := e
    exact ⟨x, y, am_ev_mo hσ h1, am_ev_mo hσ h2, h3⟩
  · rename_i hz; rw [if_neg hz]
    split at e
    · rename_i hz3; rw [if_pos hz3]
      obtain ⟨o, a, k, f, i, h1, h2, h3, h4, h5⟩ := e
      exact ⟨o, a, k, f, i, h1, am_pf_at hτ h2, by rw [hw _ _ _ h3 (Nat.le_refl _)]; exact h3, am_ev_mo hσ h4, am_ev_mo hσ h5⟩
    · rename_i hz3; rw [if_neg hz3]
      split at e
      · rename_i hz4; rw [if_pos hz4]
        obtain ⟨x, y, v, h1, h2, h3, h4⟩ := e
        exact ⟨x, y, v, am_ev_mo hσ h1, am_ev_mo hσ h2, am_ev_mo hσ h3, h4⟩
      · rename_i hz4; rw [if_neg hz4]
        obtain ⟨x, y, h1, h2, h3⟩ := e
        exact ⟨x, y, am_ev_mo hσ h1, am_ev_mo hσ h2, am_ev_mo hσ h3⟩
/-! comparing whole numbers -/
theorem am_le_ok {a b : Int} : am_le a b = true ↔ a ≤ b := by
  unfold am_le
  split
  · rename_i m n
    rw [Nat.ble_eq]
    exact ⟨fun h => Int.ofNat_le.mpr h, fun h => Int.ofNat_le.mp h⟩
  · rename_i m n
    exact ⟨fun h => (by cases h), fun h => (by have h : (m : Int) ≤ Int.negSucc n := h; omega)⟩
  · rename_i m n
    exact ⟨fun _ => by show Int.negSucc m ≤ (n : Int); omega, fun _ => rfl⟩
  · rename_i m n
    rw [Nat.ble_eq]
    constructor <;> intro h <;> omega
theorem am_lt_ok {a b : Int} : am_lt a b = true ↔ a < b := by
  unfold am_lt
  rw [Bool.not_eq_true', ← Bool.not_eq_true, am_le_ok]
  omega
theorem am_le_no {a b : Int} (h : ¬ am_le a b = true) : b < a := by rw [am_le_ok] at h; omega
theorem am_lt_no {a b : Int} (h : ¬ am_lt a b = true) : b ≤ a := by rw [am_lt_ok] at h; omega
theorem am_ie_ok {a b : Int} : am_ie a b = true ↔ a = b := by
  unfold am_ie
  split
  · rename_i m n
    refine ⟨fun h => congrArg _ (Nat.eq_of_beq_eq_true h), fun h => ?_⟩
    have h : m = n := Int.ofNat.inj h
    subst h; exact Nat.beq_refl m
  · rename_i m n
    refine ⟨fun h => congrArg _ (Nat.eq_of_beq_eq_true h), fun h => ?_⟩
    have h : m = n := Int.negSucc.inj h
    subst h; exact Nat.beq_refl m
  · rename_i h1 h2
    refine ⟨fun h => (by cases h), fun h => ?_⟩
    subst h
    cases a with
    | ofNat m => exact absurd rfl (h1 m m rfl)
    | negSucc m => exact absurd rfl (h2 m m rfl)
theorem am_oe_ok {a b : Option Nat} (h : am_oe a b = true) : a = b := by
  unfold am_oe at h
  split at h
  · rfl
  · exact congrArg some (Nat.eq_of_beq_eq_true h)
  · cases h
theorem am_qe_ok {q r : am_I} (h : am_qe q r = true) : q = r := by
  unfold am_qe at h
  rw [Bool.and_eq_true] at h
  exact Prod.ext (am_oe_ok h.1) (am_ie_ok.mp h.2)
theorem am_bd_ok {E : am_Ev} {σ : List Int} (h : am_EB E σ) {q : am_I} {x : Int} (e : am_ev σ q = some x) : (am_bd E q).1 ≤ x ∧ x ≤ (am_bd E q).2 := by
  unfold am_ev at e
  unfold am_bd
  split at e
  · rename_i hq
    obtain rfl := Option.some.inj e
    (try rw [hq]); exact ⟨Int.le_refl _, Int.le_refl _⟩
  · rename_i i hq
    obtain ⟨y, hy, rfl⟩ := Option.map_eq_some_iff.mp e
    try rw [hq]
    have hi : i < E.length := by rw [h.1]; exact (List.getElem?_eq_some_iff.mp hy).1
    obtain ⟨b, hb⟩ : ∃ b, E[i]? = some b := ⟨E[i], List.getElem?_eq_getElem hi⟩
    dsimp only
    rw [hb]
    have := h.2 i b y hb hy
    dsimp only
    omega
theorem am_kn_ok {E : am_Ev} {σ : List Int} (h : am_EB E σ) {q : am_I} {x k : Int} (e : am_ev σ q = some x) (hk : am_kn E q = some k) : x = k := by
  unfold am_kn at hk
  split at hk
  · rename_i hq
    unfold am_ev at e
    rw [hq] at e
    exact (Option.some.inj e).symm.trans (Option.some.inj hk)
  · split at hk
    · rename_i hq
      have h1 := am_bd_ok h e
      have h2 := am_ie_ok.mp hq
      obtain rfl := Option.some.inj hk
      omega
    · cases hk
/-! new unknowns, narrower bounds -/
theorem am_EB_app {E : am_Ev} {σ : List Int} (h : am_EB E σ) {lo hi x : Int} (h1 : lo ≤ x) (h2 : x ≤ hi) : am_EB (E ++ [(lo, hi)]) (σ ++ [x]) := by
  refine ⟨by simp [h.1], fun i b y hb hy => ?_⟩
  by_cases hi' : i < E.length
  · rw [List.getElem?_append_left hi'] at hb
    rw [List.getElem?_append_left (by rw [← h.1]; exact hi')] at hy
    exact h.2 i b y hb hy
  · rw [List.getElem?_append_right (by omega)] at hb
    rw [List.getElem?_append_right (by rw [← h.1]; omega)] at hy
    rw [h.1] at hb
    cases hz : i - σ.length with
    | zero =>
      rw [hz] at hb hy
      cases hb; cases hy
      exact ⟨h1, h2⟩
    | succ j => rw [hz] at hb; cases hb
theorem am_EB_tg {E : am_Ev} {σ : List Int} (h : am_EB E σ) {q : am_I} {x lo hi : Int} (e : am_ev σ q = some x) (h1 : lo ≤ x) (h2 : x ≤ hi) : am_EB (am_tg1 E q lo hi) σ := by
  unfold am_tg1
  split
  · exact h
  · rename_i i hq
    split
    · rename_i b hb
      refine ⟨by simp [h.1], fun j c y hc hy => ?_⟩
      by_cases hij : i = j
      · subst hij
        have hl := (List.getElem?_eq_some_iff.mp hb).1
        rw [List.getElem?_set_self hl] at hc
        obtain rfl := Option.some.inj hc
        have h3 := h.2 i b y hb hy
        unfold am_ev at e
        rw [hq] at e
        dsimp only at e
        rw [hy] at e
        have e : y + q.2 = x := Option.some.inj e
        unfold am_mx am_mi
        dsimp only
        constructor
        · split <;> omega
        · split <;> omega
      · rw [List.getElem?_set_ne hij] at hc
        exact h.2 j c y hc hy
    · exact h
