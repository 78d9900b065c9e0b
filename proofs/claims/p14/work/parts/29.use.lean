/-! AN ENTRY IS USED: what it answers, told in the caller's words. Mine. -/
def am_trI (sg : List am_I) (nE : Nat) (t : am_I) : am_I := match t.1 with
  | none => t
  | some i => match sg[i]? with
    | some q => (q.1, q.2 + t.2)
    | none => (some (nE + (i - sg.length)), t.2)
def am_trV (sg : List am_I) (tau : List Nat) (nE nO : Nat) (v : am_SV) : am_SV := match v with
  | .inl q => .inl (am_trI sg nE q)
  | .inr (.inl k) => .inr (.inl k)
  | .inr (.inr (.inl o)) => match tau[o]? with
    | some p => am_sO p
    | none => am_sO (nO + (o - tau.length))
  | .inr (.inr (.inr (.inl r))) => am_sR r
  | .inr (.inr (.inr (.inr l))) => am_sD l
def am_trO (sg : List am_I) (tau : List Nat) (nE nO : Nat) (b : am_SO) : am_SO := match b with
  | .inl (c, fs) => .inl (c, fs.map (am_trV sg tau nE nO))
  | .inr (t, n, ct) => .inr (t, am_trI sg nE n, match ct with
    | .inl b => .inl b
    | .inr (.inl u) => .inr (.inl u)
    | .inr (.inr (.inl l)) => .inr (.inr (.inl (l.map (am_trV sg tau nE nO))))
    | .inr (.inr (.inr r)) => .inr (.inr (.inr r)))
def am_trx (sg : List am_I) (tau : List Nat) (nE nO : Nat) (x : (Bool × am_SO) ⊕ Nat) : (Bool × am_SO) ⊕ Nat := match x with
  | .inl b => .inl (true, am_trO sg tau nE nO b.2)
  | .inr r => .inr r
def am_trR (sg : List am_I) (tau : List Nat) (nE nO : Nat) (o : am_SR) : am_SR := match o with
  | .inl none => .inl none
  | .inl (some v) => .inl (some (am_trV sg tau nE nO v))
  | .inr k => .inr k
def am_so1 (f : (Bool × am_SO) ⊕ Nat → (Bool × am_SO) ⊕ Nat) (t : (Bool × am_SO) ⊕ Nat) (p : Nat) (x : (Bool × am_SO) ⊕ Nat) (os : am_Os) : am_Os := match t with
  | .inl (true, _) => os.set p (f x)
  | _ => os
def am_so (f : (Bool × am_SO) ⊕ Nat → (Bool × am_SO) ⊕ Nat) : am_Os → List Nat → am_Os → am_Os → am_Os
  | t :: ts, p :: ps, x :: xs, os => am_so f ts ps xs (am_so1 f t p x os)
  | _, _, _, os => os
/-- what is used in all -/
def am_cus (lin : Bool) (sg : List am_I) (h : am_Hp) (a b : Int × Int) : Int × Int := if am_ie b.2 0 = true then (a.1 + b.1, a.2) else match sg with
  | [] => (a.1 + (b.1 + b.2 * 2560), a.2)
  | q :: _ => if (lin && am_oe q.1 (some 0) && am_ie a.2 0) = true then (a.1 + (b.1 - b.2 * q.2), b.2) else
    if am_le 0 b.2 = true then (a.1 + (b.1 + b.2 * (2560 - (am_bd h.1 q).1)), a.2) else (a.1 + (b.1 + b.2 * (2560 - (am_bd h.1 q).2)), a.2)
def am_uo (lin : Bool) (u : am_Et) (sg : List am_I) (tau : List Nat) (h : am_Hp) (po : am_Po) : am_SR × am_Hp :=
  (am_trR sg tau h.1.length h.2.1.length po.1, (h.1 ++ po.2.1, am_so (am_trx sg tau h.1.length h.2.1.length) u.2.2.1 tau po.2.2.1 h.2.1 ++ (po.2.2.1.drop tau.length).map (am_trx sg tau h.1.length h.2.1.length), h.2.2.1, am_cus lin sg h h.2.2.2.1 po.2.2.2.1, am_cus lin sg h h.2.2.2.2 po.2.2.2.2))
def am_useS (lin : Bool) (u : am_Et) (sg : List am_I) (tau : List Nat) (h1 : am_Hp) (ls : am_SL) (st : List am_SV) : Option (List (am_SR × am_Hp)) :=
  if (am_mat h1 u.2.1 u.2.2.1 sg tau && am_mLs h1 sg tau u.2.2.2.1 ls && am_mVs h1 sg tau u.2.2.2.2.1 st) = true then some (u.2.2.2.2.2.2.2.map (am_uo lin u sg tau h1)) else none
/-- what an entry says of a run of it -/
def am_PS (u : am_Et) (σ0 : List Int) (τ0 : List Nat) (ρ0 : am_Rh) (w0 : am_Wd) (r : am_Out × am_Wd) : Prop := ∃ po ∈ u.2.2.2.2.2.2.2, ∃ (σ1 : List Int) (τ1 : List Nat) (ρ : am_Rh),
  am_GS (σ0 ++ σ1) (τ0 ++ τ1) ρ (u.2.1 ++ po.2.1, po.2.2.1, [], (0, 0), (0, 0)) r.2 ∧ am_FR u.2.2.1 τ0 ρ0 w0 ρ r.2 ∧ am_OS (σ0 ++ σ1) (τ0 ++ τ1) ρ po.1 r.1 ∧ (∀ (o a : Nat), τ1[o]? = some a → w0.2.1 ≤ a) ∧
  (r.2.2.1 : Int) ≤ (w0.2.1 : Int) + am_cs σ0 po.2.2.2.1 ∧ (r.2.2.2.1 : Int) ≤ (w0.2.2.1 : Int) + am_cs σ0 po.2.2.2.2
def am_OkAt (u : am_Et) (σ : List Int) : Prop := ∀ (τ : List Nat) (ρ : am_Rh) (w : am_Wd) (lsC : am_Lc) (stC : List Value), am_GS σ τ ρ (u.2.1, u.2.2.1, [], (0, 0), (0, 0)) w → am_LS σ τ ρ u.2.2.2.1 lsC → am_VS σ τ ρ u.2.2.2.2.1 stC →
  ∃ r, am_run u.1.1 u.1.2 lsC stC w = some r ∧ am_PS u σ τ ρ w r
section AMUS
variable {σ σu σ1 : List Int} {τ τu τ1 : List Nat} {ρ : am_Rh} {sg : List am_I} {tau : List Nat} {nE nO : Nat}
theorem am_trI_ok (hs : am_SGr σ sg σu) {t : am_I} {x : Int} (h1 : am_ev (σu ++ σ1) t = some x) : am_ev (σ ++ σ1) (am_trI sg σ.length t) = some x := by
  unfold am_trI
  split
  · rename_i ht
    unfold am_ev at h1 ⊢
    rw [ht] at h1 ⊢
    exact h1
  · rename_i i ht
    unfold am_ev at h1
    rw [ht] at h1
    obtain ⟨y, hy, e⟩ := Option.map_eq_some_iff.mp h1
    split
    · rename_i q hq
      obtain ⟨z, hz, he⟩ := hs.2 i q hq
      have e1 : y = z := by
        have h2 : (σu ++ σ1)[i]? = some z := am_pf_at (List.prefix_append _ _) hz
        exact Option.some.inj (hy.symm.trans h2)
      have e2 : am_ev (σ ++ σ1) (q.1, q.2 + t.2) = some (z + t.2) := am_ev_off (am_ev_mo (List.prefix_append _ _) he)
      rw [e2]
      exact congrArg some (by omega)
    · rename_i hq
      have hge : sg.length ≤ i := by
        rcases Nat.lt_or_ge i sg.length with h2 | h2
        · rw [List.getElem?_eq_getElem h2] at hq; cases hq
        · exact h2
      rw [List.getElem?_append_right (by rw [← hs.1]; exact hge)] at hy
      unfold am_ev
      dsimp only
      rw [List.getElem?_append_right (by omega)]
      have e3 : σ.length + (i - sg.length) - σ.length = i - σu.length := by rw [← hs.1]; omega
      rw [e3, hy]
      exact congrArg some e
theorem am_trV_ok (hs : am_SGr σ sg σu) (ht : am_TAr τ tau τu) {v : am_SV} {x : Value} (h1 : am_VV (σu ++ σ1) (τu ++ τ1) ρ v x) : am_VV (σ ++ σ1) (τ ++ τ1) ρ (am_trV sg tau σ.length τ.length v) x := by
  match v, h1 with
  | .inl q, ⟨i, e, k⟩ => exact ⟨i, e, am_trI_ok hs k⟩
  | .inr (.inl k), e => exact e
  | .inr (.inr (.inl o)), ⟨a, ha, e⟩ =>
    show am_VV _ _ _ (match tau[o]? with | some p => am_sO p | none => am_sO (τ.length + (o - tau.length))) x
    split
    · rename_i p hp
      obtain ⟨b, b1, b2⟩ := ht.2 o p hp
      have h2 : (τu ++ τ1)[o]? = some b := am_pf_at (List.prefix_append _ _) b1
      have e1 : b = a := Option.some.inj (h2.symm.trans ha)
      subst e1
      exact ⟨b, am_pf_at (List.prefix_append _ _) b2, e⟩
    · rename_i hp
      have hge : tau.length ≤ o := by
        rcases Nat.lt_or_ge o tau.length with h2 | h2
        · rw [List.getElem?_eq_getElem h2] at hp; cases hp
        · exact h2
      rw [List.getElem?_append_right (by rw [← ht.1]; exact hge)] at ha
      refine ⟨a, ?_, e⟩
      rw [List.getElem?_append_right (by omega)]
      have e3 : τ.length + (o - tau.length) - τ.length = o - τu.length := by rw [← ht.1]; omega
      rw [e3]
      exact ha
  | .inr (.inr (.inr (.inl r))), e => exact e
  | .inr (.inr (.inr (.inr l))), e => exact e
theorem am_trVs_ok (hs : am_SGr σ sg σu) (ht : am_TAr τ tau τu) : ∀ {vs : List am_SV} {xs : List Value}, am_VS (σu ++ σ1) (τu ++ τ1) ρ vs xs → am_VS (σ ++ σ1) (τ ++ τ1) ρ (vs.map (am_trV sg tau σ.length τ.length)) xs
  | [], [], _ => trivial
  | _ :: _, _ :: _, e => ⟨am_trV_ok hs ht e.1, am_trVs_ok hs ht e.2⟩
  | [], _ :: _, e => e.elim
  | _ :: _, [], e => e.elim
theorem am_trO_ok (hs : am_SGr σ sg σu) (ht : am_TAr τ tau τu) {b : am_SO} {e : am_En} (h1 : am_OV (σu ++ σ1) (τu ++ τ1) ρ b e) : am_OV (σ ++ σ1) (τ ++ τ1) ρ (am_trO sg tau σ.length τ.length b) e := by
  match b, h1 with
  | .inl (c, fs), ⟨vs, e, k⟩ => exact ⟨vs, e, am_trVs_ok hs ht k⟩
  | .inr (t, n, ct), ⟨k, A, e, m, z⟩ =>
    refine ⟨k, A, e, am_trI_ok hs m, ?_⟩
    match ct, z with
    | .inl b, z => exact z
    | .inr (.inl _), z => exact z
    | .inr (.inr (.inl l)), ⟨f, e1, e2, e3⟩ =>
      refine ⟨f, e1, by rw [List.length_map]; exact e2, fun i v hv => ?_⟩
      rw [List.getElem?_map] at hv
      obtain ⟨v0, hv0, rfl⟩ := Option.map_eq_some_iff.mp hv
      exact am_trV_ok hs ht (e3 i v0 hv0)
    | .inr (.inr (.inr r)), z => exact z
theorem am_trR_ok (hs : am_SGr σ sg σu) (ht : am_TAr τ tau τu) {o : am_SR} {x : am_Out} (h1 : am_OS (σu ++ σ1) (τu ++ τ1) ρ o x) : am_OS (σ ++ σ1) (τ ++ τ1) ρ (am_trR sg tau σ.length τ.length o) x := by
  match o, h1 with
  | .inl none, e => exact e
  | .inl (some v), ⟨y, e, k⟩ => exact ⟨y, e, am_trV_ok hs ht k⟩
  | .inr k, e => exact e
theorem am_so1_len (f : (Bool × am_SO) ⊕ Nat → (Bool × am_SO) ⊕ Nat) (t : (Bool × am_SO) ⊕ Nat) (p : Nat) (x : (Bool × am_SO) ⊕ Nat) (os : am_Os) : (am_so1 f t p x os).length = os.length := by
  unfold am_so1
  split
  · rw [List.length_set]
  · rfl
theorem am_so1_ne (f : (Bool × am_SO) ⊕ Nat → (Bool × am_SO) ⊕ Nat) (t : (Bool × am_SO) ⊕ Nat) (p : Nat) (x : (Bool × am_SO) ⊕ Nat) (os : am_Os) {o : Nat} (h : ∀ b, t = .inl (true, b) → p ≠ o) : (am_so1 f t p x os)[o]? = os[o]? := by
  unfold am_so1
  split
  · rename_i b
    rw [List.getElem?_set_ne (h b rfl)]
  · rfl
theorem am_so_len (f : (Bool × am_SO) ⊕ Nat → (Bool × am_SO) ⊕ Nat) : ∀ (ts : am_Os) (ps : List Nat) (xs os : am_Os), (am_so f ts ps xs os).length = os.length
  | [], _, _, _ => rfl
  | _ :: _, [], _, _ => rfl
  | _ :: _, _ :: _, [], _ => rfl
  | t :: ts, p :: ps, x :: xs, os => (am_so_len f ts ps xs _).trans (am_so1_len f t p x os)
theorem am_so_ne (f : (Bool × am_SO) ⊕ Nat → (Bool × am_SO) ⊕ Nat) : ∀ (ts : am_Os) (ps : List Nat) (xs os : am_Os) (o : Nat), (∀ (j : Nat) (b : am_SO), ps[j]? = some o → ts[j]? ≠ some (.inl (true, b))) → (am_so f ts ps xs os)[o]? = os[o]?
  | [], _, _, _, _, _ => rfl
  | _ :: _, [], _, _, _, _ => rfl
  | _ :: _, _ :: _, [], _, _, _ => rfl
  | t :: ts, p :: ps, x :: xs, os, o, hn => (am_so_ne f ts ps xs _ o fun j b e => hn (j + 1) b (by simpa using e)).trans (am_so1_ne f t p x os fun b e q => hn 0 b (by rw [q]; rfl) (by rw [e]; rfl))
theorem am_so_eq (f : (Bool × am_SO) ⊕ Nat → (Bool × am_SO) ⊕ Nat) : ∀ (ts : am_Os) (ps : List Nat) (xs os : am_Os) (j p : Nat) (b : am_SO) (x : (Bool × am_SO) ⊕ Nat), ps.Nodup → ts[j]? = some (.inl (true, b)) → ps[j]? = some p → xs[j]? = some x → p < os.length → (am_so f ts ps xs os)[p]? = some (f x) := by
  intro ts
  induction ts with
  | nil => intro ps xs os j p b x _ e; simp at e
  | cons t ts ih =>
    intro ps xs os j p b x hnd e1 e2 e3 hl
    cases ps with
    | nil => simp at e2
    | cons q ps =>
      cases xs with
      | nil => simp at e3
      | cons y xs =>
        rw [List.nodup_cons] at hnd
        show (am_so f ts ps xs (am_so1 f t q y os))[p]? = _
        cases j with
        | zero =>
          have e1 : t = .inl (true, b) := Option.some.inj e1
          have e2 : q = p := Option.some.inj e2
          have e3 : y = x := Option.some.inj e3
          subst e1
          subst e2
          subst e3
          rw [am_so_ne f ts ps xs _ q fun j b e => absurd (List.mem_of_getElem? e) hnd.1]
          show (os.set q (f y))[q]? = _
          rw [List.getElem?_set_self hl]
        | succ j =>
          refine ih ps xs _ j p b x hnd.2 (by simpa using e1) (by simpa using e2) (by simpa using e3) ?_
          rw [am_so1_len]
          exact hl
end AMUS
theorem am_cus_ok {K : am_K0} {σ σu : List Int} {τ : List Nat} {ρ : am_Rh} {h : am_Hp} {w : am_Wd} {sg : List am_I} (hI : am_IV K σ τ ρ h w) (hs : am_SGr σ sg σu) {lin : Bool} (hlin : lin = true → K.2.1 ≠ []) (a b : Int × Int) : am_cs K.2.1 a + am_cs σu b ≤ am_cs K.2.1 (am_cus lin sg h a b) := by
  unfold am_cus
  split
  · rename_i hb
    have hb := am_ie_ok.mp hb
    unfold am_cs
    rw [hb]
    dsimp only
    omega
  · split
    · have e : σu = [] := by
        have := hs.1
        cases σu with
        | nil => rfl
        | cons x t => cases this
      subst e
      unfold am_cs
      dsimp only [List.headD]
      omega
    · rename_i q sg'
      obtain ⟨x, hx, he⟩ := hs.2 0 q rfl
      have hd : σu.headD 0 = x := by
        cases σu with
        | nil => cases hx
        | cons y t => cases hx; rfl
      have hb := am_bd_ok hI.EB he
      unfold am_cs
      rw [hd]
      split
      · rename_i hc
        rw [Bool.and_eq_true, Bool.and_eq_true] at hc
        obtain ⟨⟨c1, c2⟩, c3⟩ := hc
        have c2 := am_oe_ok c2
        have c3 := am_ie_ok.mp c3
        have hK := hI.2.1
        have hne := hlin c1
        obtain ⟨t, ht⟩ := hK
        have e0 : K.2.1.headD 0 + q.2 = x := by
          cases hk : K.2.1 with
          | nil => exact absurd hk hne
          | cons y t' =>
            rw [hk] at ht
            subst ht
            unfold am_ev at he
            rw [c2] at he
            have he : y + q.2 = x := Option.some.inj he
            exact he
        rw [c3]
        dsimp only
        have e1 : b.2 * (2560 - x) = b.2 * (2560 - K.2.1.headD 0) - b.2 * q.2 := by
          rw [← Int.mul_sub]
          congr 1
          omega
        omega
      · split
        · rename_i hc
          rw [am_le_ok] at hc
          dsimp only
          have e1 : b.2 * (2560 - x) ≤ b.2 * (2560 - (am_bd h.1 q).1) := Int.mul_le_mul_of_nonneg_left (by omega) hc
          omega
        · rename_i hc
          have hc := am_le_no hc
          dsimp only
          have e1 : b.2 * (2560 - x) ≤ b.2 * (2560 - (am_bd h.1 q).2) := Int.mul_le_mul_of_nonpos_left (by omega) (by omega)
          omega
theorem am_EB_two {E E' : am_Ev} {σ σu σ1 : List Int} {Eu : am_Ev} (h : am_EB E σ) (hu : am_EB (Eu ++ E') (σu ++ σ1)) (hl : Eu.length = σu.length) : am_EB (E ++ E') (σ ++ σ1) := by
  have hl2 : E'.length = σ1.length := by have := hu.1; simp at this; omega
  refine ⟨by simp [h.1, hl2], fun i b x e1 e2 => ?_⟩
  by_cases hi : i < E.length
  · rw [List.getElem?_append_left hi] at e1
    rw [List.getElem?_append_left (by rw [← h.1]; exact hi)] at e2
    exact h.2 i b x e1 e2
  · rw [List.getElem?_append_right (by omega)] at e1
    rw [List.getElem?_append_right (by rw [← h.1]; omega)] at e2
    refine hu.2 (Eu.length + (i - E.length)) b x ?_ ?_
    · rw [List.getElem?_append_right (by omega), Nat.add_sub_cancel_left]; exact e1
    · rw [List.getElem?_append_right (by omega), hl, Nat.add_sub_cancel_left, h.1]; exact e2
theorem am_use_ok {K : am_K0} {σ : List Int} {τ : List Nat} {ρ : am_Rh} {h : am_Hp} {w : am_Wd} {ls : am_SL} {lsC : am_Lc} {st : List am_SV} {stC : List Value} {sg : List am_I} {tau : List Nat} {u : am_Et} {lin : Bool} {l : List (am_SR × am_Hp)}
    (hI : am_IV K σ τ ρ h w) (hl : am_LS σ τ ρ ls lsC) (hs : am_VS σ τ ρ st stC) (hlin : lin = true → K.2.1 ≠ []) (h1 : am_useS lin u sg tau h ls st = some l) (hok : ∀ σu, am_SGr σ sg σu → am_OkAt u σu) :
    ∃ r, am_run u.1.1 u.1.2 lsC stC w = some r ∧ ∃ p ∈ l, ∃ σ' τ' ρ', am_mo σ σ' τ τ' ρ ρ' ∧ am_IV K σ' τ' ρ' p.2 r.2 ∧ am_OS σ' τ' ρ' p.1 r.1 := by
  unfold am_useS at h1
  split at h1
  · rename_i hc
    rw [Bool.and_eq_true, Bool.and_eq_true] at hc
    obtain ⟨⟨c1, c2⟩, c3⟩ := hc
    obtain ⟨σu, τu, sgr, tar, hG⟩ := am_mat_ok hI c1 ((0, 0), (0, 0))
    have c1' := c1
    unfold am_mat at c1'
    rw [Bool.and_eq_true, Bool.and_eq_true] at c1'
    obtain ⟨⟨-, cn⟩, co⟩ := c1'
    obtain ⟨ol, oat⟩ := am_mOs_ok co
    have hnd := am_nd_ok cn
    obtain ⟨r, hr, po, hpo, σ1, τ1, ρ', g, fr, os, nw, k1, k2⟩ := hok σu sgr τu ρ w lsC stC hG (am_mLs_ok hI sgr tar hl c2) (am_mVs_ok hI sgr tar hs c3)
    obtain rfl := Option.some.inj h1
    refine ⟨r, hr, _, List.mem_map.mpr ⟨po, hpo, rfl⟩, σ ++ σ1, τ ++ τ1, ρ', ⟨List.prefix_append _ _, List.prefix_append _ _, fr.1⟩, ?_, ?_⟩
    · -- the objects that were given to it
      have hfl : ∀ (j : Nat) (b : am_SO), u.2.2.1[j]? = some (.inl (true, b)) → ∃ p c, tau[j]? = some p ∧ h.2.1[p]? = some (.inl (true, c)) := by
        intro j b e
        obtain ⟨p, x, e1, e2, e3⟩ := oat j _ e
        obtain ⟨c, rfl, f1, -⟩ := (am_mO_ok hI sgr tar e3).1 _ rfl
        obtain ⟨c1, c2⟩ := c
        have f1 : c1 = true := f1 rfl
        subst f1
        exact ⟨p, c2, e1, e2⟩
      have hlo := hI.1.2.1.1
      have hlE : h.1.length = σ.length := hI.EB.1
      have glen := g.2.1.1
      have gnd := g.2.1.2.1
      have hlu : u.2.1.length = σu.length := hG.1.1
      have hltt : ∀ (o a : Nat), τ[o]? = some a → a < w.2.1 := fun o a p => hI.ltt p
      have hnew : ∀ (o a : Nat), (τ ++ τ1)[o]? = some a → (o < τ.length ∧ τ[o]? = some a) ∨ (τ.length ≤ o ∧ τ1[o - τ.length]? = some a) := by
        intro o a p
        by_cases ho : o < τ.length
        · rw [List.getElem?_append_left ho] at p; exact Or.inl ⟨ho, p⟩
        · rw [List.getElem?_append_right (by omega)] at p; exact Or.inr ⟨by omega, p⟩
      have hSN : ∀ a, am_SN u.2.2.1 τu a → K.2.2.2.2.2.1 ≤ a ∨ am_SN K.1 K.2.2.1 a := by
        rintro a ⟨j, b, e1, e2⟩
        obtain ⟨p, c, e3, e4⟩ := hfl j b e1
        obtain ⟨a', e5, e6⟩ := tar.2 j p e3
        have e7 : a' = a := Option.some.inj (e5.symm.trans e2)
        subst e7
        exact hI.own e4 e6
      -- the objects behind it
      have hos : ∀ (o : Nat) (x : (Bool × am_SO) ⊕ Nat), (am_so (am_trx sg tau h.1.length h.2.1.length) u.2.2.1 tau po.2.2.1 h.2.1 ++ (po.2.2.1.drop tau.length).map (am_trx sg tau h.1.length h.2.1.length))[o]? = some x →
          (o < τ.length ∧ h.2.1[o]? = some x ∧ ∀ (j : Nat) (b : am_SO), tau[j]? = some o → u.2.2.1[j]? ≠ some (.inl (true, b))) ∨
          (∃ (j : Nat) (b : am_SO) (y : (Bool × am_SO) ⊕ Nat) (c : am_SO), u.2.2.1[j]? = some (.inl (true, b)) ∧ tau[j]? = some o ∧ h.2.1[o]? = some (.inl (true, c)) ∧ po.2.2.1[j]? = some y ∧ x = am_trx sg tau σ.length τ.length y) ∨
          (τ.length ≤ o ∧ ∃ y, po.2.2.1[tau.length + (o - τ.length)]? = some y ∧ x = am_trx sg tau σ.length τ.length y) := by
        intro o x p
        rw [hlE, hlo] at p
        by_cases ho : o < τ.length
        · rw [List.getElem?_append_left (by rw [am_so_len, hlo]; exact ho)] at p
          by_cases hex : ∃ (j : Nat) (b : am_SO), tau[j]? = some o ∧ u.2.2.1[j]? = some (.inl (true, b))
          · obtain ⟨j, b, e1, e2⟩ := hex
            obtain ⟨p', c, e3, e4⟩ := hfl j b e2
            have e5 : p' = o := Option.some.inj (e3.symm.trans e1)
            subst e5
            have hjl : j < po.2.2.1.length := by
              have q1 : j < tau.length := (List.getElem?_eq_some_iff.mp e1).1
              have q2 : po.2.2.1.length = (τu ++ τ1).length := glen
              rw [List.length_append, ← tar.1] at q2
              omega
            have e6 : po.2.2.1[j]? = some po.2.2.1[j] := List.getElem?_eq_getElem hjl
            rw [am_so_eq _ _ _ _ _ j p' b _ hnd e2 e1 e6 (by rw [hlo]; exact ho)] at p
            exact Or.inr (Or.inl ⟨j, b, _, c, e2, e1, e4, e6, (Option.some.inj p).symm⟩)
          · rw [am_so_ne _ _ _ _ _ _ fun j b e1 e2 => hex ⟨j, b, e1, e2⟩] at p
            exact Or.inl ⟨ho, p, fun j b e1 e2 => hex ⟨j, b, e1, e2⟩⟩
        · rw [List.getElem?_append_right (by rw [am_so_len, hlo]; omega), am_so_len, hlo, List.getElem?_map, List.getElem?_drop] at p
          obtain ⟨y, hy, rfl⟩ := Option.map_eq_some_iff.mp p
          exact Or.inr (Or.inr ⟨by omega, y, hy, rfl⟩)
      have hat1 : ∀ (o a : Nat), τ.length ≤ o → τ1[o - τ.length]? = some a → (τu ++ τ1)[tau.length + (o - τ.length)]? = some a := by
        intro o a ho e
        rw [List.getElem?_append_right (by rw [← tar.1]; omega), ← tar.1, Nat.add_sub_cancel_left]
        exact e
      have hat0 : ∀ (j o a : Nat), tau[j]? = some o → τ[o]? = some a → (τu ++ τ1)[j]? = some a := by
        intro j o a e1 e2
        obtain ⟨a', e3, e4⟩ := tar.2 j o e1
        have e5 : a' = a := Option.some.inj (e4.symm.trans e2)
        subst e5
        exact am_pf_at (List.prefix_append _ _) e3
      obtain ⟨⟨i1, ⟨i2, i3, i4, i5⟩, i6, i7⟩, f1, f2, ⟨q1, q2, q3, q4, q5, q6⟩, f4, f5, f6, f7⟩ := hI
      have hI : am_IV K σ τ ρ h w := ⟨⟨i1, ⟨i2, i3, i4, i5⟩, i6, i7⟩, f1, f2, ⟨q1, q2, q3, q4, q5, q6⟩, f4, f5, f6, f7⟩
      obtain ⟨g1, ⟨g2, g3, g4, g5⟩, g6, g7⟩ := g
      obtain ⟨p1, p2, p3, p4, p5, p6⟩ := fr
      refine ⟨⟨am_EB_two i1 g1 hlu, ⟨?_, ?_, fun o b a e1 e2 => ?_, fun o r' a e1 e2 => ?_⟩, am_LI_mo (List.prefix_append _ _) (List.prefix_append _ _) p3 i6, g7⟩, f1.trans (List.prefix_append _ _), f2.trans (List.prefix_append _ _), ⟨fun a r' e => p1 a r' (q1 a r' e), fun a z1 z2 z3 => ?_, fun a t x z1 z2 => ?_, Nat.le_trans q4 p4, p5.trans q5, Nat.le_trans q6 p6⟩, fun o b a e1 e2 => ?_, fun o a e1 e2 => ?_, ?_, ?_⟩
      · show (am_so _ _ _ _ _ ++ _).length = _
        rw [List.length_append, am_so_len, List.length_map, List.length_drop, List.length_append, i2]
        have q2 : po.2.2.1.length = (τu ++ τ1).length := g2
        rw [List.length_append, ← tar.1] at q2
        omega
      · rw [List.nodup_append] at g3 ⊢
        refine ⟨i3, g3.2.1, fun a ha c hc => ?_⟩
        obtain ⟨i, hi⟩ := List.getElem?_of_mem ha
        obtain ⟨j, hj⟩ := List.getElem?_of_mem hc
        have z1 := hltt i a hi
        have z2 := nw j c hj
        omega
      · rcases hos o _ e1 with ⟨m1, m2, m3⟩ | ⟨j, b', y, c, m1, m2, m3, m4, m5⟩ | ⟨m1, y, m2, m3⟩
        · rcases hnew o a e2 with ⟨n1, n2⟩ | ⟨n1, n2⟩
          · obtain ⟨z1, e, z2, z3⟩ := i4 o b a m2 n2
            have hsn : ¬ am_SN u.2.2.1 τu a := by
              rintro ⟨j, b', e3, e4⟩
              obtain ⟨p, c, e5, e6⟩ := hfl j b' e3
              obtain ⟨a', e7, e8⟩ := tar.2 j p e5
              have e9 : a' = a := Option.some.inj (e7.symm.trans e4)
              subst e9
              have e10 := hI.inj e8 n2
              subst e10
              exact m3 j b' e5 e3
            obtain ⟨y1, y2⟩ := p2 a (hltt o a n2) hsn z1
            exact ⟨y1, e, y2.trans z2, am_OV_mo ⟨List.prefix_append _ _, List.prefix_append _ _, p1⟩ z3⟩
          · omega
        · rcases hnew o a e2 with ⟨n1, n2⟩ | ⟨n1, n2⟩
          · cases y with
            | inl y =>
              have m5 : b = (true, am_trO sg tau σ.length τ.length y.2) := Sum.inl.inj m5
              subst m5
              obtain ⟨z1, e, z2, z3⟩ := g4 j y a m4 (hat0 j o a m2 n2)
              exact ⟨z1, e, z2, am_trO_ok sgr tar z3⟩
            | inr y => cases m5
          · have := (List.getElem?_eq_some_iff.mp m3).1; omega
        · rcases hnew o a e2 with ⟨n1, n2⟩ | ⟨n1, n2⟩
          · omega
          · cases y with
            | inl y =>
              have m3 : b = (true, am_trO sg tau σ.length τ.length y.2) := Sum.inl.inj m3
              subst m3
              obtain ⟨z1, e, z2, z3⟩ := g4 _ y a m2 (hat1 o a n1 n2)
              exact ⟨z1, e, z2, am_trO_ok sgr tar z3⟩
            | inr y => cases m3
      · rcases hos o _ e1 with ⟨m1, m2, m3⟩ | ⟨j, b', y, c, m1, m2, m3, m4, m5⟩ | ⟨m1, y, m2, m3⟩
        · rcases hnew o a e2 with ⟨n1, n2⟩ | ⟨n1, n2⟩
          · exact p1 a r' (i5 o r' a m2 n2)
          · omega
        · rcases hnew o a e2 with ⟨n1, n2⟩ | ⟨n1, n2⟩
          · cases y with
            | inl y => cases m5
            | inr y =>
              have m5 : r' = y := Sum.inr.inj m5
              subst m5
              exact g5 j r' a m4 (hat0 j o a m2 n2)
          · have := (List.getElem?_eq_some_iff.mp m3).1; omega
        · rcases hnew o a e2 with ⟨n1, n2⟩ | ⟨n1, n2⟩
          · omega
          · cases y with
            | inl y => cases m3
            | inr y =>
              have m3 : r' = y := Sum.inr.inj m3
              subst m3
              exact g5 _ r' a m2 (hat1 o a n1 n2)
      · obtain ⟨y1, y2⟩ := q2 a z1 z2 z3
        have hsn : ¬ am_SN u.2.2.1 τu a := fun hh => by
          rcases hSN a hh with k | k
          · omega
          · exact z2 k
        obtain ⟨y3, y4⟩ := p2 a (by omega) hsn y1
        exact ⟨y3, y4.trans y2⟩
      · have m := q3 a t x z1 z2
        exact (p3 a t x (m.trans z1) z2).trans m
      · rcases hos o _ e1 with ⟨m1, m2, m3⟩ | ⟨j, b', y, c, m1, m2, m3, m4, m5⟩ | ⟨m1, y, m2, m3⟩
        · rcases hnew o a e2 with ⟨n1, n2⟩ | ⟨n1, n2⟩
          · exact f4 o b a m2 n2
          · omega
        · rcases hnew o a e2 with ⟨n1, n2⟩ | ⟨n1, n2⟩
          · exact f4 o c a m3 n2
          · have := (List.getElem?_eq_some_iff.mp m3).1; omega
        · rcases hnew o a e2 with ⟨n1, n2⟩ | ⟨n1, n2⟩
          · omega
          · have := nw _ a n2; exact Or.inl (by omega)
      · rcases hnew o a e1 with ⟨n1, n2⟩ | ⟨n1, n2⟩
        · exact f5 o a n2 e2
        · have := nw _ a n2; omega
      · have := am_cus_ok hI sgr hlin h.2.2.2.1 po.2.2.2.1
        show (r.2.2.1 : Int) ≤ _ + am_cs K.2.1 (am_cus lin sg h h.2.2.2.1 po.2.2.2.1)
        omega
      · have := am_cus_ok hI sgr hlin h.2.2.2.2 po.2.2.2.2
        show (r.2.2.2.1 : Int) ≤ _ + am_cs K.2.1 (am_cus lin sg h h.2.2.2.2 po.2.2.2.2)
        omega
    · have e := am_trR_ok (σ1 := σ1) (τ1 := τ1) (ρ := ρ') sgr tar os
      rw [← hI.EB.1, ← hI.1.2.1.1] at e
      exact e
  · cases h1
