/-! THE CHECKER'S ACTS, and that what it passes stands. Mine. -/
/-- count of plain steps, kind, number, unknowns, names, what becomes of a role -/
abbrev am_Hn : Type := Nat × Nat × Nat × List am_I × List Nat × List (Nat × Nat)
def am_gtI (h : am_Hp) (a b : am_I) : Bool := (am_oe a.1 b.1 && am_lt b.2 a.2) || am_lt (am_bd h.1 b).2 (am_bd h.1 a).1
def am_muS (mu : List am_I) (i : Nat) : am_I := match mu[i]? with
  | some c => c
  | none => (none, -1)
def am_muU (sg : List am_I) (mu : List am_I) (i : Nat) : Option am_I := match mu[i]? with
  | some c => am_in2 sg c
  | none => some (none, -1)
def am_rank (e u : am_Et) (sg : List am_I) (h : am_Hp) : Bool := Nat.blt u.2.2.2.2.2.2.1 e.2.2.2.2.2.2.1 || (Nat.beq u.2.2.2.2.2.2.1 e.2.2.2.2.2.2.1 && (match am_muU sg u.2.2.2.2.2.1 0, am_muU sg u.2.2.2.2.2.1 1, am_muU sg u.2.2.2.2.2.1 2 with
  | some a0, some a1, some a2 => am_gtI h a0 (am_muS e.2.2.2.2.2.1 0) || (am_eqk h.1 a0 (am_muS e.2.2.2.2.2.1 0) && (am_gtI h a1 (am_muS e.2.2.2.2.2.1 1) || (am_eqk h.1 a1 (am_muS e.2.2.2.2.2.1 1) && am_gtI h a2 (am_muS e.2.2.2.2.2.1 2))))
  | _, _, _ => false))
def am_memB (m pc : Nat) (ls : am_SL) (st : List am_SV) (p : am_SR × am_Hp) : am_SR × am_Hp := if (Nat.beq m am_pure && Nat.beq pc 0 && st.isEmpty) = true then (match ls, p with
  | [some (.inl q), some (.inl r), none, none], (.inl (some (.inl x)), h) => (p.1, am_rl1 h (4, q, r, x))
  | _, _ => p) else p
def am_spl (K : List am_Fm) (m pc : Nat) (ls : am_SL) (st : List am_SV) (h : am_Hp) (q : am_I) (lo : Int) : Nat → List am_It
  | 0 => []
  | n + 1 => .inl (K, m, pc, ls, st, am_req h q (none, lo + (n : Int))) :: am_spl K m pc ls st h q lo n
def am_idI (k : Nat) : List am_I := (List.range k).map fun i => (some i, 0)
def am_mR (h : am_Hp) (sg : List am_I) (tau : List Nat) (t o : am_SR) : Bool := match t, o with
  | .inl none, .inl none => true
  | .inl (some t), .inl (some v) => am_mV h sg tau t v
  | .inr j, .inr k => Nat.beq j k
  | _, _ => false
/-- a is at most p, whatever unknown 0 is -/
def am_cle (E : am_Ev) (a p : Int × Int) : Bool := am_le (a.1 + a.2 * (2560 - (am_bd E (some 0, 0)).1)) (p.1 + p.2 * (2560 - (am_bd E (some 0, 0)).1)) && am_le (a.1 + a.2 * (2560 - (am_bd E (some 0, 0)).2)) (p.1 + p.2 * (2560 - (am_bd E (some 0, 0)).2))
def am_cl0 (lin : Bool) (E : am_Ev) (a p : Int × Int) : Bool := match lin with
  | true => am_cle E a p
  | false => am_le (a.1 + a.2 * 2560) (p.1 + p.2 * 2560)
def am_lin (e : am_Et) : Bool := match e.2.1 with
  | [] => false
  | _ :: _ => true
def am_endS (e : am_Et) (po : am_Po) (sg : List am_I) (tau : List Nat) (o : am_SR) (h : am_Hp) : Bool :=
  am_mat h (e.2.1 ++ po.2.1) po.2.2.1 (am_idI e.2.1.length ++ sg) (List.range e.2.2.1.length ++ tau) && am_mR h (am_idI e.2.1.length ++ sg) (List.range e.2.2.1.length ++ tau) po.1 o && am_cl0 (am_lin e) h.1 h.2.2.2.1 po.2.2.2.1 && am_cl0 (am_lin e) h.1 h.2.2.2.2 po.2.2.2.2
def am_act (T : Nat → Option am_Et) (e : am_Et) (hn : am_Hn) (it : am_It) : Option (List am_It) := match hn.2.1, it with
  | 0, it => am_sx it
  | 1, .inl (K, m, pc, ls, st, h) => match T hn.2.2.1, am_pbs h hn.2.2.2.2.2 with
    | some u, some h1 => if (Nat.beq u.1.1 m && Nat.beq u.1.2 pc && am_rank e u hn.2.2.2.1 h1) = true then (match am_useS (am_lin e) u hn.2.2.2.1 hn.2.2.2.2.1 h1 ls st with
      | some l => some (l.map fun p => am_ret K p.1 (am_memB m pc ls st p).2)
      | none => none) else none
    | _, _ => none
  | 2, .inl (K, m, pc, ls, st, h) => match ls[hn.2.2.1]? with
    | some (some (.inl q)) => some (am_spl K m pc ls st h q (am_bd h.1 q).1 ((am_bd h.1 q).2 - (am_bd h.1 q).1 + 1).toNat)
    | _ => none
  | 3, .inr (o, h) => match e.2.2.2.2.2.2.2[hn.2.2.1]?, am_pbs h hn.2.2.2.2.2 with
    | some po, some h1 => if am_endS e po hn.2.2.2.1 hn.2.2.2.2.1 o h1 = true then some [] else none
    | _, _ => none
  | 4, .inl (K, m, pc, ls, st, h) => if (Nat.beq m am_pure && Nat.beq pc 0) = true then (match ls, st with
    | [some (.inl q), some (.inl r), none, none], [] => match am_find 4 q r h.2.2.1 with
      | some x => some [am_ret K (.inl (some (.inl x))) h]
      | none => none
    | _, _ => none) else none
  | _, _ => none
def am_ck (T : Nat → Option am_Et) (e : am_Et) : Nat → List am_Hn → List am_It → Bool
  | 0, _, _ => false
  | _ + 1, _, [] => true
  | n + 1, hs, it :: t => match hs with
    | [] => false
    | hn :: hs' => match am_seg hn.1 it with
      | none => false
      | some it' => match am_act T e hn it' with
        | none => false
        | some l => am_ck T e n hs' (l ++ t)
def am_big : Int := 4294967296
/-- the measure is of its own unknowns, and bounded -/
def am_vmu (e : am_Et) : Bool := e.2.2.2.2.2.1.all fun c => (match c.1 with
  | none => true
  | some i => Nat.blt i e.2.1.length) && am_le (am_bd e.2.1 c).2 am_big
def am_one (T : Nat → Option am_Et) (e : am_Et) (n : Nat) (hs : List am_Hn) : Bool := am_vmu e && am_ck T e n hs [.inl ([], e.1.1, e.1.2, e.2.2.2.1, e.2.2.2.2.1, (e.2.1, e.2.2.1, [], (0, 0), (0, 0)))]
/-! soundness -/
def am_muv (σ : List Int) (mu : List am_I) (i : Nat) : Int := match mu[i]? with
  | some c => (am_ev σ c).getD 0
  | none => -1
def am_lex (a0 a1 a2 b0 b1 b2 : Int) : Prop := b0 < a0 ∨ (a0 = b0 ∧ (b1 < a1 ∨ (a1 = b1 ∧ b2 < a2)))
def am_bel (e : am_Et) (σ0 : List Int) (u : am_Et) (σu : List Int) : Prop := u.2.2.2.2.2.2.1 < e.2.2.2.2.2.2.1 ∨ (u.2.2.2.2.2.2.1 = e.2.2.2.2.2.2.1 ∧
  am_lex (am_muv σu u.2.2.2.2.2.1 0) (am_muv σu u.2.2.2.2.2.1 1) (am_muv σu u.2.2.2.2.2.1 2) (am_muv σ0 e.2.2.2.2.2.1 0) (am_muv σ0 e.2.2.2.2.2.1 1) (am_muv σ0 e.2.2.2.2.2.1 2))
section AMSD
variable {σ σu σ0 : List Int} {τ τ0 : List Nat} {ρ ρ0 : am_Rh} {w w0 : am_Wd} {e u : am_Et} {h : am_Hp} {sg : List am_I} {T : Nat → Option am_Et}
theorem am_gtI_ok (hE : am_EB h.1 σ) {a b : am_I} {x y : Int} (ha : am_ev σ a = some x) (hb : am_ev σ b = some y) (h1 : am_gtI h a b = true) : y < x := by
  unfold am_gtI at h1
  rw [Bool.or_eq_true, Bool.and_eq_true, am_lt_ok, am_lt_ok] at h1
  rcases h1 with ⟨c1, c2⟩ | c
  · have := am_ev_of (am_oe_ok c1) ha hb
    omega
  · have b1 := am_bd_ok hE ha
    have b2 := am_bd_ok hE hb
    omega
theorem am_muS_ok (hv : am_vmu e = true) (hE : am_EB e.2.1 σ0) (hp : σ0 <+: σ) (i : Nat) : am_ev σ (am_muS e.2.2.2.2.2.1 i) = some (am_muv σ0 e.2.2.2.2.2.1 i) := by
  unfold am_muS am_muv
  cases hc : e.2.2.2.2.2.1[i]? with
  | none => rfl
  | some c =>
    dsimp only
    have h1 := List.all_eq_true.mp hv c (List.mem_of_getElem? hc)
    rw [Bool.and_eq_true] at h1
    have hx : ∃ x, am_ev σ0 c = some x := by
      unfold am_ev
      have h2 := h1.1
      split at h2
      · rename_i hq; rw [hq]; exact ⟨_, rfl⟩
      · rename_i j hq
        rw [hq]
        have hj : j < σ0.length := by rw [← hE.1]; exact Nat.blt_eq.mp h2
        refine ⟨σ0[j] + c.2, ?_⟩
        show Option.map _ _ = _
        rw [List.getElem?_eq_getElem hj]
        rfl
    obtain ⟨x, hx⟩ := hx
    rw [hx]
    exact am_ev_mo hp hx
theorem am_muU_ok (hs : am_SGr σ sg σu) {i : Nat} {a : am_I} (h1 : am_muU sg u.2.2.2.2.2.1 i = some a) : am_ev σ a = some (am_muv σu u.2.2.2.2.2.1 i) := by
  unfold am_muU at h1
  unfold am_muv
  split at h1
  · rename_i c hc
    (try rw [hc])
    obtain ⟨e1, x, e2⟩ := am_in2_ok hs h1
    (try dsimp only)
    rw [e1, e2]
    rfl
  · rename_i hc
    (try rw [hc])
    obtain rfl := Option.some.inj h1
    rfl
theorem am_rank_ok (hv : am_vmu e = true) (hE0 : am_EB e.2.1 σ0) (hp : σ0 <+: σ) (hE : am_EB h.1 σ) (hs : am_SGr σ sg σu) (h1 : am_rank e u sg h = true) : am_bel e σ0 u σu := by
  unfold am_rank at h1
  rw [Bool.or_eq_true, Bool.and_eq_true] at h1
  rcases h1 with h1 | ⟨h1, h2⟩
  · exact Or.inl (Nat.blt_eq.mp h1)
  · refine Or.inr ⟨Nat.eq_of_beq_eq_true h1, ?_⟩
    split at h2
    · rename_i a0 a1 a2 e0 e1 e2
      have u0 := am_muU_ok hs e0
      have u1 := am_muU_ok hs e1
      have u2 := am_muU_ok hs e2
      have s0 := am_muS_ok hv hE0 hp 0
      have s1 := am_muS_ok hv hE0 hp 1
      have s2 := am_muS_ok hv hE0 hp 2
      rw [Bool.or_eq_true, Bool.and_eq_true, Bool.or_eq_true, Bool.and_eq_true] at h2
      rcases h2 with h2 | ⟨h2, h3⟩
      · exact Or.inl (am_gtI_ok hE u0 s0 h2)
      · refine Or.inr ⟨am_eqk_ok hE u0 s0 h2, ?_⟩
        rcases h3 with h3 | ⟨h3, h4⟩
        · exact Or.inl (am_gtI_ok hE u1 s1 h3)
        · exact Or.inr ⟨am_eqk_ok hE u1 s1 h3, am_gtI_ok hE u2 s2 h4⟩
    · cases h2
theorem am_spl_mem {K : List am_Fm} {m pc : Nat} {ls : am_SL} {st : List am_SV} {q : am_I} {lo : Int} : ∀ {n j : Nat}, j < n → .inl (K, m, pc, ls, st, am_req h q (none, lo + (j : Int))) ∈ am_spl K m pc ls st h q lo n
  | n + 1, j, hj => by
    unfold am_spl
    by_cases hjn : j = n
    · subst hjn; exact List.mem_cons_self
    · exact List.mem_cons_of_mem _ (am_spl_mem (by omega))
theorem am_ent_pure (x y : Int32) : am_ent am_pure [.int x, .int y] = [some (.int x), some (.int y), none, none] := by
  have hd : am_dead am_pure 0 = [2, 3] := by decide +kernel
  have hm : am_ml am_pure = 4 := by decide +kernel
  unfold am_ent am_nrm
  rw [hd, hm]
  rfl
theorem am_cl0_ok (hE0 : am_EB e.2.1 σ0) (hE : am_EB h.1 σ) (hp : σ0 <+: σ) {a p : Int × Int} (h1 : am_cl0 (am_lin e) h.1 a p = true) : am_cs σ0 a ≤ am_cs σ0 p := by
  unfold am_cl0 at h1
  split at h1
  · rename_i hl
    have hne : σ0 ≠ [] := by
      intro q
      unfold am_lin at hl
      split at hl
      · cases hl
      · rename_i b t hb
        have := hE0.1
        rw [hb, q] at this
        cases this
    have hx : am_ev σ (some 0, 0) = some (σ0.headD 0) := by
      cases hk : σ0 with
      | nil => exact absurd hk hne
      | cons y t =>
        rw [hk] at hp
        obtain ⟨t', rfl⟩ := hp
        unfold am_ev
        show Option.map _ _ = _
        simp
    have hb := am_bd_ok hE hx
    unfold am_cle at h1
    rw [Bool.and_eq_true, am_le_ok, am_le_ok] at h1
    unfold am_cs
    by_cases hd : a.2 ≤ p.2
    · have k : (p.2 - a.2) * (2560 - (am_bd h.1 (some 0, 0)).2) ≤ (p.2 - a.2) * (2560 - σ0.headD 0) := Int.mul_le_mul_of_nonneg_left (by omega) (by omega)
      rw [Int.sub_mul, Int.sub_mul] at k
      omega
    · have k : (a.2 - p.2) * (2560 - σ0.headD 0) ≤ (a.2 - p.2) * (2560 - (am_bd h.1 (some 0, 0)).1) := Int.mul_le_mul_of_nonneg_left (by omega) (by omega)
      rw [Int.sub_mul, Int.sub_mul] at k
      omega
  · rename_i hl
    have hne : σ0 = [] := by
      unfold am_lin at hl
      split at hl
      · rename_i hb
        have := hE0.1
        rw [hb] at this
        cases σ0 with
        | nil => rfl
        | cons x t => cases this
      · cases hl
    subst hne
    rw [am_le_ok] at h1
    unfold am_cs
    dsimp only [List.headD]
    omega
theorem am_mR_ok {K : am_K0} (hI : am_IV K σ τ ρ h w) {σu : List Int} {tau τu : List Nat} (hs : am_SGr σ sg σu) (ht : am_TAr τ tau τu) {t o : am_SR} {x : am_Out} (ho : am_OS σ τ ρ o x) (h1 : am_mR h sg tau t o = true) : am_OS σu τu ρ t x := by
  unfold am_mR at h1
  split at h1
  · exact ho
  · obtain ⟨y, rfl, hv⟩ := ho
    exact ⟨y, rfl, am_mV_ok hI hs ht hv h1⟩
  · rename_i j k
    have hk := Nat.eq_of_beq_eq_true h1
    subst hk
    exact ho
  · cases h1
theorem am_nd_at {α : Type} {l : List α} (hn : l.Nodup) {i j : Nat} {x : α} (hi : l[i]? = some x) (hj : l[j]? = some x) : i = j := by
  obtain ⟨h1, e1⟩ := List.getElem?_eq_some_iff.mp hi
  obtain ⟨h2, e2⟩ := List.getElem?_eq_some_iff.mp hj
  have hp := List.pairwise_iff_getElem.mp hn
  rcases Nat.lt_trichotomy i j with q | q | q
  · exact absurd (e1.trans e2.symm) (hp i j h1 h2 q)
  · exact q
  · exact absurd (e2.trans e1.symm) (hp j i h2 h1 q)
theorem am_pf_len {α : Type} {l l' : List α} (h : l <+: l') (h2 : ∀ i, i < l.length → l'[i]? = l[i]?) : l' = l ++ l'.drop l.length := by
  obtain ⟨t, rfl⟩ := h
  simp
/-- a run's end fits what is said -/
theorem am_endS_ok (hG0 : am_GS σ0 τ0 ρ0 (e.2.1, e.2.2.1, [], (0, 0), (0, 0)) w0) (hI : am_IV (e.2.2.1, σ0, τ0, ρ0, w0) σ τ ρ h w) {o : am_SR} {x : am_Out} (ho : am_OS σ τ ρ o x) {po : am_Po} (hpo : po ∈ e.2.2.2.2.2.2.2) {tau : List Nat} (h1 : am_endS e po sg tau o h = true) : am_PS e σ0 τ0 ρ0 w0 (x, w) := by
  unfold am_endS at h1
  rw [Bool.and_eq_true, Bool.and_eq_true, Bool.and_eq_true] at h1
  obtain ⟨⟨⟨c1, c2⟩, c3⟩, c4⟩ := h1
  obtain ⟨σu, τu, hs, ht, hG⟩ := am_mat_ok hI c1 ((0, 0), (0, 0))
  have c1' := c1
  unfold am_mat at c1'
  rw [Bool.and_eq_true, Bool.and_eq_true] at c1'
  have hnd := am_nd_ok c1'.1.2
  have hlE : e.2.1.length = σ0.length := hG0.1.1
  have hlO : e.2.2.1.length = τ0.length := hG0.2.1.1
  have hpσ : σ0 <+: σ := hI.2.1
  have hpτ : τ0 <+: τ := hI.2.2.1
  have hσ : σu = σ0 ++ σu.drop σ0.length := by
    have hlen : σ0.length ≤ σu.length := by rw [← hs.1]; simp [am_idI, hlE]
    apply List.ext_getElem?
    intro i
    by_cases hi : i < σ0.length
    · rw [List.getElem?_append_left hi]
      have h2 : (am_idI e.2.1.length ++ sg)[i]? = some (some i, 0) := by
        rw [List.getElem?_append_left (by simp [am_idI, hlE]; exact hi)]
        unfold am_idI
        rw [List.getElem?_map, List.getElem?_range (by omega)]
        rfl
      obtain ⟨y, hy, he⟩ := hs.2 i _ h2
      rw [hy]
      have h3 : am_ev σ (some i, 0) = some σ0[i] := by
        unfold am_ev
        show Option.map _ _ = _
        rw [am_pf_at hpσ (List.getElem?_eq_getElem hi)]
        show some (σ0[i] + 0) = _
        rw [Int.add_zero]
      rw [List.getElem?_eq_getElem hi]
      exact he.symm.trans h3
    · rw [List.getElem?_append_right (by omega), List.getElem?_drop]
      congr 1
      omega
  have hτ : τu = τ0 ++ τu.drop τ0.length := by
    apply List.ext_getElem?
    intro i
    by_cases hi : i < τ0.length
    · rw [List.getElem?_append_left hi]
      have h2 : (List.range e.2.2.1.length ++ tau)[i]? = some i := by
        rw [List.getElem?_append_left (by rw [List.length_range, hlO]; exact hi), List.getElem?_range (by omega)]
      obtain ⟨a, a1, a2⟩ := ht.2 i i h2
      have h3 := am_pf_at hpτ (List.getElem?_eq_getElem hi)
      rw [a1, List.getElem?_eq_getElem hi]
      exact a2.symm.trans h3
    · rw [List.getElem?_append_right (by omega), List.getElem?_drop]
      congr 1
      omega
  refine ⟨po, hpo, σu.drop σ0.length, τu.drop τ0.length, ρ, ?_, hI.2.2.2.1, ?_, fun o' a hoa => ?_, ?_, ?_⟩
  · rw [← hσ, ← hτ]; exact hG
  · rw [← hσ, ← hτ]; exact am_mR_ok hI hs ht ho c2
  · rw [List.getElem?_drop] at hoa
    have hl : τ0.length + o' < (List.range e.2.2.1.length ++ tau).length := by rw [ht.1]; exact (List.getElem?_eq_some_iff.mp hoa).1
    obtain ⟨a', a1, a2⟩ := ht.2 (τ0.length + o') _ (List.getElem?_eq_getElem hl)
    have e1 : a' = a := Option.some.inj (a1.symm.trans hoa)
    subst e1
    refine hI.2.2.2.2.2.1 _ a' a2 ?_
    show τ0.length ≤ (List.range e.2.2.1.length ++ tau)[τ0.length + o']
    have hp2 := List.getElem?_eq_getElem hl
    generalize (List.range e.2.2.1.length ++ tau)[τ0.length + o'] = p at hp2 ⊢
    rcases Nat.lt_or_ge p τ0.length with q | q
    · have h3 : (List.range e.2.2.1.length ++ tau)[p]? = some p := by
        rw [List.getElem?_append_left (by rw [List.length_range, hlO]; exact q), List.getElem?_range (by omega)]
      have h4 := am_nd_at hnd hp2 h3
      omega
    · exact q
  · have k1 := hI.2.2.2.2.2.2.1
    have k2 := am_cl0_ok hG0.1 hI.EB hpσ c3
    show (w.2.1 : Int) ≤ (w0.2.1 : Int) + am_cs σ0 po.2.2.2.1
    have k1 : (w.2.1 : Int) ≤ (w0.2.1 : Int) + am_cs σ0 h.2.2.2.1 := k1
    omega
  · have k1 := hI.2.2.2.2.2.2.2
    have k2 := am_cl0_ok hG0.1 hI.EB hpσ c4
    show (w.2.2.1 : Int) ≤ (w0.2.2.1 : Int) + am_cs σ0 po.2.2.2.2
    have k1 : (w.2.2.1 : Int) ≤ (w0.2.2.1 : Int) + am_cs σ0 h.2.2.2.2 := k1
    omega
theorem am_act_ok (hv : am_vmu e = true) (hG0 : am_GS σ0 τ0 ρ0 (e.2.1, e.2.2.1, [], (0, 0), (0, 0)) w0) (H : ∀ (j : Nat) (u : am_Et), T j = some u → ∀ σu, am_bel e σ0 u σu → am_OkAt u σu) {hn : am_Hn} {it : am_It} {l : List am_It} (h1 : am_act T e hn it = some l)
    (hg : ∀ x ∈ l, am_Good e σ0 τ0 ρ0 w0 x) : am_Good e σ0 τ0 ρ0 w0 it := by
  obtain ⟨cnt, kind, a, sg, tau, pubs⟩ := hn
  unfold am_act at h1
  split at h1
  · exact am_sx_ok h1 hg
  · rename_i K m pc ls st h hk
    split at h1
    · rename_i u h2 hu hp
      split at h1
      · rename_i hc
        rw [Bool.and_eq_true, Bool.and_eq_true] at hc
        obtain ⟨⟨c1, c2⟩, c3⟩ := hc
        have c1 := Nat.eq_of_beq_eq_true c1
        have c2 := Nat.eq_of_beq_eq_true c2
        split at h1
        · rename_i l' hl'
          obtain rfl := Option.some.inj h1
          intro σ τ ρ w KC lsC stC hI hK hl hs
          obtain ⟨ρ', hI', hm⟩ := am_pbs_ok hI hp
          have hlin : am_lin e = true → σ0 ≠ [] := by
            intro hl q
            unfold am_lin at hl
            split at hl
            · cases hl
            · rename_i b t hb
              have := hG0.1.1
              dsimp only at this
              rw [hb, q] at this
              cases this
          obtain ⟨r, hr, p, hpm, σ', τ', ρ2, hm2, hI2, ho⟩ := am_use_ok hI' (am_LS_mo hm hl) (am_VS_mo hm hs) hlin hl' fun σu hsu => H a u hu σu (am_rank_ok hv hG0.1 hI.2.1 hI'.EB hsu c3)
          rw [c1, c2] at hr
          rw [hr]
          have hG := hg _ (List.mem_map.mpr ⟨p, hpm, rfl⟩)
          have hI3 : am_IV (e.2.2.1, σ0, τ0, ρ0, w0) σ' τ' ρ2 (am_memB m pc ls st p).2 r.2 := by
            unfold am_memB
            split
            · rename_i hpu
              rw [Bool.and_eq_true, Bool.and_eq_true] at hpu
              have hpm1 := Nat.eq_of_beq_eq_true hpu.1.1
              have hpc0 := Nat.eq_of_beq_eq_true hpu.1.2
              have hste : st = [] := List.isEmpty_iff.mp hpu.2
              split
              · rename_i q q' x h'
                dsimp only
                refine am_IV_env (h := h') hI2 List.prefix_rfl hI2.EB fun z hz => ?_
                rcases List.mem_cons.mp hz with rfl | hz
                · -- the answer is kept
                  obtain ⟨y, hy, v, rfl, hv2⟩ := ho
                  match lsC, hl with
                  | [some x1, some x2, none, none], ⟨⟨i1, e1, f1⟩, ⟨i2, e2, f2⟩, _⟩ =>
                    subst e1
                    subst e2
                    unfold am_R1
                    rw [if_neg (show ¬ (4 : Nat) = 0 by decide), if_neg (show ¬ (4 : Nat) = 3 by decide), if_pos rfl]
                    refine ⟨i1, i2, v, am_ev_mo (hm.1.trans hm2.1) f1, am_ev_mo (hm.1.trans hm2.1) f2, hv2, fun w' => ?_⟩
                    have hst : stC = [] := by rw [hste] at hs; exact am_VS_n hs
                    rw [hst, hpm1, hpc0] at hr
                    have hx : am_x am_pure [.int i1, .int i2] w = some r := by
                      unfold am_x
                      rw [am_ent_pure]
                      exact hr
                    have := am_pure_x hx w'
                    rw [hy] at this
                    exact this
                · exact hI2.LI z hz
              · exact hI2
            · exact hI2
          exact am_ret_ok hG hI3 (am_KS_mo (am_mo_tr hm hm2) hK) ho
        · cases h1
      · cases h1
    · cases h1
  · rename_i K m pc ls st h hk
    split at h1
    · rename_i q hq
      obtain rfl := Option.some.inj h1
      intro σ τ ρ w KC lsC stC hI hK hl hs
      have hat := am_LS_at a hl
      rw [hq] at hat
      cases hx : lsC[a]? with
      | none => rw [hx] at hat; exact hat.elim
      | some ox =>
        cases ox with
        | none => rw [hx] at hat; exact hat.elim
        | some x =>
          rw [hx] at hat
          obtain ⟨i, -, hi⟩ := hat
          have hb := am_bd_ok hI.EB hi
          have hmem := am_spl_mem (K := K) (m := m) (pc := pc) (ls := ls) (st := st) (h := h) (q := q) (lo := (am_bd h.1 q).1) (n := ((am_bd h.1 q).2 - (am_bd h.1 q).1 + 1).toNat) (j := (i.toInt - (am_bd h.1 q).1).toNat) (by omega)
          have e2 : (am_bd h.1 q).1 + ((i.toInt - (am_bd h.1 q).1).toNat : Int) = i.toInt := by omega
          rw [e2] at hmem
          exact hg _ hmem σ τ ρ w KC lsC stC (am_req_ok hI hi rfl) hK hl hs
    · cases h1
  · rename_i o h hk
    split at h1
    · rename_i po h2 hpo hp
      split at h1
      · rename_i hc
        intro σ τ ρ w x hI ho
        obtain ⟨ρ', hI', hm⟩ := am_pbs_ok hI hp
        exact am_endS_ok hG0 hI' (am_OS_mo hm ho) (List.mem_of_getElem? hpo) hc
      · cases h1
    · cases h1
  · rename_i K m pc ls st h hk
    split at h1
    · rename_i hpu
      rw [Bool.and_eq_true] at hpu
      have hpm1 := Nat.eq_of_beq_eq_true hpu.1
      have hpc0 := Nat.eq_of_beq_eq_true hpu.2
      split at h1
      · rename_i q r
        split at h1
        · rename_i x hx
          obtain rfl := Option.some.inj h1
          intro σ τ ρ w KC lsC stC hI hK hl hs
          obtain rfl := am_VS_n hs
          match lsC, hl with
          | [some x1, some x2, none, none], ⟨⟨i1, e1, f1⟩, ⟨i2, e2, f2⟩, _⟩ =>
            subst e1
            subst e2
            have hR := hI.LI _ (am_find_ok hx)
            unfold am_R1 at hR
            rw [if_neg (show ¬ (4 : Nat) = 0 by decide), if_neg (show ¬ (4 : Nat) = 3 by decide), if_pos rfl] at hR
            obtain ⟨j1, j2, v, g1, g2, g3, g4⟩ := hR
            have k1 : j1 = i1 := Int32.toInt_inj.mp (Option.some.inj (g1.symm.trans f1))
            have k2 : j2 = i2 := Int32.toInt_inj.mp (Option.some.inj (g2.symm.trans f2))
            subst k1
            subst k2
            have hrun := g4 w
            unfold am_x at hrun
            rw [am_ent_pure] at hrun
            rw [hpm1, hpc0, hrun]
            exact am_ret_ok (hg _ (List.mem_singleton.mpr rfl)) hI hK ⟨_, rfl, v, rfl, g3⟩
        · cases h1
      · cases h1
    · cases h1
  · cases h1
theorem am_ck_ok (hv : am_vmu e = true) (hG0 : am_GS σ0 τ0 ρ0 (e.2.1, e.2.2.1, [], (0, 0), (0, 0)) w0) (H : ∀ (j : Nat) (u : am_Et), T j = some u → ∀ σu, am_bel e σ0 u σu → am_OkAt u σu) : ∀ {n : Nat} {hs : List am_Hn} {its : List am_It}, am_ck T e n hs its = true → ∀ it ∈ its, am_Good e σ0 τ0 ρ0 w0 it := by
  intro n
  induction n with
  | zero => intro hs its h1; cases h1
  | succ n ih =>
    intro hs its h1 it hit
    cases its with
    | nil => cases hit
    | cons i0 t =>
      unfold am_ck at h1
      (try dsimp only at h1)
      split at h1
      · cases h1
      · rename_i hn hs'
        split at h1
        · cases h1
        · rename_i it' hseg
          split at h1
          · cases h1
          · rename_i l hact
            have hall := ih h1
            rcases List.mem_cons.mp hit with rfl | hit
            · exact am_seg_ok hseg (am_act_ok hv hG0 H hact fun x hx => hall x (List.mem_append_left _ hx))
            · exact hall it (List.mem_append_right _ hit)
def am_st0 (e : am_Et) : am_It := .inl ([], e.1.1, e.1.2, e.2.2.2.1, e.2.2.2.2.1, (e.2.1, e.2.2.1, [], (0, 0), (0, 0)))
theorem am_good_at {e : am_Et} {σ0 : List Int} (hg : ∀ (τ : List Nat) (ρ : am_Rh) (w : am_Wd), am_GS σ0 τ ρ (e.2.1, e.2.2.1, [], (0, 0), (0, 0)) w → am_Good e σ0 τ ρ w (am_st0 e)) : am_OkAt e σ0 := by
  intro τ ρ w lsC stC hG hl hs'
  have hG' := hg τ ρ w hG σ0 τ ρ w [] lsC stC ⟨hG, List.prefix_rfl, List.prefix_rfl, ⟨fun _ _ h => h, fun a _ _ h => ⟨h, rfl⟩, fun _ _ _ _ _ => rfl, Nat.le_refl _, rfl, Nat.le_refl _⟩,
    fun o b a e1 e2 => Or.inr ⟨o, b, e1, e2⟩, fun o a e1 e2 => (by
      have := (List.getElem?_eq_some_iff.mp e1).1
      exact absurd this (Nat.not_lt.mpr e2)), (by show (w.2.1 : Int) ≤ (w.2.1 : Int) + am_cs σ0 (0, 0); unfold am_cs; dsimp only; omega), (by show (w.2.2.1 : Int) ≤ (w.2.2.1 : Int) + am_cs σ0 (0, 0); unfold am_cs; dsimp only; omega)⟩ trivial hl hs'
  obtain ⟨r, hr, hP⟩ := hG'
  refine ⟨r, ?_, hP⟩
  cases hx : am_run e.1.1 e.1.2 lsC stC w with
  | none => rw [hx] at hr; cases hr
  | some y =>
    rw [hx] at hr
    have : some y = some r := hr
    rw [Option.some.inj this]
theorem am_one_ok {n : Nat} {hs : List am_Hn} (h1 : am_one T e n hs = true) (H : ∀ (j : Nat) (u : am_Et), T j = some u → ∀ σu, am_bel e σ0 u σu → am_OkAt u σu) : am_OkAt e σ0 := by
  unfold am_one at h1
  rw [Bool.and_eq_true] at h1
  exact am_good_at fun τ ρ w hG => am_ck_ok h1.1 hG H h1.2 _ (List.mem_singleton.mpr rfl)
/-! one entry in pieces: the first acts, and what remains piece by piece -/
def am_pre (T : Nat → Option am_Et) (e : am_Et) : List am_Hn → List am_It → Option (List am_It)
  | [], its => some its
  | _ :: _, [] => none
  | hn :: hs, it :: t => match am_seg hn.1 it with
    | none => none
    | some it' => match am_act T e hn it' with
      | none => none
      | some l => am_pre T e hs (l ++ t)
theorem am_pre_ok (hv : am_vmu e = true) (hG0 : am_GS σ0 τ0 ρ0 (e.2.1, e.2.2.1, [], (0, 0), (0, 0)) w0) (H : ∀ (j : Nat) (u : am_Et), T j = some u → ∀ σu, am_bel e σ0 u σu → am_OkAt u σu) : ∀ {hs : List am_Hn} {its its' : List am_It}, am_pre T e hs its = some its' → (∀ it ∈ its', am_Good e σ0 τ0 ρ0 w0 it) → ∀ it ∈ its, am_Good e σ0 τ0 ρ0 w0 it := by
  intro hs
  induction hs with
  | nil => intro its its' h1 h2; cases h1; exact h2
  | cons hn hs ih =>
    intro its its' h1 h2 it hit
    cases its with
    | nil => cases hit
    | cons i0 t =>
      unfold am_pre at h1
      (try dsimp only at h1)
      split at h1
      · cases h1
      · rename_i it' hseg
        split at h1
        · cases h1
        · rename_i l hact
          have hall := ih h1 h2
          rcases List.mem_cons.mp hit with rfl | hit
          · exact am_seg_ok hseg (am_act_ok hv hG0 H hact fun x hx => hall x (List.mem_append_left _ hx))
          · exact hall it (List.mem_append_right _ hit)
def am_grp (T : Nat → Option am_Et) (e : am_Et) (hp : List am_Hn) (a b n : Nat) (hs : List am_Hn) : Bool := match am_pre T e hp [am_st0 e] with
  | some its => am_ck T e n hs ((its.drop a).take b)
  | none => false
def am_cov (T : Nat → Option am_Et) (e : am_Et) (hp : List am_Hn) (c : List (Nat × Nat)) : Bool := am_vmu e && (match am_pre T e hp [am_st0 e] with
  | some its => (List.range its.length).all fun k => c.any fun p => Nat.ble p.1 k && Nat.blt k (p.1 + p.2)
  | none => false)
theorem am_grp_ok {hp : List am_Hn} {c : List (Nat × Nat)} (h1 : am_cov T e hp c = true) (h2 : ∀ p ∈ c, ∃ n hs, am_grp T e hp p.1 p.2 n hs = true) (H : ∀ (j : Nat) (u : am_Et), T j = some u → ∀ σu, am_bel e σ0 u σu → am_OkAt u σu) : am_OkAt e σ0 := by
  unfold am_cov at h1
  rw [Bool.and_eq_true] at h1
  obtain ⟨hv, h1⟩ := h1
  refine am_good_at fun τ ρ w hG => ?_
  split at h1
  · rename_i its hits
    refine am_pre_ok hv hG H hits (fun it hit => ?_) _ (List.mem_singleton.mpr rfl)
    obtain ⟨k, hk, hkk⟩ := List.mem_iff_getElem.mp hit
    have h3 := List.all_eq_true.mp h1 k (List.mem_range.mpr hk)
    obtain ⟨p, hp1, hp2⟩ := List.any_eq_true.mp h3
    rw [Bool.and_eq_true] at hp2
    have g1 := Nat.le_of_ble_eq_true hp2.1
    have g2 := Nat.blt_eq.mp hp2.2
    obtain ⟨n, hs, hg⟩ := h2 p hp1
    unfold am_grp at hg
    rw [hits] at hg
    dsimp only at hg
    refine am_ck_ok hv hG H hg it ?_
    refine List.mem_iff_getElem?.mpr ⟨k - p.1, ?_⟩
    rw [List.getElem?_take, if_pos (by omega), List.getElem?_drop, show p.1 + (k - p.1) = k by omega, List.getElem?_eq_getElem hk, hkk]
  · cases h1
/-- the measure of an entry lies below am_big -/
theorem am_muv_le (hv : am_vmu e = true) (hE : am_EB e.2.1 σ0) (i : Nat) : am_muv σ0 e.2.2.2.2.2.1 i ≤ am_big := by
  have h2 := am_muS_ok hv hE List.prefix_rfl i
  unfold am_muS at h2
  unfold am_muv at h2 ⊢
  cases hc : e.2.2.2.2.2.1[i]? with
  | none => dsimp only; decide
  | some c =>
    rw [hc] at h2
    dsimp only at h2 ⊢
    have h1 := List.all_eq_true.mp hv c (List.mem_of_getElem? hc)
    rw [Bool.and_eq_true, am_le_ok] at h1
    have h3 := am_bd_ok hE h2
    omega
/-- all entries stand -/
def am_Step (T : Nat → Option am_Et) (u : am_Et) : Prop := am_vmu u = true ∧ ∀ σ, (∀ (j : Nat) (v : am_Et), T j = some v → ∀ σv, am_bel u σ v σv → am_OkAt v σv) → am_OkAt u σ
theorem am_Step_one {n : Nat} {hs : List am_Hn} (h1 : am_one T e n hs = true) : am_Step T e := ⟨by unfold am_one at h1; rw [Bool.and_eq_true] at h1; exact h1.1, fun _ H => am_one_ok h1 H⟩
theorem am_Step_grp {hp : List am_Hn} {c : List (Nat × Nat)} (h1 : am_cov T e hp c = true) (h2 : ∀ p ∈ c, ∃ n hs, am_grp T e hp p.1 p.2 n hs = true) : am_Step T e := ⟨by unfold am_cov at h1; rw [Bool.and_eq_true] at h1; exact h1.1, fun _ H => am_grp_ok h1 h2 H⟩
theorem am_all_ok (hT : ∀ (j : Nat) (u : am_Et), T j = some u → am_Step T u) : ∀ (j : Nat) (u : am_Et), T j = some u → ∀ σ, am_OkAt u σ := by
  have key : ∀ (g : Nat) (n0 n1 n2 : Nat) (j : Nat) (u : am_Et) (σ : List Int), T j = some u → u.2.2.2.2.2.2.1 = g → (am_big - am_muv σ u.2.2.2.2.2.1 0).toNat = n0 → (am_big - am_muv σ u.2.2.2.2.2.1 1).toNat = n1 → (am_big - am_muv σ u.2.2.2.2.2.1 2).toNat = n2 → am_OkAt u σ := by
    intro g
    induction g using Nat.strongRecOn with
    | ind g ihg =>
      intro n0
      induction n0 using Nat.strongRecOn with
      | ind n0 ih0 =>
        intro n1
        induction n1 using Nat.strongRecOn with
        | ind n1 ih1 =>
          intro n2
          induction n2 using Nat.strongRecOn with
          | ind n2 ih2 =>
            intro j u σ hj hgu h0 h1 h2
            refine (hT j u hj).2 σ fun j' u' hj' σu hb => ?_
            intro τ ρ w lsC stC hG hl hs'
            have hv' : am_vmu u' = true := (hT j' u' hj').1
            have b0 := am_muv_le hv' hG.1 0
            have b1 := am_muv_le hv' hG.1 1
            have b2 := am_muv_le hv' hG.1 2
            have fin : am_OkAt u' σu := by
              rcases hb with hb | ⟨hb, hlx⟩
              · exact ihg _ (by omega) _ _ _ j' u' σu hj' rfl rfl rfl rfl
              · rcases hlx with hlx | ⟨hx0, hlx⟩
                · exact ih0 _ (by omega) _ _ j' u' σu hj' (by omega) rfl rfl rfl
                · rcases hlx with hlx | ⟨hx1, hlx⟩
                  · exact ih1 _ (by omega) _ j' u' σu hj' (by omega) (by omega) rfl rfl
                  · exact ih2 _ (by omega) j' u' σu hj' (by omega) (by omega) (by omega) rfl
            exact fin τ ρ w lsC stC hG hl hs'
  intro j u hj σ
  exact key _ _ _ _ j u σ hj rfl rfl rfl rfl
end AMSD
