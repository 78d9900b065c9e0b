/-! TEMPLATES: what was proved of one state serves at another. Mine. -/
/-- what a run answers: the answer, new unknowns, objects, cells, slots -/
abbrev am_Po : Type := am_SR × am_Ev × am_Os × (Int × Int) × (Int × Int)
/-- an entry: method and place, unknowns, objects, locals, stack, measure, rank, what it answers -/
abbrev am_Et : Type := (Nat × Nat) × am_Ev × am_Os × am_SL × List am_SV × List am_I × Nat × List am_Po
def am_in2 (sg : List am_I) (t : am_I) : Option am_I := match t.1 with
  | none => some t
  | some i => match sg[i]? with
    | some q => some (q.1, q.2 + t.2)
    | none => none
def am_eqk (E : am_Ev) (q v : am_I) : Bool := am_qe q v || (match am_kn E q, am_kn E v with
  | some a, some b => am_ie a b
  | _, _ => false)
def am_mI (E : am_Ev) (sg : List am_I) (t v : am_I) : Bool := match am_in2 sg t with
  | some q => am_eqk E q v
  | none => false
def am_mV (h : am_Hp) (sg : List am_I) (tau : List Nat) (t v : am_SV) : Bool := match t with
  | .inl q => match v with
    | .inl z => am_mI h.1 sg q z
    | _ => false
  | .inr (.inl k) => (match v with
    | .inr (.inl j) => Nat.beq k j
    | _ => false) || (Nat.beq k 2 && am_rS v) || (Nat.beq k 3 && am_dS v)
  | .inr (.inr (.inl o)) => match v with
    | .inr (.inr (.inl p)) => match tau[o]? with
      | some p' => Nat.beq p' p
      | none => false
    | _ => false
  | .inr (.inr (.inr (.inl r))) => match am_ro1 h v with
    | some j => Nat.beq r j
    | none => false
  | .inr (.inr (.inr (.inr l))) => match v with
    | .inr (.inr (.inr (.inr m))) => m.all fun x => l.any fun y => decide (x = y)
    | _ => false
def am_mVs (h : am_Hp) (sg : List am_I) (tau : List Nat) : List am_SV → List am_SV → Bool
  | [], [] => true
  | t :: ts, v :: vs => am_mV h sg tau t v && am_mVs h sg tau ts vs
  | _, _ => false
def am_mLs (h : am_Hp) (sg : List am_I) (tau : List Nat) : am_SL → am_SL → Bool
  | [], [] => true
  | none :: ts, none :: vs => am_mLs h sg tau ts vs
  | some t :: ts, some v :: vs => am_mV h sg tau t v && am_mLs h sg tau ts vs
  | _, _ => false
def am_mC (h : am_Hp) (sg : List am_I) (tau : List Nat) (t v : am_Ct) : Bool := match t, v with
  | .inl a, .inl b => am_le a.1 b.1 && am_le b.2 a.2
  | .inr (.inl _), .inr (.inl _) => true
  | .inr (.inr (.inl l)), .inr (.inr (.inl m)) => am_mVs h sg tau l m
  | .inr (.inr (.inr r)), .inr (.inr (.inr j)) => Nat.beq r j
  | _, _ => false
def am_mO (h : am_Hp) (sg : List am_I) (tau : List Nat) (t x : (Bool × am_SO) ⊕ Nat) : Bool := match t, x with
  | .inl (f, .inl (c, ts)), .inl (g, .inl (c', vs)) => (!f || g) && Nat.beq c c' && am_mVs h sg tau ts vs
  | .inl (f, .inr (t, n, ct)), .inl (g, .inr (t', n', ct')) => (!f || g) && Nat.beq t t' && am_mI h.1 sg n n' && am_mC h sg tau ct ct'
  | .inr r, .inr j => Nat.beq r j
  | _, _ => false
def am_mOs (h : am_Hp) (sg : List am_I) (tau : List Nat) : am_Os → List Nat → Bool
  | [], [] => true
  | t :: ts, p :: ps => (match h.2.1[p]? with
    | some x => am_mO h sg tau t x
    | none => false) && am_mOs h sg tau ts ps
  | _, _ => false
def am_mE (E : am_Ev) : am_Ev → List am_I → Bool
  | [], [] => true
  | b :: bs, q :: qs => (match q.1 with
    | none => true
    | some i => Nat.blt i E.length) && am_le b.1 (am_bd E q).1 && am_le (am_bd E q).2 b.2 && am_mE E bs qs
  | _, _ => false
def am_nd : List Nat → Bool
  | [] => true
  | p :: ps => (ps.all fun q => !(Nat.beq p q)) && am_nd ps
def am_mat (h : am_Hp) (Et : am_Ev) (Ot : am_Os) (sg : List am_I) (tau : List Nat) : Bool := am_mE h.1 Et sg && am_nd tau && am_mOs h sg tau Ot tau
section AMMT
variable {σ σu : List Int} {τ τu : List Nat} {ρ : am_Rh} {h : am_Hp} {w : am_Wd} {sg : List am_I} {tau : List Nat}
/-- the template's unknowns by the caller's -/
def am_SGr (σ : List Int) (sg : List am_I) (σu : List Int) : Prop := sg.length = σu.length ∧ ∀ (i : Nat) (q : am_I), sg[i]? = some q → ∃ x, σu[i]? = some x ∧ am_ev σ q = some x
def am_TAr (τ : List Nat) (tau τu : List Nat) : Prop := tau.length = τu.length ∧ ∀ (i p : Nat), tau[i]? = some p → ∃ a, τu[i]? = some a ∧ τ[p]? = some a
theorem am_in2_ok (hs : am_SGr σ sg σu) {t q : am_I} (h1 : am_in2 sg t = some q) : am_ev σu t = am_ev σ q ∧ ∃ x, am_ev σ q = some x := by
  unfold am_in2 at h1
  split at h1
  · rename_i ht
    obtain rfl := Option.some.inj h1
    unfold am_ev
    rw [ht]
    exact ⟨rfl, _, rfl⟩
  · rename_i i ht
    split at h1
    · rename_i p hp
      obtain rfl := Option.some.inj h1
      obtain ⟨x, hx, he⟩ := hs.2 i p hp
      have e1 : am_ev σ (p.1, p.2 + t.2) = some (x + t.2) := am_ev_off he
      refine ⟨?_, _, e1⟩
      rw [e1]
      unfold am_ev
      rw [ht]
      dsimp only
      rw [hx]
      rfl
    · cases h1
theorem am_eqk_ok (hE : am_EB h.1 σ) {q v : am_I} {x y : Int} (hq : am_ev σ q = some x) (hv : am_ev σ v = some y) (h1 : am_eqk h.1 q v = true) : x = y := by
  unfold am_eqk at h1
  rw [Bool.or_eq_true] at h1
  rcases h1 with h1 | h1
  · have e := am_qe_ok h1
    subst e
    exact Option.some.inj (hq.symm.trans hv)
  · split at h1
    · rename_i a b ha hb
      have e1 := am_kn_ok hE hq ha
      have e2 := am_kn_ok hE hv hb
      have e3 := am_ie_ok.mp h1
      omega
    · cases h1
theorem am_mI_ok (hs : am_SGr σ sg σu) (hE : am_EB h.1 σ) {t v : am_I} {x : Int} (hv : am_ev σ v = some x) (h1 : am_mI h.1 sg t v = true) : am_ev σu t = some x := by
  unfold am_mI at h1
  split at h1
  · rename_i q hq
    obtain ⟨e1, y, e2⟩ := am_in2_ok hs hq
    rw [e1, e2, am_eqk_ok hE e2 hv h1]
  · cases h1
theorem am_mV_ok {K : am_K0} (hI : am_IV K σ τ ρ h w) (hs : am_SGr σ sg σu) (ht : am_TAr τ tau τu) {t v : am_SV} {x : Value} (hv : am_VV σ τ ρ v x) (h1 : am_mV h sg tau t v = true) : am_VV σu τu ρ t x := by
  unfold am_mV at h1
  split at h1
  · rename_i q
    split at h1
    · rename_i z
      obtain ⟨i, rfl, hi⟩ := hv
      exact ⟨i, rfl, am_mI_ok hs hI.EB hi h1⟩
    · cases h1
  · rename_i k
    rw [Bool.or_eq_true, Bool.or_eq_true, Bool.and_eq_true, Bool.and_eq_true] at h1
    rcases h1 with (h1 | ⟨h1, h2⟩) | ⟨h1, h2⟩
    · split at h1
      · rename_i j
        have hk := Nat.eq_of_beq_eq_true h1
        subst hk
        exact hv
      · cases h1
    · have hk := Nat.eq_of_beq_eq_true h1
      subst hk
      exact am_rS_ok hv h2
    · have hk := Nat.eq_of_beq_eq_true h1
      subst hk
      exact am_dS_ok hv h2
  · rename_i o
    split at h1
    · rename_i p
      obtain ⟨a, ha, rfl⟩ := hv
      split at h1
      · rename_i p' hp
        have hk := Nat.eq_of_beq_eq_true h1
        subst hk
        obtain ⟨b, hb1, hb2⟩ := ht.2 o p' hp
        have e : b = a := Option.some.inj (hb2.symm.trans ha)
        subst e
        exact ⟨b, hb1, rfl⟩
      · cases h1
    · cases h1
  · rename_i r
    split at h1
    · rename_i j hj
      have hk := Nat.eq_of_beq_eq_true h1
      subst hk
      obtain ⟨a, hx, ha⟩ := am_ro1_ok hI hv hj
      exact ⟨a, ha, hx⟩
    · cases h1
  · rename_i l
    split at h1
    · rename_i m
      obtain ⟨d, hd, rfl⟩ := hv
      obtain ⟨y, hy, he⟩ := List.any_eq_true.mp (List.all_eq_true.mp h1 d hd)
      have he := of_decide_eq_true he
      subst he
      exact ⟨d, hy, rfl⟩
    · cases h1
theorem am_mVs_ok {K : am_K0} (hI : am_IV K σ τ ρ h w) (hs : am_SGr σ sg σu) (ht : am_TAr τ tau τu) : ∀ {ts vs : List am_SV} {xs : List Value}, am_VS σ τ ρ vs xs → am_mVs h sg tau ts vs = true → am_VS σu τu ρ ts xs
  | [], [], [], _, _ => trivial
  | t :: ts, v :: vs, x :: xs, hv, h1 => by
    rw [am_mVs, Bool.and_eq_true] at h1
    exact ⟨am_mV_ok hI hs ht hv.1 h1.1, am_mVs_ok hI hs ht hv.2 h1.2⟩
  | [], _ :: _, _, _, h1 => (by cases h1)
  | _ :: _, [], _, _, h1 => (by cases h1)
  | _, [], _ :: _, hv, _ => hv.elim
  | _, _ :: _, [], hv, _ => hv.elim
theorem am_mLs_ok {K : am_K0} (hI : am_IV K σ τ ρ h w) (hs : am_SGr σ sg σu) (ht : am_TAr τ tau τu) : ∀ {ts vs : am_SL} {xs : am_Lc}, am_LS σ τ ρ vs xs → am_mLs h sg tau ts vs = true → am_LS σu τu ρ ts xs
  | [], [], [], _, _ => trivial
  | none :: ts, none :: vs, none :: xs, hv, h1 => am_mLs_ok hI hs ht (ts := ts) (vs := vs) (xs := xs) hv h1
  | some t :: ts, some v :: vs, some x :: xs, hv, h1 => by
    rw [am_mLs, Bool.and_eq_true] at h1
    exact ⟨am_mV_ok hI hs ht hv.1 h1.1, am_mLs_ok hI hs ht hv.2 h1.2⟩
  | [], _ :: _, _, _, h1 => (by cases h1)
  | none :: _, [], _, _, h1 => (by cases h1)
  | some _ :: _, [], _, _, h1 => (by cases h1)
  | none :: _, some _ :: _, _, _, h1 => (by cases h1)
  | some _ :: _, none :: _, _, _, h1 => (by cases h1)
  | _, none :: _, some _ :: _, hv, _ => hv.elim
  | _, some _ :: _, none :: _, hv, _ => hv.elim
  | _, [], _ :: _, hv, _ => hv.elim
  | _, none :: _, [], hv, _ => hv.elim
  | _, some _ :: _, [], hv, _ => hv.elim
theorem am_mVs_at : ∀ {ts vs : List am_SV}, am_mVs h sg tau ts vs = true → ts.length = vs.length ∧ ∀ (i : Nat) (t : am_SV), ts[i]? = some t → ∃ v, vs[i]? = some v ∧ am_mV h sg tau t v = true
  | [], [], _ => ⟨rfl, fun i t e => by simp at e⟩
  | t :: ts, v :: vs, h1 => by
    rw [am_mVs, Bool.and_eq_true] at h1
    obtain ⟨k1, k2⟩ := am_mVs_at h1.2
    refine ⟨congrArg (· + 1) k1, fun i u e => ?_⟩
    cases i with
    | zero => cases e; exact ⟨v, rfl, h1.1⟩
    | succ i => exact k2 i u (by simpa using e)
  | [], _ :: _, h1 => (by cases h1)
  | _ :: _, [], h1 => (by cases h1)
theorem am_mC_ok {K : am_K0} (hI : am_IV K σ τ ρ h w) (hs : am_SGr σ sg σu) (ht : am_TAr τ tau τu) {k : Nat} {t ct : am_Ct} {A : am_Cn} (hA : am_CT σ τ ρ k ct A) (h1 : am_mC h sg tau t ct = true) : am_CT σu τu ρ k t A := by
  unfold am_mC at h1
  split at h1
  · rename_i a b
    obtain ⟨f, rfl, hf⟩ := hA
    rw [Bool.and_eq_true, am_le_ok, am_le_ok] at h1
    exact ⟨f, rfl, fun i hi => (by have := hf i hi; omega)⟩
  · exact hA
  · rename_i l m
    obtain ⟨f, rfl, hl, hf⟩ := hA
    obtain ⟨k1, k2⟩ := am_mVs_at h1
    refine ⟨f, rfl, k1.trans hl, fun i t e => ?_⟩
    obtain ⟨v, hv, hm⟩ := k2 i t e
    exact am_mV_ok hI hs ht (hf i v hv) hm
  · rename_i r j
    have hk := Nat.eq_of_beq_eq_true h1
    subst hk
    exact hA
  · cases h1
theorem am_mO_ok {K : am_K0} (hI : am_IV K σ τ ρ h w) (hs : am_SGr σ sg σu) (ht : am_TAr τ tau τu) {t x : (Bool × am_SO) ⊕ Nat} (h1 : am_mO h sg tau t x = true) :
    (∀ b, t = .inl b → ∃ c, x = .inl c ∧ (b.1 = true → c.1 = true) ∧ ∀ e, am_OV σ τ ρ c.2 e → am_OV σu τu ρ b.2 e) ∧ ∀ r, t = .inr r → x = .inr r := by
  unfold am_mO at h1
  split at h1
  · rename_i f c ts g c' vs
    rw [Bool.and_eq_true, Bool.and_eq_true] at h1
    obtain ⟨⟨c1, c2⟩, c3⟩ := h1
    have hk := Nat.eq_of_beq_eq_true c2
    subst hk
    refine ⟨fun b hb => ?_, fun r hr => (by cases hr)⟩
    cases hb
    refine ⟨_, rfl, fun hf => ?_, fun e he => ?_⟩
    · dsimp only at hf; subst hf; simpa using c1
    · obtain ⟨xs, rfl, hx⟩ := he
      exact ⟨xs, rfl, am_mVs_ok hI hs ht hx c3⟩
  · rename_i f t n ct g t' n' ct'
    simp only [Bool.and_eq_true] at h1
    obtain ⟨⟨⟨c1, c2⟩, c3⟩, c4⟩ := h1
    have hk := Nat.eq_of_beq_eq_true c2
    subst hk
    refine ⟨fun b hb => ?_, fun r hr => (by cases hr)⟩
    cases hb
    refine ⟨_, rfl, fun hf => ?_, fun e he => ?_⟩
    · dsimp only at hf; subst hf; simpa using c1
    · obtain ⟨k, A, rfl, hk, hA⟩ := he
      exact ⟨k, A, rfl, am_mI_ok hs hI.EB hk c3, am_mC_ok hI hs ht hA c4⟩
  · rename_i r j
    have hk := Nat.eq_of_beq_eq_true h1
    subst hk
    exact ⟨fun b hb => (by cases hb), fun r' hr => (by cases hr; rfl)⟩
  · cases h1
theorem am_mOs_ok : ∀ {Ot : am_Os} {ps : List Nat}, am_mOs h sg tau Ot ps = true → Ot.length = ps.length ∧ ∀ (o : Nat) (t : (Bool × am_SO) ⊕ Nat), Ot[o]? = some t → ∃ p x, ps[o]? = some p ∧ h.2.1[p]? = some x ∧ am_mO h sg tau t x = true
  | [], [], _ => ⟨rfl, fun o t e => by simp at e⟩
  | t :: ts, p :: ps, h1 => by
    rw [am_mOs, Bool.and_eq_true] at h1
    obtain ⟨k1, k2⟩ := am_mOs_ok h1.2
    refine ⟨congrArg (· + 1) k1, fun o u e => ?_⟩
    cases o with
    | zero =>
      cases e
      have h2 := h1.1
      split at h2
      · rename_i x hx; exact ⟨p, x, rfl, hx, h2⟩
      · cases h2
    | succ o => exact k2 o u (by simpa using e)
  | [], _ :: _, h1 => (by cases h1)
  | _ :: _, [], h1 => (by cases h1)
theorem am_mE_ok {E : am_Ev} (hE : am_EB E σ) : ∀ {Et : am_Ev} {sg : List am_I}, am_mE E Et sg = true → ∃ σu, am_SGr σ sg σu ∧ am_EB Et σu
  | [], [], _ => ⟨[], ⟨rfl, fun i q e => by simp at e⟩, rfl, fun i b x e => by simp at e⟩
  | b :: bs, q :: qs, h1 => by
    rw [am_mE, Bool.and_eq_true, Bool.and_eq_true, Bool.and_eq_true, am_le_ok, am_le_ok] at h1
    obtain ⟨⟨⟨c1, c2⟩, c3⟩, c4⟩ := h1
    obtain ⟨σu, ⟨k1, k2⟩, m1, m2⟩ := am_mE_ok hE c4
    have hx : ∃ x, am_ev σ q = some x := by
      unfold am_ev
      split at c1
      · rename_i hq; rw [hq]; exact ⟨_, rfl⟩
      · rename_i i hq
        rw [hq]
        have hi : i < σ.length := by rw [← hE.1]; exact Nat.blt_eq.mp c1
        refine ⟨σ[i] + q.2, ?_⟩
        show Option.map _ _ = _
        rw [List.getElem?_eq_getElem hi]
        rfl
    obtain ⟨x, hx⟩ := hx
    have hb := am_bd_ok hE hx
    refine ⟨x :: σu, ⟨congrArg (· + 1) k1, fun i p e => ?_⟩, congrArg (· + 1) m1, fun i c y e1 e2 => ?_⟩
    · cases i with
      | zero => cases e; exact ⟨x, rfl, hx⟩
      | succ i => exact k2 i p (by simpa using e)
    · cases i with
      | zero => cases e1; cases e2; omega
      | succ i => exact m2 i c y (by simpa using e1) (by simpa using e2)
  | [], _ :: _, h1 => (by cases h1)
  | _ :: _, [], h1 => (by cases h1)
theorem am_nd_ok : ∀ {l : List Nat}, am_nd l = true → l.Nodup
  | [], _ => List.nodup_nil
  | p :: ps, h1 => by
    rw [am_nd, Bool.and_eq_true] at h1
    refine List.nodup_cons.mpr ⟨fun hm => ?_, am_nd_ok h1.2⟩
    have h2 := List.all_eq_true.mp h1.1 p hm
    rw [Nat.beq_refl] at h2
    cases h2
theorem am_tau_ok : ∀ {tau : List Nat}, (∀ p ∈ tau, ∃ a, τ[p]? = some a) → ∃ τu, am_TAr τ tau τu
  | [], _ => ⟨[], rfl, fun i p e => by simp at e⟩
  | p :: ps, h1 => by
    obtain ⟨τu, k1, k2⟩ := am_tau_ok (tau := ps) fun q hq => h1 q (List.mem_cons_of_mem _ hq)
    obtain ⟨a, ha⟩ := h1 p List.mem_cons_self
    refine ⟨a :: τu, congrArg (· + 1) k1, fun i q e => ?_⟩
    cases i with
    | zero => cases e; exact ⟨a, rfl, ha⟩
    | succ i => exact k2 i q (by simpa using e)
/-- the template stands -/
theorem am_mat_ok {K : am_K0} (hI : am_IV K σ τ ρ h w) {Et : am_Ev} {Ot : am_Os} (h1 : am_mat h Et Ot sg tau = true) (c : (Int × Int) × (Int × Int)) : ∃ σu τu, am_SGr σ sg σu ∧ am_TAr τ tau τu ∧ am_GS σu τu ρ (Et, Ot, [], c) w := by
  unfold am_mat at h1
  rw [Bool.and_eq_true, Bool.and_eq_true] at h1
  obtain ⟨⟨c1, c2⟩, c3⟩ := h1
  obtain ⟨σu, hs, hE⟩ := am_mE_ok hI.EB c1
  obtain ⟨k1, k2⟩ := am_mOs_ok c3
  have hall : ∀ p ∈ tau, ∃ a, τ[p]? = some a := by
    intro p hp
    obtain ⟨o, ho⟩ := List.getElem?_of_mem hp
    have hl : o < Ot.length := by rw [k1]; exact (List.getElem?_eq_some_iff.mp ho).1
    obtain ⟨p', x, e1, e2, -⟩ := k2 o _ (List.getElem?_eq_getElem hl)
    have e3 : p' = p := Option.some.inj (e1.symm.trans ho)
    subst e3
    exact hI.at e2
  obtain ⟨τu, ht⟩ := am_tau_ok hall
  have hnd : τu.Nodup := by
    rw [List.nodup_iff_pairwise_ne, List.pairwise_iff_getElem]
    intro i j hi hj hij e
    have hi' : i < tau.length := by rw [ht.1]; exact hi
    have hj' : j < tau.length := by rw [ht.1]; exact hj
    obtain ⟨a, a1, a2⟩ := ht.2 i _ (List.getElem?_eq_getElem hi')
    obtain ⟨b, b1, b2⟩ := ht.2 j _ (List.getElem?_eq_getElem hj')
    rw [List.getElem?_eq_getElem hi] at a1
    rw [List.getElem?_eq_getElem hj] at b1
    have e1 : a = b := by rw [← Option.some.inj a1, ← Option.some.inj b1]; exact e
    subst e1
    have e2 := hI.inj a2 b2
    have h3 := List.pairwise_iff_getElem.mp (am_nd_ok c2) i j hi' hj' hij
    exact h3 e2
  refine ⟨σu, τu, hs, ht, hE, ⟨k1.trans ht.1, hnd, fun o b a e1 e2 => ?_, fun o r a e1 e2 => ?_⟩, fun z hz => (by cases hz), hI.1.2.2.2⟩
  · obtain ⟨p, x, e3, e4, hm⟩ := k2 o _ e1
    obtain ⟨y, rfl, -, hy⟩ := (am_mO_ok hI hs ht hm).1 b rfl
    obtain ⟨a', a1, a2⟩ := ht.2 o p e3
    have e5 : a' = a := Option.some.inj (a1.symm.trans e2)
    subst e5
    obtain ⟨m1, e, m2, m3⟩ := hI.ob e4 a2
    exact ⟨m1, e, m2, hy e m3⟩
  · obtain ⟨p, x, e3, e4, hm⟩ := k2 o _ e1
    have e6 := (am_mO_ok hI hs ht hm).2 r rfl
    subst e6
    obtain ⟨a', a1, a2⟩ := ht.2 o p e3
    have e5 : a' = a := Option.some.inj (a1.symm.trans e2)
    subst e5
    exact hI.rl e4 a2
end AMMT
