/-! ONE INSTRUCTION ON SYMBOLS IS RIGHT. Mine (laid by wip/gen/abprf.py). -/
def am_RA (K : am_K0) (w : am_Wd) (σ : List Int) (τ : List Nat) (ρ : am_Rh) (a : am_Ac) (x : am_Act) : Prop := match a, x with
  | .inl (pc, ls, st, h), .inl (pc', lsC, stC, w') => pc' = pc ∧ am_IV K σ τ ρ h w' ∧ am_LS σ τ ρ ls lsC ∧ am_VS σ τ ρ st stC ∧ am_ge w w'
  | .inr (.inl (m, as, pc, rest, h)), .inr (.inl (m', asC, pc', restC)) => m' = m ∧ pc' = pc ∧ am_IV K σ τ ρ h w ∧ am_VS σ τ ρ as asC ∧ am_VS σ τ ρ rest restC
  | .inr (.inr (o, h)), .inr (.inr (o', w')) => am_IV K σ τ ρ h w' ∧ am_OS σ τ ρ o o' ∧ am_ge w w'
  | _, _ => False
def am_TT (K : am_K0) (σ : List Int) (τ : List Nat) (ρ : am_Rh) (w : am_Wd) (acts : List am_Ac) (xo : Option am_Act) : Prop :=
  ∃ a ∈ acts, ∃ x σ' τ' ρ', xo = some x ∧ am_mo σ σ' τ τ' ρ ρ' ∧ am_RA K w σ' τ' ρ' a x
section AMON
variable {K : am_K0} {σ σ' : List Int} {τ τ' : List Nat} {ρ ρ' : am_Rh} {h h' : am_Hp} {w w' : am_Wd} {rl pc : Nat} {an : List Nat} {ls : am_SL} {lsC : am_Lc} {st : List am_SV} {stC : List Value} {acts : List am_Ac}
theorem am_VS_c {v : am_SV} {t : List am_SV} : ∀ {s : List Value}, am_VS σ τ ρ (v :: t) s → ∃ x u, s = x :: u ∧ am_VV σ τ ρ v x ∧ am_VS σ τ ρ t u
  | [], e => e.elim
  | x :: u, e => ⟨x, u, rfl, e.1, e.2⟩
theorem am_VS_n : ∀ {s : List Value}, am_VS σ τ ρ [] s → s = []
  | [], _ => rfl
  | _ :: _, e => e.elim
theorem am_VS_app : ∀ {a b : List am_SV} {x y : List Value}, am_VS σ τ ρ a x → am_VS σ τ ρ b y → am_VS σ τ ρ (a ++ b) (x ++ y)
  | [], _, [], _, _, k => k
  | _ :: _, _, _ :: _, _, e, k => ⟨e.1, am_VS_app e.2 k⟩
  | [], _, _ :: _, _, e, _ => e.elim
  | _ :: _, _, [], _, e, _ => e.elim
theorem am_VS_rev : ∀ {a : List am_SV} {x : List Value}, am_VS σ τ ρ a x → am_VS σ τ ρ a.reverse x.reverse
  | [], [], _ => trivial
  | v :: a, y :: x, e => by
    rw [List.reverse_cons, List.reverse_cons]
    exact am_VS_app (am_VS_rev e.2) ⟨e.1, trivial⟩
  | [], _ :: _, e => e.elim
  | _ :: _, [], e => e.elim
theorem am_VS_take : ∀ {n : Nat} {a : List am_SV} {x : List Value}, am_VS σ τ ρ a x → am_VS σ τ ρ (a.take n) (x.take n)
  | 0, _, _, _ => (by simp; trivial)
  | n + 1, [], [], _ => trivial
  | n + 1, _ :: _, _ :: _, e => ⟨e.1, am_VS_take e.2⟩
  | _ + 1, [], _ :: _, e => e.elim
  | _ + 1, _ :: _, [], e => e.elim
theorem am_VS_drop : ∀ {n : Nat} {a : List am_SV} {x : List Value}, am_VS σ τ ρ a x → am_VS σ τ ρ (a.drop n) (x.drop n)
  | 0, _, _, e => e
  | n + 1, [], [], _ => trivial
  | n + 1, _ :: _, _ :: _, e => am_VS_drop (n := n) e.2
  | _ + 1, [], _ :: _, e => e.elim
  | _ + 1, _ :: _, [], e => e.elim
theorem am_sz_ok : ∀ {a : List am_SV} {x : List Value}, am_VS σ τ ρ a x → am_sz x = am_szS a
  | [], [], _ => rfl
  | v :: a, y :: x, e => by
    have ih := am_sz_ok e.2
    have hc := am_cS_ok e.1
    show y.category + am_sz x = (match am_cS v with | true => 2 | false => 1) + am_szS a
    rw [ih, ← hc]
    cases y <;> rfl
  | [], _ :: _, e => e.elim
  | _ :: _, [], e => e.elim
theorem am_sz8 {a : List am_SV} {x : List Value} (e : am_VS σ τ ρ a x) (k : Nat.ble (am_szS a) 8 = true) : am_sz x ≤ 8 := by
  rw [am_sz_ok e]
  exact Nat.ble_eq.mp k
theorem am_LS_len : ∀ {l : am_SL} {x : am_Lc}, am_LS σ τ ρ l x → l.length = x.length
  | [], [], _ => rfl
  | none :: t, none :: u, e => congrArg (· + 1) (am_LS_len (l := t) (x := u) e)
  | some _ :: _, some _ :: _, e => congrArg (· + 1) (am_LS_len e.2)
  | none :: _, some _ :: _, e => e.elim
  | some _ :: _, none :: _, e => e.elim
  | [], _ :: _, e => e.elim
  | none :: _, [], e => e.elim
  | some _ :: _, [], e => e.elim
def am_LO (σ : List Int) (τ : List Nat) (ρ : am_Rh) (a : Option (Option am_SV)) (b : Option (Option Value)) : Prop := match a, b with
  | none, none => True
  | some none, some none => True
  | some (some v), some (some x) => am_VV σ τ ρ v x
  | _, _ => False
theorem am_LS_at : ∀ {l : am_SL} {x : am_Lc} (k : Nat), am_LS σ τ ρ l x → am_LO σ τ ρ (l[k]?) (x[k]?)
  | [], [], _, _ => trivial
  | none :: t, none :: u, 0, _ => trivial
  | some _ :: _, some _ :: _, 0, e => e.1
  | none :: t, none :: u, k + 1, e => by
    rw [List.getElem?_cons_succ, List.getElem?_cons_succ]
    exact am_LS_at (l := t) (x := u) k e
  | some _ :: t, some _ :: u, k + 1, e => by
    rw [List.getElem?_cons_succ, List.getElem?_cons_succ]
    exact am_LS_at k e.2
  | none :: _, some _ :: _, _, e => e.elim
  | some _ :: _, none :: _, _, e => e.elim
  | [], _ :: _, _, e => e.elim
  | none :: _, [], _, e => e.elim
  | some _ :: _, [], _, e => e.elim
theorem am_LS_set {v : am_SV} {y : Value} (hv : am_VV σ τ ρ v y) : ∀ {l : am_SL} {x : am_Lc} (k : Nat), am_LS σ τ ρ l x → am_LS σ τ ρ (l.set k (some v)) (x.set k (some y))
  | [], [], _, _ => trivial
  | none :: t, none :: u, 0, e => ⟨hv, e⟩
  | some _ :: _, some _ :: _, 0, e => ⟨hv, e.2⟩
  | none :: t, none :: u, k + 1, e => am_LS_set hv (l := t) (x := u) k e
  | some _ :: _, some _ :: _, k + 1, e => ⟨e.1, am_LS_set hv k e.2⟩
  | none :: _, some _ :: _, _, e => e.elim
  | some _ :: _, none :: _, _, e => e.elim
  | [], _ :: _, _, e => e.elim
  | none :: _, [], _, e => e.elim
  | some _ :: _, [], _, e => e.elim
theorem am_LS_clr : ∀ {l : am_SL} {x : am_Lc} (k : Nat), am_LS σ τ ρ l x → am_LS σ τ ρ (l.set k none) (x.set k none)
  | [], [], _, _ => trivial
  | none :: t, none :: u, 0, e => e
  | some _ :: t, some _ :: u, 0, e => (show am_LS σ τ ρ (none :: t) (none :: u) from e.2)
  | none :: t, none :: u, k + 1, e => am_LS_clr (l := t) (x := u) k e
  | some _ :: _, some _ :: _, k + 1, e => ⟨e.1, am_LS_clr k e.2⟩
  | none :: _, some _ :: _, _, e => e.elim
  | some _ :: _, none :: _, _, e => e.elim
  | [], _ :: _, _, e => e.elim
  | none :: _, [], _, e => e.elim
  | some _ :: _, [], _, e => e.elim
theorem am_aS_ok (hl : am_LS σ τ ρ ls lsC) {k : Nat} {v : am_SV} (h1 : am_aS ls k = some v) : ∃ x, am_at lsC k = some x ∧ am_VV σ τ ρ v x := by
  have hk := am_LS_at k hl
  unfold am_aS at h1
  split at h1
  · rename_i u hu
    obtain rfl := Option.some.inj h1
    rw [hu] at hk
    cases hx : lsC[k]? with
    | none => rw [hx] at hk; exact hk.elim
    | some o =>
      cases o with
      | none => rw [hx] at hk; exact hk.elim
      | some x =>
        rw [hx] at hk
        refine ⟨x, ?_, hk⟩
        unfold am_at
        rw [hx]
  · cases h1
theorem am_c1_ok (hl : am_LS σ τ ρ ls lsC) {i : Nat} (h1 : am_c1S ls i = true) : am_c1 lsC i = true := by
  unfold am_c1S at h1
  unfold am_c1
  split at h1
  · rfl
  · rename_i j
    have hk := am_LS_at j hl
    dsimp only
    split
    · rename_i x hx
      rw [hx] at hk
      split at h1
      · rename_i v hv
        rw [hv] at hk
        rw [am_cS_ok hk]
        exact h1
      · rename_i hne
        cases hu : ls[j]? with
        | none => rw [hu] at hk; exact hk.elim
        | some o =>
          cases o with
          | none => rw [hu] at hk; exact hk.elim
          | some v => exact absurd hu (hne v)
    · rfl
theorem am_s1_ok (hl : am_LS σ τ ρ ls lsC) {i : Nat} {v : am_SV} {x : Value} (hv : am_VV σ τ ρ v x) {l : am_SL} (h1 : am_s1S ls i v = some l) : ∃ lC, am_s1 lsC i x = some lC ∧ am_LS σ τ ρ l lC := by
  unfold am_s1S at h1
  split at h1
  · rename_i hc
    rw [Bool.and_eq_true] at hc
    obtain rfl := Option.some.inj h1
    refine ⟨_, ?_, am_LS_set hv i hl⟩
    unfold am_s1
    have h2 := Nat.blt_eq.mp hc.1
    rw [if_pos ⟨by rw [← am_LS_len hl]; exact h2, am_c1_ok hl hc.2⟩]
  · cases h1
theorem am_s2_ok (hl : am_LS σ τ ρ ls lsC) {i : Nat} {v : am_SV} {x : Value} (hv : am_VV σ τ ρ v x) {l : am_SL} (h1 : am_s2S ls i v = some l) : ∃ lC, am_s2 lsC i x = some lC ∧ am_LS σ τ ρ l lC := by
  unfold am_s2S at h1
  split at h1
  · rename_i hc
    rw [Bool.and_eq_true] at hc
    obtain rfl := Option.some.inj h1
    refine ⟨_, ?_, am_LS_clr (i + 1) (am_LS_set hv i hl)⟩
    unfold am_s2
    have h2 := Nat.blt_eq.mp hc.1
    rw [if_pos ⟨by rw [← am_LS_len hl]; exact h2, am_c1_ok hl hc.2⟩]
  · cases h1
/-! ends of arms -/
theorem am_t0 (hm : am_mo σ σ' τ τ' ρ ρ') (hI : am_IV K σ' τ' ρ' h' w') (hl : am_LS σ' τ' ρ' ls lsC) (hs : am_VS σ' τ' ρ' st stC) (hg : am_ge w w') : am_TT K σ τ ρ w [.inl (pc, ls, st, h')] (some (.inl (pc, lsC, stC, w'))) :=
  ⟨_, List.mem_singleton.mpr rfl, _, σ', τ', ρ', rfl, hm, rfl, hI, hl, hs, hg⟩
theorem am_t1 (hI : am_IV K σ τ ρ h w) (hl : am_LS σ τ ρ ls lsC) (hs : am_VS σ τ ρ st stC) : am_TT K σ τ ρ w [.inl (pc, ls, st, h)] (some (.inl (pc, lsC, stC, w))) := am_t0 (am_mo_rf _ _ _) hI hl hs (am_ge_rf w)
theorem am_t3 {p : am_I × am_Hp} {x : Int32} (hN : am_Nw K σ τ ρ w p x.toInt) (hl : am_LS σ τ ρ ls lsC) (hs : am_VS σ τ ρ st stC) : am_TT K σ τ ρ w [.inl (pc, ls, .inl p.1 :: st, p.2)] (some (.inl (pc, lsC, .int x :: stC, w))) := by
  obtain ⟨σ', h1, h2, h3⟩ := hN
  have hm : am_mo σ σ' τ τ ρ ρ := ⟨h1, List.prefix_rfl, fun _ _ h => h⟩
  exact am_t0 hm h2 (am_LS_mo hm hl) ⟨⟨x, rfl, h3⟩, am_VS_mo hm hs⟩ (am_ge_rf w)
theorem am_t2 {p : am_SV × am_Hp} {y : Value} (hN : am_Nv K σ τ ρ w p y) (hl : am_LS σ τ ρ ls lsC) (hs : am_VS σ τ ρ st stC) : am_TT K σ τ ρ w [.inl (pc, ls, p.1 :: st, p.2)] (some (.inl (pc, lsC, y :: stC, w))) := by
  obtain ⟨σ', h1, h2, h3⟩ := hN
  have hm : am_mo σ σ' τ τ ρ ρ := ⟨h1, List.prefix_rfl, fun _ _ h => h⟩
  exact am_t0 hm h2 (am_LS_mo hm hl) ⟨h3, am_VS_mo hm hs⟩ (am_ge_rf w)
theorem am_ge_2 {w w' : am_Wd} (e : w'.2 = w.2) : am_ge w w' := by
  unfold am_ge
  rw [e]
  exact ⟨Nat.le_refl _, Nat.le_refl _⟩
theorem am_t4 (hI : am_IV K σ τ ρ h w) (hl : am_LS σ τ ρ ls lsC) (hs : am_VS σ τ ρ st stC) {k : Nat} (h1 : am_n4 pc ls st (am_sg k) h = some acts) : am_TT K σ τ ρ w acts (some (.inl (pc, lsC, va_rf (w.2.2.2 k) :: stC, w))) := by
  obtain ⟨v, hv, h1⟩ := Option.bind_eq_some_iff.mp h1
  obtain rfl := Option.some.inj h1
  exact am_t1 hI hl ⟨am_sg_ok hI hv, hs⟩
theorem am_fk_ok (hI : am_IV K σ τ ρ h w) (hl : am_LS σ τ ρ ls lsC) (hs : am_VS σ τ ρ st stC) {c : Jvm.ClassFile.Cond} {q r : am_I} {x y : Int32} (hq : am_ev σ q = some x.toInt) (hr : am_ev σ r = some y.toInt) {o : Int} (h1 : ((am_tg pc o).bind fun t => am_fk c h q r t (pc + 3) ls st) = some acts) :
    am_TT K σ τ ρ w acts (am_br (am_cd c x y) pc o lsC stC w) := by
  obtain ⟨t, ht, h1⟩ := Option.bind_eq_some_iff.mp h1
  unfold am_br
  rw [ht]
  unfold am_fk at h1
  split at h1
  · rename_i hc
    rw [am_cmp_ok hI.EB hq hr hc, if_pos rfl]
    obtain rfl := Option.some.inj h1
    exact am_t1 hI hl hs
  · rename_i hc
    rw [am_cmp_ok hI.EB hq hr hc, if_neg (by decide)]
    obtain rfl := Option.some.inj h1
    exact am_t1 hI hl hs
  · obtain rfl := Option.some.inj h1
    cases hc : am_cd c x y with
    | true =>
      rw [if_pos rfl]
      exact ⟨_, List.mem_cons_self, _, σ, τ, ρ, rfl, am_mo_rf _ _ _, rfl, am_rfc_ok hI hq hr hc, hl, hs, am_ge_rf w⟩
    | false =>
      rw [if_neg (by decide)]
      exact ⟨_, List.mem_cons_of_mem _ List.mem_cons_self, _, σ, τ, ρ, rfl, am_mo_rf _ _ _, rfl, am_rfc_ok hI hq hr (am_ncd_ok hc), hl, hs, am_ge_rf w⟩
theorem am_br_any {o : Int} {t : Nat} (ht : am_tg pc o = some t) (hI : am_IV K σ τ ρ h w) (hl : am_LS σ τ ρ ls lsC) (hs : am_VS σ τ ρ st stC) (b : Bool) : am_TT K σ τ ρ w [.inl (t, ls, st, h), .inl (pc + 3, ls, st, h)] (am_br b pc o lsC stC w) := by
  unfold am_br
  cases b with
  | true =>
    rw [if_pos rfl, ht]
    exact ⟨_, List.mem_cons_self, _, σ, τ, ρ, rfl, am_mo_rf _ _ _, rfl, hI, hl, hs, am_ge_rf w⟩
  | false =>
    rw [if_neg (by decide)]
    exact ⟨_, List.mem_cons_of_mem _ List.mem_cons_self, _, σ, τ, ρ, rfl, am_mo_rf _ _ _, rfl, hI, hl, hs, am_ge_rf w⟩
theorem am_swS_ok (hl : am_LS σ τ ρ ls lsC) (hs : am_VS σ τ ρ st stC) {q : am_I} {x : Int32} (hq : am_ev σ q = some x.toInt) {d : Int} : ∀ {L : List (Int × Int)} {h : am_Hp} {acts : List am_Ac}, am_IV K σ τ ρ h w → am_swS pc q d ls st h L = some acts →
    am_TT K σ τ ρ w acts ((am_tg pc (am_sw x d L)).bind fun t => am_nx t lsC stC w) := by
  intro L
  induction L with
  | nil =>
    intro h acts hI h1
    obtain ⟨t, ht, h1⟩ := Option.bind_eq_some_iff.mp h1
    show am_TT K σ τ ρ w acts ((am_tg pc d).bind _)
    rw [ht]
    obtain rfl := Option.some.inj h1
    exact am_t1 hI hl hs
  | cons z L ih =>
    intro h acts hI h1
    unfold am_swS at h1
    have hz : am_ev σ (none, z.1) = some z.1 := rfl
    split at h1
    · rename_i hc
      have e := (am_cq_ok hI.EB hq hz hc).mp rfl
      obtain ⟨t, ht, h1⟩ := Option.bind_eq_some_iff.mp h1
      show am_TT K σ τ ρ w acts ((am_tg pc (if x.toInt = z.1 then z.2 else am_sw x d L)).bind _)
      rw [if_pos e, ht]
      obtain rfl := Option.some.inj h1
      exact am_t1 hI hl hs
    · rename_i hc
      have e : ¬ x.toInt = z.1 := fun e => by have := (am_cq_ok hI.EB hq hz hc).mpr e; cases this
      show am_TT K σ τ ρ w acts ((am_tg pc (if x.toInt = z.1 then z.2 else am_sw x d L)).bind _)
      rw [if_neg e]
      exact ih hI h1
    · obtain ⟨a, ha, h1⟩ := Option.bind_eq_some_iff.mp h1
      obtain ⟨l, hl', h1⟩ := Option.bind_eq_some_iff.mp h1
      obtain rfl := Option.some.inj h1
      show am_TT K σ τ ρ w _ ((am_tg pc (if x.toInt = z.1 then z.2 else am_sw x d L)).bind _)
      by_cases e : x.toInt = z.1
      · rw [if_pos e, ha]
        exact ⟨_, List.mem_cons_self, _, σ, τ, ρ, rfl, am_mo_rf _ _ _, rfl, am_req_ok hI hq (by rw [e]; rfl), hl, hs, am_ge_rf w⟩
      · rw [if_neg e]
        obtain ⟨b, hb, rest⟩ := ih (am_rne_ok hI hq hz e) hl'
        exact ⟨b, List.mem_cons_of_mem _ hb, rest⟩
theorem am_clS_ok (hI : am_IV K σ τ ρ h w) (hs : am_VS σ τ ρ st stC) {len : Nat} (h1 : am_clS len pc an ls st h = some acts) :
    ∃ m' n ci t b r v, an = m' :: n :: ci :: t ∧ stC.drop n = .ref b :: r ∧ n ≤ stC.length ∧ am_sz r ≤ 8 ∧ am_kf w b ci = some () ∧ am_TT K σ τ ρ w acts (some (.inr (.inl (m', .ref b :: (stC.take n).reverse, pc + len, r)))) ∧ v = w := by
  unfold am_clS at h1
  split at h1
  · rename_i m' n ci t
    have hd := am_VS_drop (n := n) hs
    split at h1
    · rename_i v r hv
      rw [hv] at hd
      obtain ⟨x, u, hx, hvx, hu⟩ := am_VS_c hd
      split at h1
      · rename_i hc
        rw [Bool.and_eq_true] at hc
        obtain ⟨b, rfl, hk⟩ := am_kfS_ok hI hvx hc.2
        obtain rfl := Option.some.inj h1
        have hlen : n ≤ stC.length := by
          by_cases hz : n ≤ stC.length
          · exact hz
          · rw [List.drop_eq_nil_of_le (by omega)] at hx; cases hx
        exact ⟨m', n, ci, t, b, u, w, rfl, hx, hlen, am_sz8 hu hc.1, hk, ⟨_, List.mem_singleton.mpr rfl, _, σ, τ, ρ, rfl, am_mo_rf _ _ _, rfl, rfl, hI, ⟨hvx, am_VS_rev (am_VS_take hs)⟩, hu⟩, rfl⟩
      · cases h1
    · cases h1
  · cases h1
theorem am_tend (hI : am_IV K σ τ ρ h w) {o : am_SR} {o' : am_Out} (ho : am_OS σ τ ρ o o') : am_TT K σ τ ρ w [.inr (.inr (o, h))] (some (.inr (.inr (o', w)))) := ⟨_, List.mem_singleton.mpr rfl, _, σ, τ, ρ, rfl, am_mo_rf _ _ _, hI, ho, am_ge_rf w⟩
theorem am_shl0 (x : Int32) : x <<< ((0 : Int32) &&& 31) = x := by
  apply Int32.toBitVec_inj.mp
  simp
theorem am_shr0 (x : Int32) : x >>> ((0 : Int32) &&& 31) = x := by
  apply Int32.toBitVec_inj.mp
  simp
theorem am_q_virt {i a0 m' n ci : Nat} {t : List Nat} (h0 : a0 ≠ 1) : am_stp pc (.invokevirtual i) (a0 :: m' :: n :: ci :: t) lsC stC w = (match stC.drop n with
      | .ref b :: r => if n ≤ stC.length ∧ am_sz r ≤ 8 then (am_kf w b ci).bind fun _ => some (.inr (.inl (m', .ref b :: (stC.take n).reverse, pc + 3, r))) else none
      | _ => none) := by
  match a0, h0 with
  | 0, _ => rfl
  | 1, h => exact absurd rfl h
  | k + 2, _ => rfl
theorem am_q_spec2 {i m' n ci : Nat} {t : List Nat} : am_stp pc (.invokespecial i) (2 :: m' :: n :: ci :: t) lsC stC w = (match stC.drop n with
      | .ref b :: r => if n ≤ stC.length ∧ am_sz r ≤ 8 then (am_kf w b ci).bind fun _ => some (.inr (.inl (m', .ref b :: (stC.take n).reverse, pc + 3, r))) else none
      | _ => none) := rfl
theorem am_q_spec {i a0 m' n : Nat} {t : List Nat} (h0 : a0 ≠ 1) (h2 : a0 ≠ 2) : am_stp pc (.invokespecial i) (a0 :: m' :: n :: t) lsC stC w = (match stC.drop n with
      | .ref b :: r => if n ≤ stC.length ∧ am_sz r ≤ 8 then some (.inr (.inl (m', .ref b :: (stC.take n).reverse, pc + 3, r))) else none
      | _ => none) := by
  match a0, h0, h2 with
  | 0, _, _ => rfl
  | 1, h, _ => exact absurd rfl h
  | 2, _, h => exact absurd rfl h
  | k + 3, _, _ => rfl
theorem am_q_stat {i a0 m' n : Nat} {t : List Nat} (h1 : a0 ≠ 1) (h2 : a0 ≠ 2) (h3 : a0 ≠ 3) (h4 : a0 ≠ 4) : am_stp pc (.invokestatic i) (a0 :: m' :: n :: t) lsC stC w = (if n ≤ stC.length ∧ am_sz (stC.drop n) ≤ 8 then some (.inr (.inl (m', (stC.take n).reverse, pc + 3, stC.drop n))) else none) := by
  match a0, h1, h2, h3, h4 with
  | 0, _, _, _, _ => rfl
  | 1, h, _, _, _ => exact absurd rfl h
  | 2, _, h, _, _ => exact absurd rfl h
  | 3, _, _, h, _ => exact absurd rfl h
  | 4, _, _, _, h => exact absurd rfl h
  | k + 5, _, _, _, _ => rfl
theorem am_VS_len2 {a : List am_SV} {x : List Value} (e : am_VS σ τ ρ a x) : a.length = x.length := am_VS_len e
theorem am_p_iconst {n : _} (hI : am_IV K σ τ ρ h w) (hl : am_LS σ τ ρ ls lsC) (hs : am_VS σ τ ρ st stC) (h1 : am_ab rl pc (.iconst n) an ls st h = some acts) : am_TT K σ τ ρ w acts (am_stp pc (.iconst n) an lsC stC w) := by
  unfold am_ab at h1
  dsimp only at h1
  obtain rfl := Option.some.inj h1
  unfold am_stp; (try dsimp only)
  exact am_t1 hI hl ⟨⟨_, rfl, rfl⟩, hs⟩
theorem am_p_bipush {n : _} (hI : am_IV K σ τ ρ h w) (hl : am_LS σ τ ρ ls lsC) (hs : am_VS σ τ ρ st stC) (h1 : am_ab rl pc (.bipush n) an ls st h = some acts) : am_TT K σ τ ρ w acts (am_stp pc (.bipush n) an lsC stC w) := by
  unfold am_ab at h1
  dsimp only at h1
  obtain rfl := Option.some.inj h1
  unfold am_stp; (try dsimp only)
  exact am_t1 hI hl ⟨⟨_, rfl, rfl⟩, hs⟩
theorem am_p_sipush {n : _} (hI : am_IV K σ τ ρ h w) (hl : am_LS σ τ ρ ls lsC) (hs : am_VS σ τ ρ st stC) (h1 : am_ab rl pc (.sipush n) an ls st h = some acts) : am_TT K σ τ ρ w acts (am_stp pc (.sipush n) an lsC stC w) := by
  unfold am_ab at h1
  dsimp only at h1
  obtain rfl := Option.some.inj h1
  unfold am_stp; (try dsimp only)
  exact am_t1 hI hl ⟨⟨_, rfl, rfl⟩, hs⟩
theorem am_p_lconst {n : _} (hI : am_IV K σ τ ρ h w) (hl : am_LS σ τ ρ ls lsC) (hs : am_VS σ τ ρ st stC) (h1 : am_ab rl pc (.lconst n) an ls st h = some acts) : am_TT K σ τ ρ w acts (am_stp pc (.lconst n) an lsC stC w) := by
  unfold am_ab at h1
  dsimp only at h1
  obtain rfl := Option.some.inj h1
  unfold am_stp; (try dsimp only)
  exact am_t1 hI hl ⟨⟨_, rfl⟩, hs⟩
theorem am_p_dconst {n : _} (hI : am_IV K σ τ ρ h w) (hl : am_LS σ τ ρ ls lsC) (hs : am_VS σ τ ρ st stC) (h1 : am_ab rl pc (.dconst n) an ls st h = some acts) : am_TT K σ τ ρ w acts (am_stp pc (.dconst n) an lsC stC w) := by
  unfold am_ab at h1
  dsimp only at h1
  split at h1
  · rename_i hn
    obtain rfl := Option.some.inj h1
    unfold am_stp; dsimp only
    rw [if_pos hn]
    exact am_t1 hI hl ⟨⟨_, List.mem_singleton.mpr rfl, rfl⟩, hs⟩
  · cases h1
theorem am_p_aconst_null (hI : am_IV K σ τ ρ h w) (hl : am_LS σ τ ρ ls lsC) (hs : am_VS σ τ ρ st stC) (h1 : am_ab rl pc (.aconst_null) an ls st h = some acts) : am_TT K σ τ ρ w acts (am_stp pc (.aconst_null) an lsC stC w) := by
  unfold am_ab at h1
  dsimp only at h1
  obtain rfl := Option.some.inj h1
  unfold am_stp; (try dsimp only)
  exact am_t1 hI hl ⟨rfl, hs⟩
theorem am_p_ldc {i : _} (hI : am_IV K σ τ ρ h w) (hl : am_LS σ τ ρ ls lsC) (hs : am_VS σ τ ρ st stC) (h1 : am_ab rl pc (.ldc i) an ls st h = some acts) : am_TT K σ τ ρ w acts (am_stp pc (.ldc i) an lsC stC w) := by
  unfold am_ab at h1
  dsimp only at h1
  split at h1
  · obtain rfl := Option.some.inj h1
    unfold am_stp; dsimp only
    exact am_t1 hI hl ⟨⟨_, rfl, rfl⟩, hs⟩
  · unfold am_stp; dsimp only
    exact am_t4 hI hl hs h1
  · cases h1
theorem am_p_ldc_w {i : _} (hI : am_IV K σ τ ρ h w) (hl : am_LS σ τ ρ ls lsC) (hs : am_VS σ τ ρ st stC) (h1 : am_ab rl pc (.ldc_w i) an ls st h = some acts) : am_TT K σ τ ρ w acts (am_stp pc (.ldc_w i) an lsC stC w) := by
  unfold am_ab at h1
  dsimp only at h1
  split at h1
  · obtain rfl := Option.some.inj h1
    unfold am_stp; dsimp only
    exact am_t1 hI hl ⟨⟨_, rfl, rfl⟩, hs⟩
  · unfold am_stp; dsimp only
    exact am_t4 hI hl hs h1
  · cases h1
theorem am_p_getstatic {i : _} (hI : am_IV K σ τ ρ h w) (hl : am_LS σ τ ρ ls lsC) (hs : am_VS σ τ ρ st stC) (h1 : am_ab rl pc (.getstatic i) an ls st h = some acts) : am_TT K σ τ ρ w acts (am_stp pc (.getstatic i) an lsC stC w) := by
  unfold am_ab at h1
  dsimp only at h1
  split at h1
  · obtain rfl := Option.some.inj h1
    unfold am_stp; dsimp only
    exact am_t1 hI hl ⟨⟨_, rfl, rfl⟩, hs⟩
  · unfold am_stp; dsimp only
    exact am_t4 hI hl hs h1
  · cases h1
theorem am_p_ldc2_w {i : _} (hI : am_IV K σ τ ρ h w) (hl : am_LS σ τ ρ ls lsC) (hs : am_VS σ τ ρ st stC) (h1 : am_ab rl pc (.ldc2_w i) an ls st h = some acts) : am_TT K σ τ ρ w acts (am_stp pc (.ldc2_w i) an lsC stC w) := by
  unfold am_ab at h1
  dsimp only at h1
  split at h1
  · obtain rfl := Option.some.inj h1
    unfold am_stp; dsimp only
    exact am_t1 hI hl ⟨⟨_, rfl⟩, hs⟩
  · obtain rfl := Option.some.inj h1
    unfold am_stp; dsimp only
    exact am_t1 hI hl ⟨⟨_, List.mem_singleton.mpr rfl, rfl⟩, hs⟩
  · cases h1
theorem am_p_iload {k : _} (hI : am_IV K σ τ ρ h w) (hl : am_LS σ τ ρ ls lsC) (hs : am_VS σ τ ρ st stC) (h1 : am_ab rl pc (.iload k) an ls st h = some acts) : am_TT K σ τ ρ w acts (am_stp pc (.iload k) an lsC stC w) := by
  unfold am_ab at h1
  dsimp only at h1
  split at h1
  · rename_i v hv
    split at h1
    · rename_i hc
      obtain ⟨x, hx, hvx⟩ := am_aS_ok hl hv
      obtain rfl := Option.some.inj h1
      unfold am_stp; dsimp only
      rw [hx]
      obtain ⟨j, rfl⟩ := am_isI_ok hvx hc
      exact am_t1 hI hl ⟨hvx, hs⟩
    · cases h1
  · cases h1
theorem am_p_istore {k : _} (hI : am_IV K σ τ ρ h w) (hl : am_LS σ τ ρ ls lsC) (hs : am_VS σ τ ρ st stC) (h1 : am_ab rl pc (.istore k) an ls st h = some acts) : am_TT K σ τ ρ w acts (am_stp pc (.istore k) an lsC stC w) := by
  unfold am_ab at h1
  dsimp only at h1
  split at h1
  · rename_i v r
    have hq0 := am_VS_c hs
    clear hs
    obtain ⟨x, u, rfl, hvx, hu⟩ := hq0
    split at h1
    · rename_i hc
      obtain ⟨l, hl', h1⟩ := Option.bind_eq_some_iff.mp h1
      obtain rfl := Option.some.inj h1
      obtain ⟨j, rfl⟩ := am_isI_ok hvx hc
      obtain ⟨lC, e1, e2⟩ := am_s1_ok hl hvx hl'
      unfold am_stp; dsimp only
      rw [e1]
      exact am_t1 hI e2 hu
    · cases h1
  · cases h1
theorem am_p_iload_n {k : _} (hI : am_IV K σ τ ρ h w) (hl : am_LS σ τ ρ ls lsC) (hs : am_VS σ τ ρ st stC) (h1 : am_ab rl pc (.iload_n k) an ls st h = some acts) : am_TT K σ τ ρ w acts (am_stp pc (.iload_n k) an lsC stC w) := by
  unfold am_ab at h1
  dsimp only at h1
  split at h1
  · rename_i v hv
    split at h1
    · rename_i hc
      obtain ⟨x, hx, hvx⟩ := am_aS_ok hl hv
      obtain rfl := Option.some.inj h1
      unfold am_stp; dsimp only
      rw [hx]
      obtain ⟨j, rfl⟩ := am_isI_ok hvx hc
      exact am_t1 hI hl ⟨hvx, hs⟩
    · cases h1
  · cases h1
theorem am_p_istore_n {k : _} (hI : am_IV K σ τ ρ h w) (hl : am_LS σ τ ρ ls lsC) (hs : am_VS σ τ ρ st stC) (h1 : am_ab rl pc (.istore_n k) an ls st h = some acts) : am_TT K σ τ ρ w acts (am_stp pc (.istore_n k) an lsC stC w) := by
  unfold am_ab at h1
  dsimp only at h1
  split at h1
  · rename_i v r
    have hq0 := am_VS_c hs
    clear hs
    obtain ⟨x, u, rfl, hvx, hu⟩ := hq0
    split at h1
    · rename_i hc
      obtain ⟨l, hl', h1⟩ := Option.bind_eq_some_iff.mp h1
      obtain rfl := Option.some.inj h1
      obtain ⟨j, rfl⟩ := am_isI_ok hvx hc
      obtain ⟨lC, e1, e2⟩ := am_s1_ok hl hvx hl'
      unfold am_stp; dsimp only
      rw [e1]
      exact am_t1 hI e2 hu
    · cases h1
  · cases h1
theorem am_p_lload {k : _} (hI : am_IV K σ τ ρ h w) (hl : am_LS σ τ ρ ls lsC) (hs : am_VS σ τ ρ st stC) (h1 : am_ab rl pc (.lload k) an ls st h = some acts) : am_TT K σ τ ρ w acts (am_stp pc (.lload k) an lsC stC w) := by
  unfold am_ab at h1
  dsimp only at h1
  split at h1
  · rename_i v hv
    split at h1
    · rename_i hc
      obtain ⟨x, hx, hvx⟩ := am_aS_ok hl hv
      obtain rfl := Option.some.inj h1
      unfold am_stp; dsimp only
      rw [hx]
      obtain ⟨j, rfl⟩ := am_isL_ok hvx hc
      exact am_t1 hI hl ⟨hvx, hs⟩
    · cases h1
  · cases h1
theorem am_p_lstore {k : _} (hI : am_IV K σ τ ρ h w) (hl : am_LS σ τ ρ ls lsC) (hs : am_VS σ τ ρ st stC) (h1 : am_ab rl pc (.lstore k) an ls st h = some acts) : am_TT K σ τ ρ w acts (am_stp pc (.lstore k) an lsC stC w) := by
  unfold am_ab at h1
  dsimp only at h1
  split at h1
  · rename_i v r
    have hq0 := am_VS_c hs
    clear hs
    obtain ⟨x, u, rfl, hvx, hu⟩ := hq0
    split at h1
    · rename_i hc
      obtain ⟨l, hl', h1⟩ := Option.bind_eq_some_iff.mp h1
      obtain rfl := Option.some.inj h1
      obtain ⟨j, rfl⟩ := am_isL_ok hvx hc
      obtain ⟨lC, e1, e2⟩ := am_s2_ok hl hvx hl'
      unfold am_stp; dsimp only
      rw [e1]
      exact am_t1 hI e2 hu
    · cases h1
  · cases h1
theorem am_p_lload_n {k : _} (hI : am_IV K σ τ ρ h w) (hl : am_LS σ τ ρ ls lsC) (hs : am_VS σ τ ρ st stC) (h1 : am_ab rl pc (.lload_n k) an ls st h = some acts) : am_TT K σ τ ρ w acts (am_stp pc (.lload_n k) an lsC stC w) := by
  unfold am_ab at h1
  dsimp only at h1
  split at h1
  · rename_i v hv
    split at h1
    · rename_i hc
      obtain ⟨x, hx, hvx⟩ := am_aS_ok hl hv
      obtain rfl := Option.some.inj h1
      unfold am_stp; dsimp only
      rw [hx]
      obtain ⟨j, rfl⟩ := am_isL_ok hvx hc
      exact am_t1 hI hl ⟨hvx, hs⟩
    · cases h1
  · cases h1
theorem am_p_lstore_n {k : _} (hI : am_IV K σ τ ρ h w) (hl : am_LS σ τ ρ ls lsC) (hs : am_VS σ τ ρ st stC) (h1 : am_ab rl pc (.lstore_n k) an ls st h = some acts) : am_TT K σ τ ρ w acts (am_stp pc (.lstore_n k) an lsC stC w) := by
  unfold am_ab at h1
  dsimp only at h1
  split at h1
  · rename_i v r
    have hq0 := am_VS_c hs
    clear hs
    obtain ⟨x, u, rfl, hvx, hu⟩ := hq0
    split at h1
    · rename_i hc
      obtain ⟨l, hl', h1⟩ := Option.bind_eq_some_iff.mp h1
      obtain rfl := Option.some.inj h1
      obtain ⟨j, rfl⟩ := am_isL_ok hvx hc
      obtain ⟨lC, e1, e2⟩ := am_s2_ok hl hvx hl'
      unfold am_stp; dsimp only
      rw [e1]
      exact am_t1 hI e2 hu
    · cases h1
  · cases h1
theorem am_p_dload {k : _} (hI : am_IV K σ τ ρ h w) (hl : am_LS σ τ ρ ls lsC) (hs : am_VS σ τ ρ st stC) (h1 : am_ab rl pc (.dload k) an ls st h = some acts) : am_TT K σ τ ρ w acts (am_stp pc (.dload k) an lsC stC w) := by
  unfold am_ab at h1
  dsimp only at h1
  split at h1
  · rename_i v hv
    split at h1
    · rename_i hc
      obtain ⟨x, hx, hvx⟩ := am_aS_ok hl hv
      obtain rfl := Option.some.inj h1
      unfold am_stp; dsimp only
      rw [hx]
      obtain ⟨j, rfl⟩ := am_dS_ok hvx hc
      exact am_t1 hI hl ⟨hvx, hs⟩
    · cases h1
  · cases h1
theorem am_p_dstore {k : _} (hI : am_IV K σ τ ρ h w) (hl : am_LS σ τ ρ ls lsC) (hs : am_VS σ τ ρ st stC) (h1 : am_ab rl pc (.dstore k) an ls st h = some acts) : am_TT K σ τ ρ w acts (am_stp pc (.dstore k) an lsC stC w) := by
  unfold am_ab at h1
  dsimp only at h1
  split at h1
  · rename_i v r
    have hq0 := am_VS_c hs
    clear hs
    obtain ⟨x, u, rfl, hvx, hu⟩ := hq0
    split at h1
    · rename_i hc
      obtain ⟨l, hl', h1⟩ := Option.bind_eq_some_iff.mp h1
      obtain rfl := Option.some.inj h1
      obtain ⟨j, rfl⟩ := am_dS_ok hvx hc
      obtain ⟨lC, e1, e2⟩ := am_s2_ok hl hvx hl'
      unfold am_stp; dsimp only
      rw [e1]
      exact am_t1 hI e2 hu
    · cases h1
  · cases h1
theorem am_p_aload {k : _} (hI : am_IV K σ τ ρ h w) (hl : am_LS σ τ ρ ls lsC) (hs : am_VS σ τ ρ st stC) (h1 : am_ab rl pc (.aload k) an ls st h = some acts) : am_TT K σ τ ρ w acts (am_stp pc (.aload k) an lsC stC w) := by
  unfold am_ab at h1
  dsimp only at h1
  split at h1
  · rename_i v hv
    split at h1
    · rename_i hc
      obtain ⟨x, hx, hvx⟩ := am_aS_ok hl hv
      obtain rfl := Option.some.inj h1
      unfold am_stp; dsimp only
      rw [hx]
      rcases am_rS_ok hvx hc with rfl | ⟨a, rfl⟩
      · exact am_t1 hI hl ⟨hvx, hs⟩
      · exact am_t1 hI hl ⟨hvx, hs⟩
    · cases h1
  · cases h1
theorem am_p_astore {k : _} (hI : am_IV K σ τ ρ h w) (hl : am_LS σ τ ρ ls lsC) (hs : am_VS σ τ ρ st stC) (h1 : am_ab rl pc (.astore k) an ls st h = some acts) : am_TT K σ τ ρ w acts (am_stp pc (.astore k) an lsC stC w) := by
  unfold am_ab at h1
  dsimp only at h1
  split at h1
  · rename_i v r
    have hq0 := am_VS_c hs
    clear hs
    obtain ⟨x, u, rfl, hvx, hu⟩ := hq0
    split at h1
    · rename_i hc
      obtain ⟨l, hl', h1⟩ := Option.bind_eq_some_iff.mp h1
      obtain rfl := Option.some.inj h1
      rcases am_rS_ok hvx hc with rfl | ⟨a, rfl⟩
      · obtain ⟨lC, e1, e2⟩ := am_s1_ok hl hvx hl'
        unfold am_stp; dsimp only
        rw [e1]
        exact am_t1 hI e2 hu
      · obtain ⟨lC, e1, e2⟩ := am_s1_ok hl hvx hl'
        unfold am_stp; dsimp only
        rw [e1]
        exact am_t1 hI e2 hu
    · cases h1
  · cases h1
theorem am_p_aload_n {k : _} (hI : am_IV K σ τ ρ h w) (hl : am_LS σ τ ρ ls lsC) (hs : am_VS σ τ ρ st stC) (h1 : am_ab rl pc (.aload_n k) an ls st h = some acts) : am_TT K σ τ ρ w acts (am_stp pc (.aload_n k) an lsC stC w) := by
  unfold am_ab at h1
  dsimp only at h1
  split at h1
  · rename_i v hv
    split at h1
    · rename_i hc
      obtain ⟨x, hx, hvx⟩ := am_aS_ok hl hv
      obtain rfl := Option.some.inj h1
      unfold am_stp; dsimp only
      rw [hx]
      rcases am_rS_ok hvx hc with rfl | ⟨a, rfl⟩
      · exact am_t1 hI hl ⟨hvx, hs⟩
      · exact am_t1 hI hl ⟨hvx, hs⟩
    · cases h1
  · cases h1
theorem am_p_astore_n {k : _} (hI : am_IV K σ τ ρ h w) (hl : am_LS σ τ ρ ls lsC) (hs : am_VS σ τ ρ st stC) (h1 : am_ab rl pc (.astore_n k) an ls st h = some acts) : am_TT K σ τ ρ w acts (am_stp pc (.astore_n k) an lsC stC w) := by
  unfold am_ab at h1
  dsimp only at h1
  split at h1
  · rename_i v r
    have hq0 := am_VS_c hs
    clear hs
    obtain ⟨x, u, rfl, hvx, hu⟩ := hq0
    split at h1
    · rename_i hc
      obtain ⟨l, hl', h1⟩ := Option.bind_eq_some_iff.mp h1
      obtain rfl := Option.some.inj h1
      rcases am_rS_ok hvx hc with rfl | ⟨a, rfl⟩
      · obtain ⟨lC, e1, e2⟩ := am_s1_ok hl hvx hl'
        unfold am_stp; dsimp only
        rw [e1]
        exact am_t1 hI e2 hu
      · obtain ⟨lC, e1, e2⟩ := am_s1_ok hl hvx hl'
        unfold am_stp; dsimp only
        rw [e1]
        exact am_t1 hI e2 hu
    · cases h1
  · cases h1
theorem am_p_iinc {k : _} {n : _} (hI : am_IV K σ τ ρ h w) (hl : am_LS σ τ ρ ls lsC) (hs : am_VS σ τ ρ st stC) (h1 : am_ab rl pc (.iinc k n) an ls st h = some acts) : am_TT K σ τ ρ w acts (am_stp pc (.iinc k n) an lsC stC w) := by
  unfold am_ab at h1
  dsimp only at h1
  split at h1
  · rename_i q hq
    obtain ⟨x, hx, i, rfl, hi⟩ := am_aS_ok hl hq
    obtain ⟨σ', hs1, hI', he⟩ := am_add_ok hI hi (y := Int32.ofInt n) (r := (none, (Int32.ofInt n).toInt)) rfl
    have hm : am_mo σ σ' τ τ ρ ρ := ⟨hs1, List.prefix_rfl, fun _ _ h => h⟩
    obtain ⟨l, hl', h1⟩ := Option.bind_eq_some_iff.mp h1
    obtain rfl := Option.some.inj h1
    obtain ⟨lC, e1, e2⟩ := am_s1_ok (am_LS_mo hm hl) (v := .inl _) (x := .int (i + Int32.ofInt n)) ⟨_, rfl, he⟩ hl'
    unfold am_stp; dsimp only
    rw [hx]
    dsimp only
    rw [e1]
    exact am_t0 hm hI' e2 (am_VS_mo hm hs) (am_ge_rf w)
  · cases h1
theorem am_p_isub (hI : am_IV K σ τ ρ h w) (hl : am_LS σ τ ρ ls lsC) (hs : am_VS σ τ ρ st stC) (h1 : am_ab rl pc (.isub) an ls st h = some acts) : am_TT K σ τ ρ w acts (am_stp pc (.isub) an lsC stC w) := by
  unfold am_ab at h1
  dsimp only at h1
  split at h1
  · rename_i y x r
    have hq0 := am_VS_c hs
    clear hs
    obtain ⟨_, _, rfl, ⟨yi, rfl, hy⟩, hs⟩ := hq0
    have hq0 := am_VS_c hs
    clear hs
    obtain ⟨_, _, rfl, ⟨xi, rfl, hx⟩, hs⟩ := hq0
    obtain rfl := Option.some.inj h1
    unfold am_stp; dsimp only
    exact am_t3 (am_sub_ok hI hx hy) hl hs
  · cases h1
theorem am_p_iadd (hI : am_IV K σ τ ρ h w) (hl : am_LS σ τ ρ ls lsC) (hs : am_VS σ τ ρ st stC) (h1 : am_ab rl pc (.iadd) an ls st h = some acts) : am_TT K σ τ ρ w acts (am_stp pc (.iadd) an lsC stC w) := by
  unfold am_ab at h1
  dsimp only at h1
  split at h1
  · rename_i y x r
    have hq0 := am_VS_c hs
    clear hs
    obtain ⟨_, _, rfl, ⟨yi, rfl, hy⟩, hs⟩ := hq0
    have hq0 := am_VS_c hs
    clear hs
    obtain ⟨_, _, rfl, ⟨xi, rfl, hx⟩, hs⟩ := hq0
    obtain rfl := Option.some.inj h1
    unfold am_stp; dsimp only
    exact am_t3 (am_add_ok hI hx hy) hl hs
  · cases h1
theorem am_p_imul (hI : am_IV K σ τ ρ h w) (hl : am_LS σ τ ρ ls lsC) (hs : am_VS σ τ ρ st stC) (h1 : am_ab rl pc (.imul) an ls st h = some acts) : am_TT K σ τ ρ w acts (am_stp pc (.imul) an lsC stC w) := by
  unfold am_ab at h1
  dsimp only at h1
  split at h1
  · rename_i y x r
    have hq0 := am_VS_c hs
    clear hs
    obtain ⟨_, _, rfl, ⟨yi, rfl, hy⟩, hs⟩ := hq0
    have hq0 := am_VS_c hs
    clear hs
    obtain ⟨_, _, rfl, ⟨xi, rfl, hx⟩, hs⟩ := hq0
    obtain rfl := Option.some.inj h1
    unfold am_stp; dsimp only
    exact am_t3 (am_m2_ok hI (by decide) am_gk_mul hx hy) hl hs
  · cases h1
theorem am_p_iand (hI : am_IV K σ τ ρ h w) (hl : am_LS σ τ ρ ls lsC) (hs : am_VS σ τ ρ st stC) (h1 : am_ab rl pc (.iand) an ls st h = some acts) : am_TT K σ τ ρ w acts (am_stp pc (.iand) an lsC stC w) := by
  unfold am_ab at h1
  dsimp only at h1
  split at h1
  · rename_i y x r
    have hq0 := am_VS_c hs
    clear hs
    obtain ⟨_, _, rfl, ⟨yi, rfl, hy⟩, hs⟩ := hq0
    have hq0 := am_VS_c hs
    clear hs
    obtain ⟨_, _, rfl, ⟨xi, rfl, hx⟩, hs⟩ := hq0
    obtain rfl := Option.some.inj h1
    unfold am_stp; dsimp only
    exact am_t3 (am_o2_ok hI am_gk_and hx hy) hl hs
  · cases h1
theorem am_p_ior (hI : am_IV K σ τ ρ h w) (hl : am_LS σ τ ρ ls lsC) (hs : am_VS σ τ ρ st stC) (h1 : am_ab rl pc (.ior) an ls st h = some acts) : am_TT K σ τ ρ w acts (am_stp pc (.ior) an lsC stC w) := by
  unfold am_ab at h1
  dsimp only at h1
  split at h1
  · rename_i y x r
    have hq0 := am_VS_c hs
    clear hs
    obtain ⟨_, _, rfl, ⟨yi, rfl, hy⟩, hs⟩ := hq0
    have hq0 := am_VS_c hs
    clear hs
    obtain ⟨_, _, rfl, ⟨xi, rfl, hx⟩, hs⟩ := hq0
    obtain rfl := Option.some.inj h1
    unfold am_stp; dsimp only
    exact am_t3 (am_o2_ok hI am_gk_or hx hy) hl hs
  · cases h1
theorem am_p_ixor (hI : am_IV K σ τ ρ h w) (hl : am_LS σ τ ρ ls lsC) (hs : am_VS σ τ ρ st stC) (h1 : am_ab rl pc (.ixor) an ls st h = some acts) : am_TT K σ τ ρ w acts (am_stp pc (.ixor) an lsC stC w) := by
  unfold am_ab at h1
  dsimp only at h1
  split at h1
  · rename_i y x r
    have hq0 := am_VS_c hs
    clear hs
    obtain ⟨_, _, rfl, ⟨yi, rfl, hy⟩, hs⟩ := hq0
    have hq0 := am_VS_c hs
    clear hs
    obtain ⟨_, _, rfl, ⟨xi, rfl, hx⟩, hs⟩ := hq0
    obtain rfl := Option.some.inj h1
    unfold am_stp; dsimp only
    exact am_t3 (am_o2_ok hI (am_gk_full _) hx hy) hl hs
  · cases h1
theorem am_p_ishl (hI : am_IV K σ τ ρ h w) (hl : am_LS σ τ ρ ls lsC) (hs : am_VS σ τ ρ st stC) (h1 : am_ab rl pc (.ishl) an ls st h = some acts) : am_TT K σ τ ρ w acts (am_stp pc (.ishl) an lsC stC w) := by
  unfold am_ab at h1
  dsimp only at h1
  split at h1
  · rename_i y x r
    have hq0 := am_VS_c hs
    clear hs
    obtain ⟨_, _, rfl, ⟨yi, rfl, hy⟩, hs⟩ := hq0
    have hq0 := am_VS_c hs
    clear hs
    obtain ⟨_, _, rfl, ⟨xi, rfl, hx⟩, hs⟩ := hq0
    obtain rfl := Option.some.inj h1
    unfold am_stp; dsimp only
    exact am_t3 (am_sh_ok (f := fun x y => x <<< (y &&& 31)) hI am_shl0 hx hy) hl hs
  · cases h1
theorem am_p_ishr (hI : am_IV K σ τ ρ h w) (hl : am_LS σ τ ρ ls lsC) (hs : am_VS σ τ ρ st stC) (h1 : am_ab rl pc (.ishr) an ls st h = some acts) : am_TT K σ τ ρ w acts (am_stp pc (.ishr) an lsC stC w) := by
  unfold am_ab at h1
  dsimp only at h1
  split at h1
  · rename_i y x r
    have hq0 := am_VS_c hs
    clear hs
    obtain ⟨_, _, rfl, ⟨yi, rfl, hy⟩, hs⟩ := hq0
    have hq0 := am_VS_c hs
    clear hs
    obtain ⟨_, _, rfl, ⟨xi, rfl, hx⟩, hs⟩ := hq0
    obtain rfl := Option.some.inj h1
    unfold am_stp; dsimp only
    exact am_t3 (am_sh_ok (f := fun x y => x >>> (y &&& 31)) hI am_shr0 hx hy) hl hs
  · cases h1
theorem am_p_iushr (hI : am_IV K σ τ ρ h w) (hl : am_LS σ τ ρ ls lsC) (hs : am_VS σ τ ρ st stC) (h1 : am_ab rl pc (.iushr) an ls st h = some acts) : am_TT K σ τ ρ w acts (am_stp pc (.iushr) an lsC stC w) := by
  unfold am_ab at h1
  dsimp only at h1
  split at h1
  · rename_i y x r
    have hq0 := am_VS_c hs
    clear hs
    obtain ⟨_, _, rfl, ⟨yi, rfl, hy⟩, hs⟩ := hq0
    have hq0 := am_VS_c hs
    clear hs
    obtain ⟨_, _, rfl, ⟨xi, rfl, hx⟩, hs⟩ := hq0
    obtain rfl := Option.some.inj h1
    unfold am_stp; dsimp only
    exact am_t3 (am_o2_ok hI (am_gk_full _) hx hy) hl hs
  · cases h1
theorem am_p_idiv (hI : am_IV K σ τ ρ h w) (hl : am_LS σ τ ρ ls lsC) (hs : am_VS σ τ ρ st stC) (h1 : am_ab rl pc (.idiv) an ls st h = some acts) : am_TT K σ τ ρ w acts (am_stp pc (.idiv) an lsC stC w) := by
  unfold am_ab at h1
  dsimp only at h1
  split at h1
  · rename_i y x r
    have hq0 := am_VS_c hs
    clear hs
    obtain ⟨_, _, rfl, ⟨yi, rfl, hy⟩, hs⟩ := hq0
    have hq0 := am_VS_c hs
    clear hs
    obtain ⟨_, _, rfl, ⟨xi, rfl, hx⟩, hs⟩ := hq0
    split at h1
    · rename_i hc
      rw [am_lt_ok] at hc
      have hb := am_bd_ok hI.EB hy
      have hy0 : ¬ yi = 0 := fun e => by
        rw [e] at hb
        have h0 : (0 : Int32).toInt = 0 := rfl
        omega
      obtain rfl := Option.some.inj h1
      unfold am_stp; dsimp only
      rw [if_neg hy0]
      exact am_t3 (am_m2_ok hI (by decide) am_gk_div hx hy) hl hs
    · cases h1
  · cases h1
theorem am_p_irem (hI : am_IV K σ τ ρ h w) (hl : am_LS σ τ ρ ls lsC) (hs : am_VS σ τ ρ st stC) (h1 : am_ab rl pc (.irem) an ls st h = some acts) : am_TT K σ τ ρ w acts (am_stp pc (.irem) an lsC stC w) := by
  unfold am_ab at h1
  dsimp only at h1
  split at h1
  · rename_i y x r
    have hq0 := am_VS_c hs
    clear hs
    obtain ⟨_, _, rfl, ⟨yi, rfl, hy⟩, hs⟩ := hq0
    have hq0 := am_VS_c hs
    clear hs
    obtain ⟨_, _, rfl, ⟨xi, rfl, hx⟩, hs⟩ := hq0
    split at h1
    · rename_i hc
      rw [am_lt_ok] at hc
      have hb := am_bd_ok hI.EB hy
      have hy0 : ¬ yi = 0 := fun e => by
        rw [e] at hb
        have h0 : (0 : Int32).toInt = 0 := rfl
        omega
      obtain rfl := Option.some.inj h1
      unfold am_stp; dsimp only
      rw [if_neg hy0]
      exact am_t3 (am_m2_ok hI (by decide) am_gk_rem hx hy) hl hs
    · cases h1
  · cases h1
theorem am_p_ineg (hI : am_IV K σ τ ρ h w) (hl : am_LS σ τ ρ ls lsC) (hs : am_VS σ τ ρ st stC) (h1 : am_ab rl pc (.ineg) an ls st h = some acts) : am_TT K σ τ ρ w acts (am_stp pc (.ineg) an lsC stC w) := by
  unfold am_ab at h1
  dsimp only at h1
  split at h1
  · rename_i x r
    have hq0 := am_VS_c hs
    clear hs
    obtain ⟨_, _, rfl, ⟨xi, rfl, hx⟩, hs⟩ := hq0
    obtain rfl := Option.some.inj h1
    unfold am_stp; dsimp only
    exact am_t3 (am_o1_ok hI am_gk_neg hx) hl hs
  · cases h1
theorem am_p_i2b (hI : am_IV K σ τ ρ h w) (hl : am_LS σ τ ρ ls lsC) (hs : am_VS σ τ ρ st stC) (h1 : am_ab rl pc (.i2b) an ls st h = some acts) : am_TT K σ τ ρ w acts (am_stp pc (.i2b) an lsC stC w) := by
  unfold am_ab at h1
  dsimp only at h1
  split at h1
  · rename_i x r
    have hq0 := am_VS_c hs
    clear hs
    obtain ⟨_, _, rfl, ⟨xi, rfl, hx⟩, hs⟩ := hq0
    obtain rfl := Option.some.inj h1
    unfold am_stp; dsimp only
    exact am_t3 (am_o1_ok hI am_gk_i2b hx) hl hs
  · cases h1
theorem am_p_i2c (hI : am_IV K σ τ ρ h w) (hl : am_LS σ τ ρ ls lsC) (hs : am_VS σ τ ρ st stC) (h1 : am_ab rl pc (.i2c) an ls st h = some acts) : am_TT K σ τ ρ w acts (am_stp pc (.i2c) an lsC stC w) := by
  unfold am_ab at h1
  dsimp only at h1
  split at h1
  · rename_i x r
    have hq0 := am_VS_c hs
    clear hs
    obtain ⟨_, _, rfl, ⟨xi, rfl, hx⟩, hs⟩ := hq0
    obtain rfl := Option.some.inj h1
    unfold am_stp; dsimp only
    exact am_t3 (am_o1_ok hI am_gk_i2c hx) hl hs
  · cases h1
theorem am_p_ladd (hI : am_IV K σ τ ρ h w) (hl : am_LS σ τ ρ ls lsC) (hs : am_VS σ τ ρ st stC) (h1 : am_ab rl pc (.ladd) an ls st h = some acts) : am_TT K σ τ ρ w acts (am_stp pc (.ladd) an lsC stC w) := by
  unfold am_ab at h1
  dsimp only at h1
  split at h1
  · rename_i u v r
    have hq0 := am_VS_c hs
    clear hs
    obtain ⟨_, _, rfl, hu, hs⟩ := hq0
    have hq0 := am_VS_c hs
    clear hs
    obtain ⟨_, _, rfl, hv, hs⟩ := hq0
    split at h1
    · rename_i hc
      rw [Bool.and_eq_true] at hc
      obtain ⟨j1, rfl⟩ := am_isL_ok hu hc.1
      obtain ⟨j2, rfl⟩ := am_isL_ok hv hc.2
      obtain rfl := Option.some.inj h1
      unfold am_stp; dsimp only
      exact am_t1 hI hl ⟨⟨_, rfl⟩, hs⟩
    · cases h1
  · cases h1
theorem am_p_lsub (hI : am_IV K σ τ ρ h w) (hl : am_LS σ τ ρ ls lsC) (hs : am_VS σ τ ρ st stC) (h1 : am_ab rl pc (.lsub) an ls st h = some acts) : am_TT K σ τ ρ w acts (am_stp pc (.lsub) an lsC stC w) := by
  unfold am_ab at h1
  dsimp only at h1
  split at h1
  · rename_i u v r
    have hq0 := am_VS_c hs
    clear hs
    obtain ⟨_, _, rfl, hu, hs⟩ := hq0
    have hq0 := am_VS_c hs
    clear hs
    obtain ⟨_, _, rfl, hv, hs⟩ := hq0
    split at h1
    · rename_i hc
      rw [Bool.and_eq_true] at hc
      obtain ⟨j1, rfl⟩ := am_isL_ok hu hc.1
      obtain ⟨j2, rfl⟩ := am_isL_ok hv hc.2
      obtain rfl := Option.some.inj h1
      unfold am_stp; dsimp only
      exact am_t1 hI hl ⟨⟨_, rfl⟩, hs⟩
    · cases h1
  · cases h1
theorem am_p_lmul (hI : am_IV K σ τ ρ h w) (hl : am_LS σ τ ρ ls lsC) (hs : am_VS σ τ ρ st stC) (h1 : am_ab rl pc (.lmul) an ls st h = some acts) : am_TT K σ τ ρ w acts (am_stp pc (.lmul) an lsC stC w) := by
  unfold am_ab at h1
  dsimp only at h1
  split at h1
  · rename_i u v r
    have hq0 := am_VS_c hs
    clear hs
    obtain ⟨_, _, rfl, hu, hs⟩ := hq0
    have hq0 := am_VS_c hs
    clear hs
    obtain ⟨_, _, rfl, hv, hs⟩ := hq0
    split at h1
    · rename_i hc
      rw [Bool.and_eq_true] at hc
      obtain ⟨j1, rfl⟩ := am_isL_ok hu hc.1
      obtain ⟨j2, rfl⟩ := am_isL_ok hv hc.2
      obtain rfl := Option.some.inj h1
      unfold am_stp; dsimp only
      exact am_t1 hI hl ⟨⟨_, rfl⟩, hs⟩
    · cases h1
  · cases h1
theorem am_p_land (hI : am_IV K σ τ ρ h w) (hl : am_LS σ τ ρ ls lsC) (hs : am_VS σ τ ρ st stC) (h1 : am_ab rl pc (.land) an ls st h = some acts) : am_TT K σ τ ρ w acts (am_stp pc (.land) an lsC stC w) := by
  unfold am_ab at h1
  dsimp only at h1
  split at h1
  · rename_i u v r
    have hq0 := am_VS_c hs
    clear hs
    obtain ⟨_, _, rfl, hu, hs⟩ := hq0
    have hq0 := am_VS_c hs
    clear hs
    obtain ⟨_, _, rfl, hv, hs⟩ := hq0
    split at h1
    · rename_i hc
      rw [Bool.and_eq_true] at hc
      obtain ⟨j1, rfl⟩ := am_isL_ok hu hc.1
      obtain ⟨j2, rfl⟩ := am_isL_ok hv hc.2
      obtain rfl := Option.some.inj h1
      unfold am_stp; dsimp only
      exact am_t1 hI hl ⟨⟨_, rfl⟩, hs⟩
    · cases h1
  · cases h1
theorem am_p_lor (hI : am_IV K σ τ ρ h w) (hl : am_LS σ τ ρ ls lsC) (hs : am_VS σ τ ρ st stC) (h1 : am_ab rl pc (.lor) an ls st h = some acts) : am_TT K σ τ ρ w acts (am_stp pc (.lor) an lsC stC w) := by
  unfold am_ab at h1
  dsimp only at h1
  split at h1
  · rename_i u v r
    have hq0 := am_VS_c hs
    clear hs
    obtain ⟨_, _, rfl, hu, hs⟩ := hq0
    have hq0 := am_VS_c hs
    clear hs
    obtain ⟨_, _, rfl, hv, hs⟩ := hq0
    split at h1
    · rename_i hc
      rw [Bool.and_eq_true] at hc
      obtain ⟨j1, rfl⟩ := am_isL_ok hu hc.1
      obtain ⟨j2, rfl⟩ := am_isL_ok hv hc.2
      obtain rfl := Option.some.inj h1
      unfold am_stp; dsimp only
      exact am_t1 hI hl ⟨⟨_, rfl⟩, hs⟩
    · cases h1
  · cases h1
theorem am_p_lxor (hI : am_IV K σ τ ρ h w) (hl : am_LS σ τ ρ ls lsC) (hs : am_VS σ τ ρ st stC) (h1 : am_ab rl pc (.lxor) an ls st h = some acts) : am_TT K σ τ ρ w acts (am_stp pc (.lxor) an lsC stC w) := by
  unfold am_ab at h1
  dsimp only at h1
  split at h1
  · rename_i u v r
    have hq0 := am_VS_c hs
    clear hs
    obtain ⟨_, _, rfl, hu, hs⟩ := hq0
    have hq0 := am_VS_c hs
    clear hs
    obtain ⟨_, _, rfl, hv, hs⟩ := hq0
    split at h1
    · rename_i hc
      rw [Bool.and_eq_true] at hc
      obtain ⟨j1, rfl⟩ := am_isL_ok hu hc.1
      obtain ⟨j2, rfl⟩ := am_isL_ok hv hc.2
      obtain rfl := Option.some.inj h1
      unfold am_stp; dsimp only
      exact am_t1 hI hl ⟨⟨_, rfl⟩, hs⟩
    · cases h1
  · cases h1
theorem am_p_lshl (hI : am_IV K σ τ ρ h w) (hl : am_LS σ τ ρ ls lsC) (hs : am_VS σ τ ρ st stC) (h1 : am_ab rl pc (.lshl) an ls st h = some acts) : am_TT K σ τ ρ w acts (am_stp pc (.lshl) an lsC stC w) := by
  unfold am_ab at h1
  dsimp only at h1
  split at h1
  · rename_i u v r
    have hq0 := am_VS_c hs
    clear hs
    obtain ⟨_, _, rfl, ⟨yi, rfl, hy⟩, hs⟩ := hq0
    have hq0 := am_VS_c hs
    clear hs
    obtain ⟨_, _, rfl, hv, hs⟩ := hq0
    split at h1
    · rename_i hc
      obtain ⟨j2, rfl⟩ := am_isL_ok hv hc
      obtain rfl := Option.some.inj h1
      unfold am_stp; dsimp only
      exact am_t1 hI hl ⟨⟨_, rfl⟩, hs⟩
    · cases h1
  · cases h1
end AMON
