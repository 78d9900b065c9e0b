/-! WHAT THE OPERATIONS ON SYMBOLS SAY OF THE WORLD. Mine. -/
section AMOP
variable {K : am_K0} {σ : List Int} {τ : List Nat} {ρ : am_Rh} {h : am_Hp} {w : am_Wd}
def am_Nv (K : am_K0) (σ : List Int) (τ : List Nat) (ρ : am_Rh) (w : am_Wd) (p : am_SV × am_Hp) (y : Value) : Prop := ∃ σ', σ <+: σ' ∧ am_IV K σ' τ ρ p.2 w ∧ am_VV σ' τ ρ p.1 y
theorem am_VS_at : ∀ {fs : List am_SV} {vs : List Value} {k : Nat} {t : am_SV}, am_VS σ τ ρ fs vs → fs[k]? = some t → ∃ y, vs[k]? = some y ∧ am_VV σ τ ρ t y
  | f :: fs, v :: vs, 0, t, h, e => ⟨v, rfl, (by cases e; exact h.1)⟩
  | f :: fs, v :: vs, k + 1, t, h, e => am_VS_at (k := k) h.2 (by simpa using e)
  | [], _, _, _, _, e => (by simp at e)
  | _ :: _, [], _, _, h, _ => h.elim
theorem am_VS_len : ∀ {fs : List am_SV} {vs : List Value}, am_VS σ τ ρ fs vs → fs.length = vs.length
  | [], [], _ => rfl
  | _ :: _, _ :: _, h => congrArg (· + 1) (am_VS_len h.2)
  | [], _ :: _, h => h.elim
  | _ :: _, [], h => h.elim
theorem am_VS_set : ∀ {fs : List am_SV} {vs : List Value} {k : Nat} {t : am_SV} {y : Value}, am_VS σ τ ρ fs vs → am_VV σ τ ρ t y → am_VS σ τ ρ (fs.set k t) (vs.set k y)
  | _ :: _, _ :: _, 0, _, _, h, e => ⟨e, h.2⟩
  | _ :: _, _ :: _, k + 1, _, _, h, e => ⟨h.1, am_VS_set h.2 e⟩
  | [], [], _, _, _, _, _ => trivial
  | [], _ :: _, _, _, _, h, _ => h.elim
  | _ :: _, [], _, _, _, h, _ => h.elim
theorem am_RVS_at {Er : am_Ev} : ∀ {fs : List am_SV} {vs : List Value} {k : Nat} {t : am_SV}, am_RVS ρ Er fs vs → fs[k]? = some t → ∃ y, vs[k]? = some y ∧ am_RV ρ Er t y
  | f :: fs, v :: vs, 0, t, h, e => ⟨v, rfl, (by cases e; exact h.1)⟩
  | f :: fs, v :: vs, k + 1, t, h, e => am_RVS_at (k := k) h.2 (by simpa using e)
  | [], _, _, _, _, e => (by simp at e)
  | _ :: _, [], _, _, h, _ => h.elim
theorem am_RVS_set {Er : am_Ev} : ∀ {fs : List am_SV} {vs : List Value} {k : Nat} {t : am_SV} {y : Value}, am_RVS ρ Er fs vs → fs[k]? = some t → am_RV ρ Er t y → am_RVS ρ Er fs (vs.set k y)
  | f :: fs, v :: vs, 0, t, y, h, e, z => (by cases e; exact ⟨z, h.2⟩)
  | f :: fs, v :: vs, k + 1, t, y, h, e, z => ⟨h.1, am_RVS_set (k := k) h.2 (by simpa using e) z⟩
  | [], _, _, _, _, _, e, _ => (by simp at e)
  | _ :: _, [], _, _, _, h, _, _ => h.elim
theorem am_nil_mo : am_mo ([] : List Int) σ ([] : List Nat) τ ρ ρ := ⟨List.nil_prefix, List.nil_prefix, fun _ _ h => h⟩
theorem am_im_ok (hI : am_IV K σ τ ρ h w) {Er : am_Ev} {t : am_SV} {y : Value} (hv : am_RV ρ Er t y) {p : am_SV × am_Hp} (h1 : am_im h Er t = some p) : am_Nv K σ τ ρ w p y := by
  unfold am_im at h1
  split at h1
  · rename_i q
    obtain ⟨i, rfl, b1, b2⟩ := hv
    obtain ⟨σ', hs, hI', he⟩ := am_fr_ok hI b1 b2
    obtain rfl := Option.some.inj h1
    exact ⟨σ', hs, hI', i, rfl, he⟩
  · obtain rfl := Option.some.inj h1
    exact ⟨σ, List.prefix_rfl, hI, am_VV_mo am_nil_mo hv⟩
  · cases h1
  · obtain rfl := Option.some.inj h1
    exact ⟨σ, List.prefix_rfl, hI, am_VV_mo am_nil_mo hv⟩
  · cases h1
theorem am_getS_ok (hI : am_IV K σ τ ρ h w) {v : am_SV} {x : Value} (hv : am_VV σ τ ρ v x) {ci k : Nat} {p : am_SV × am_Hp} (h1 : am_getS h v ci k = some p) : ∃ a y, x = .ref a ∧ am_gf w a ci k = some y ∧ am_Nv K σ τ ρ w p y := by
  unfold am_getS at h1
  split at h1
  · rename_i o fl c fs hr
    obtain ⟨a, e, rfl, ha, ho, hn, he, hov⟩ := am_rv_in hI hv hr
    split at h1
    · rename_i hc
      obtain ⟨t, ht, rfl⟩ := Option.map_eq_some_iff.mp h1
      obtain ⟨vs, rfl, hvs⟩ := hov
      obtain ⟨y, hy, hty⟩ := am_VS_at hvs ht
      refine ⟨a, y, rfl, ?_, σ, List.prefix_rfl, hI, hty⟩
      unfold am_gf
      rw [he]
      dsimp only
      rw [if_pos hc]
      exact hy
    · cases h1
  · rename_i r hr
    obtain ⟨a, rfl, ha⟩ := am_rv_ro hI hv hr
    obtain ⟨Er, b, e, hrl, he, hov⟩ := hI.role ha
    split at h1
    · rename_i Er' c ts hrl'
      have hz := hrl.symm.trans hrl'
      obtain ⟨rfl, rfl⟩ := Prod.mk.inj (Option.some.inj hz)
      split at h1
      · rename_i hc
        obtain ⟨t, ht, h1⟩ := Option.bind_eq_some_iff.mp h1
        obtain ⟨vs, rfl, hvs⟩ := hov
        obtain ⟨y, hy, hty⟩ := am_RVS_at hvs ht
        refine ⟨a, y, rfl, ?_, am_im_ok hI hty h1⟩
        unfold am_gf
        rw [he]
        dsimp only
        rw [if_pos hc]
        exact hy
      · cases h1
    · cases h1
  · cases h1
theorem am_putS_ok (hI : am_IV K σ τ ρ h w) {v : am_SV} {x : Value} (hv : am_VV σ τ ρ v x) {t : am_SV} {y : Value} (ht : am_VV σ τ ρ t y) {ci k : Nat} {h' : am_Hp} (h1 : am_putS h v ci k t = some h') :
    ∃ a w' ρ', x = .ref a ∧ am_ok (am_ty ci k) y = true ∧ am_pf w a ci k y = some w' ∧ am_IV K σ τ ρ' h' w' ∧ am_mo σ σ τ τ ρ ρ' ∧ w'.2 = w.2 := by
  unfold am_putS at h1
  split at h1
  · rename_i hc
    rw [Bool.and_eq_true] at hc
    have hok := am_okS_ok hI ht hc.1
    have hci : ci < 12 := Nat.blt_eq.mp hc.2
    split at h1
    · rename_i o c fs hr
      obtain ⟨a, e, rfl, ha, ho, hn, he, hov⟩ := am_rv_in hI hv hr
      split at h1
      · rename_i hc2
        rw [Bool.and_eq_true] at hc2
        have hcc := Nat.eq_of_beq_eq_true hc2.1
        subst hcc
        have hkl := Nat.blt_eq.mp hc2.2
        obtain rfl := Option.some.inj h1
        obtain ⟨vs, rfl, hvs⟩ := hov
        have hl := am_VS_len hvs
        refine ⟨a, am_pt w a (.inr (c, vs.set k y)), ρ, rfl, hok, ?_, am_IV_wr hI ho ha he (fun t x q => by cases q) ⟨vs.set k y, rfl, am_VS_set hvs ht⟩, am_mo_rf _ _ _, rfl⟩
        unfold am_pf
        rw [he]
        dsimp only
        rw [if_pos ⟨rfl, by omega, hci⟩]
      · cases h1
    · rename_i r hr
      obtain ⟨a, rfl, ha⟩ := am_rv_ro hI hv hr
      split at h1
      · rename_i Er0 c ts hrl0
        split at h1
        · rename_i hc2
          rw [Bool.and_eq_true] at hc2
          have hcc := Nat.eq_of_beq_eq_true hc2.1
          subst hcc
          obtain ⟨tt, htt, h1⟩ := Option.bind_eq_some_iff.mp h1
          obtain ⟨h2, hp, h1⟩ := Option.bind_eq_some_iff.mp h1
          split at h1
          · rename_i Er b' hrl
            split at h1
            · rename_i hcf
              obtain rfl := Option.some.inj h1
              have hz := hrl0.symm.trans hrl
              obtain ⟨rfl, rfl⟩ := Prod.mk.inj (Option.some.inj hz)
              obtain ⟨ρ', hI', hmo⟩ := am_pbs_ok hI hp
              have ha' := hmo.2.2 a r ha
              obtain ⟨Er, b, e, hrl2, he, hov⟩ := hI'.role ha'
              have hz := hrl2.symm.trans hrl
              obtain ⟨rfl, rfl⟩ := Prod.mk.inj (Option.some.inj hz)
              obtain ⟨vs, rfl, hvs⟩ := hov
              have hty := am_cf_ok hI' (am_VV_mo hmo ht) hcf
              obtain ⟨y0, hy0, -⟩ := am_RVS_at hvs htt
              have hkl : k < vs.length := (List.getElem?_eq_some_iff.mp hy0).1
              refine ⟨a, am_pt w a (.inr (c, vs.set k y)), ρ', rfl, hok, ?_, am_IV_wrR hI' ha' he (fun t x q => by cases q) hrl ⟨vs.set k y, rfl, am_RVS_set hvs htt hty⟩, hmo, rfl⟩
              unfold am_pf
              rw [he]
              dsimp only
              rw [if_pos ⟨rfl, hkl, hci⟩]
            · cases h1
          · cases h1
        · cases h1
      · cases h1
    · cases h1
  · cases h1
theorem am_kfS_ok (hI : am_IV K σ τ ρ h w) {v : am_SV} {x : Value} (hv : am_VV σ τ ρ v x) {ci : Nat} (h1 : am_kfS h v ci = true) : ∃ a, x = .ref a ∧ am_kf w a ci = some () := by
  unfold am_kfS at h1
  split at h1
  · rename_i o fl c fs hr
    obtain ⟨a, e, rfl, ha, ho, hn, he, hov⟩ := am_rv_in hI hv hr
    obtain ⟨vs, rfl, hvs⟩ := hov
    refine ⟨a, rfl, ?_⟩
    unfold am_kf
    rw [he]
    dsimp only
    rw [if_pos h1]
  · rename_i r hr
    obtain ⟨a, rfl, ha⟩ := am_rv_ro hI hv hr
    obtain ⟨Er, b, e, hrl, he, hov⟩ := hI.role ha
    split at h1
    · rename_i Er' c ts hrl'
      have hz := hrl.symm.trans hrl'
      obtain ⟨rfl, rfl⟩ := Prod.mk.inj (Option.some.inj hz)
      obtain ⟨vs, rfl, hvs⟩ := hov
      refine ⟨a, rfl, ?_⟩
      unfold am_kf
      rw [he]
      dsimp only
      rw [if_pos h1]
    · cases h1
  · cases h1
theorem am_ar_ok (hI : am_IV K σ τ ρ h w) {v : am_SV} {x : Value} (hv : am_VV σ τ ρ v x) {t : Nat} {n : am_I} {ct : am_Ct} (h1 : am_ar h v = some (t, n, ct)) : ∃ a k A, x = .ref a ∧ w.1 a = some (.inl (t, k, A)) ∧ am_ev σ n = some (k : Int) ∧ am_CT σ τ ρ k ct A ∧ ∀ o, v = .inr (.inr (.inl o)) → τ[o]? = some a := by
  unfold am_ar at h1
  split at h1
  · rename_i o fl b hr
    obtain ⟨a, e, rfl, ha, ho, hn, he, hov⟩ := am_rv_in hI hv hr
    obtain rfl := Option.some.inj h1
    obtain ⟨k, A, rfl, hk, hA⟩ := hov
    refine ⟨a, k, A, rfl, he, hk, hA, fun o' ho' => ?_⟩
    subst ho'
    obtain ⟨a', ha', e'⟩ := hv
    cases e'
    exact ha'
  · rename_i r hr
    obtain ⟨a, rfl, ha⟩ := am_rv_ro hI hv hr
    obtain ⟨Er, b, e, hrl, he, hov⟩ := hI.role ha
    split at h1
    · rename_i Er' b' hrl'
      have hz := hrl.symm.trans hrl'
      obtain ⟨rfl, rfl⟩ := Prod.mk.inj (Option.some.inj hz)
      split at h1
      · obtain rfl := Option.some.inj h1
        obtain ⟨k, A, rfl, rfl, hA⟩ := hov
        refine ⟨a, k, A, rfl, he, rfl, am_CT_mo am_nil_mo hA, fun o' ho' => ?_⟩
        subst ho'
        obtain ⟨a', ha', e'⟩ := hv
        cases e'
        exact ha'
      · cases h1
    · cases h1
  · cases h1
theorem am_ktS_ok (hI : am_IV K σ τ ρ h w) {v : am_SV} {x : Value} (hv : am_VV σ τ ρ v x) {t : Nat} (h1 : am_ktS h v t = true) : ∃ a, x = .ref a ∧ am_kt w a t = some () := by
  unfold am_ktS at h1
  split at h1
  · rename_i b hb
    obtain ⟨t', n, ct⟩ := b
    obtain ⟨a, k, A, rfl, he, -⟩ := am_ar_ok hI hv hb
    refine ⟨a, rfl, ?_⟩
    unfold am_kt
    rw [he]
    dsimp only
    rw [if_pos (Nat.eq_of_beq_eq_true h1)]
  · cases h1
theorem am_ix_ok (hI : am_IV K σ τ ρ h w) {n q : am_I} {k : Nat} {i : Int32} (hn : am_ev σ n = some (k : Int)) (hq : am_ev σ q = some i.toInt) (h1 : am_ix h n q = true) : ¬ (i < 0 ∨ k ≤ i.toNatClampNeg) ∧ (i.toNatClampNeg : Int) = i.toInt ∧ i.toNatClampNeg < k := by
  have b1 := am_bd_ok hI.EB hq
  have b2 := am_bd_ok hI.EB hn
  unfold am_ix at h1
  rw [Bool.and_eq_true, am_le_ok, Bool.or_eq_true, am_lt_ok] at h1
  have h0 : 0 ≤ i.toInt := by omega
  have hc : (i.toNatClampNeg : Int) = i.toInt := by
    show ((i.toInt.toNat : Nat) : Int) = _
    omega
  have hlt : i.toInt < (k : Int) := by
    rcases h1.2 with h2 | h2
    · omega
    · split at h2
      · rename_i u v e1 e2
        obtain ⟨z, hz, hc⟩ := List.any_eq_true.mp h2
        simp only [Bool.and_eq_true] at hc
        obtain ⟨⟨⟨c1, c2⟩, c3⟩, c4⟩ := hc
        have hR := hI.LI z hz
        unfold am_R1 at hR
        rw [if_pos (Nat.eq_of_beq_eq_true c1)] at hR
        obtain ⟨x, y, r1, r2, r3⟩ := hR
        have k1 := am_ev_of ((am_oe_ok c2).trans e1.symm) r1 hq
        have k2 := am_ev_of ((am_oe_ok c3).trans e2.symm) r2 hn
        rw [am_lt_ok] at c4
        omega
      · cases h2
  have hlt2 : i.toNatClampNeg < k := by omega
  refine ⟨fun hh => ?_, hc, hlt2⟩
  rcases hh with hh | hh
  · have h3 : i.toInt < (0 : Int32).toInt := Int32.lt_iff_toInt_lt.mp hh
    have h4 : (0 : Int32).toInt = 0 := rfl
    omega
  · omega
theorem am_riS_ok (hI : am_IV K σ τ ρ h w) {v : am_SV} {x : Value} (hv : am_VV σ τ ρ v x) {q : am_I} {i : Int32} (hq : am_ev σ q = some i.toInt) {t : Nat} {p : am_I × am_Hp} (h1 : am_riS t h v q = some p) : ∃ a z, x = .ref a ∧ am_ri t w a i = some z ∧ am_Nw K σ τ ρ w p z.toInt := by
  unfold am_riS at h1
  split at h1
  · rename_i t' n b hb
    obtain ⟨a, k, A, rfl, he, hn, hA, hτ⟩ := am_ar_ok hI hv hb
    obtain ⟨f, rfl, hf⟩ := hA
    split at h1
    · rename_i hc
      rw [Bool.and_eq_true] at hc
      obtain ⟨k1, k2, k3⟩ := am_ix_ok hI hn hq hc.2
      have hb2 := hf _ k3
      refine ⟨a, f i.toNatClampNeg, rfl, ?_, ?_⟩
      · unfold am_ri
        rw [he]
        dsimp only
        rw [if_pos (Nat.eq_of_beq_eq_true hc.1), if_neg k1]
      · split at h1
        · rename_i o
          split at h1
          · rename_i h8
            have h8 := Nat.eq_of_beq_eq_true h8
            subst h8
            obtain rfl := Option.some.inj h1
            have ha := hτ o rfl
            refine am_memo_ok hI hb2 (fun z hz => ?_) (fun σ' z hs hz => ?_)
            · unfold am_R1 at hz
              rw [if_neg (show ¬ (3 : Nat) = 0 by decide), if_pos rfl] at hz
              obtain ⟨o', a', k', f', i', e1, e2, e3, e4, e5⟩ := hz
              have eo : (o : Int) = (o' : Int) := congrArg Prod.snd e1
              have eo : o = o' := by omega
              subst eo
              have ea : a' = a := Option.some.inj (e2.symm.trans ha)
              subst ea
              rw [he] at e3
              cases e3
              have ei : i' = i := Int32.toInt_inj.mp (Option.some.inj (e4.symm.trans hq))
              subst ei
              exact e5
            · unfold am_R1
              rw [if_neg (show ¬ (3 : Nat) = 0 by decide), if_pos rfl]
              exact ⟨o, a, k, f, i, rfl, ha, he, am_ev_mo hs hq, hz⟩
          · obtain rfl := Option.some.inj h1
            exact am_fr_ok hI hb2.1 hb2.2
        · obtain rfl := Option.some.inj h1
          exact am_fr_ok hI hb2.1 hb2.2
    · cases h1
  · cases h1
theorem am_rlS_ok (hI : am_IV K σ τ ρ h w) {v : am_SV} {x : Value} (hv : am_VV σ τ ρ v x) {q : am_I} {i : Int32} (hq : am_ev σ q = some i.toInt) (h1 : am_rlS h v q = true) : ∃ a z, x = .ref a ∧ am_rl w a i = some z := by
  unfold am_rlS at h1
  split at h1
  · rename_i t' n b hb
    obtain ⟨a, k, A, rfl, he, hn, hA, hτ⟩ := am_ar_ok hI hv hb
    obtain ⟨f, rfl⟩ := hA
    rw [Bool.and_eq_true] at h1
    obtain ⟨k1, k2, k3⟩ := am_ix_ok hI hn hq h1.2
    refine ⟨a, f i.toNatClampNeg, rfl, ?_⟩
    unfold am_rl
    rw [he]
    dsimp only
    rw [if_pos (Nat.eq_of_beq_eq_true h1.1), if_neg k1]
  · cases h1
theorem am_rq_at {a : Nat} {t k : Nat} {f : Nat → Option Nat} (he : w.1 a = some (.inl (t, k, .inr (.inr (.inr (.inr f)))))) (ht : (Nat.beq t 4 || Nat.beq t 5 || Nat.beq t 6) = true) {i : Int32} (hi : ¬ (i < 0 ∨ k ≤ i.toNatClampNeg)) : am_rq w a i = some (va_rf (f i.toNatClampNeg)) := by
  rw [Bool.or_eq_true, Bool.or_eq_true] at ht
  have ht : t = 4 ∨ t = 5 ∨ t = 6 := by
    rcases ht with (ht | ht) | ht
    · exact Or.inl (Nat.eq_of_beq_eq_true ht)
    · exact Or.inr (Or.inl (Nat.eq_of_beq_eq_true ht))
    · exact Or.inr (Or.inr (Nat.eq_of_beq_eq_true ht))
  unfold am_rq
  rw [he]
  dsimp only
  rw [if_pos ht, if_neg hi]
theorem am_ve_ok {u v : am_SV} (h1 : am_ve u v = true) : u = v := by
  unfold am_ve at h1
  split at h1
  · rw [Nat.eq_of_beq_eq_true h1]
  · rw [Nat.eq_of_beq_eq_true h1]
  · rw [Nat.eq_of_beq_eq_true h1]
  · cases h1
theorem am_rqE_ok {l : List am_SV} {x : am_SV} {lo : Nat} : ∀ {n : Nat}, am_rqE l x lo n = true → ∀ j, j < n → ∃ y, l[lo + j]? = some y ∧ x = y
  | n + 1, h1, j, hj => by
    rw [am_rqE, Bool.and_eq_true] at h1
    by_cases hjn : j = n
    · subst hjn
      have h2 := h1.1
      split at h2
      · rename_i y hy; exact ⟨y, hy, am_ve_ok h2⟩
      · cases h2
    · exact am_rqE_ok h1.2 j (by omega)
theorem am_rqL_ok {q : am_I} {lo : Int} {l : List am_SV} : ∀ {n : Nat} {r : List (am_SV × am_Hp)}, am_rqL h q lo l n = some r → ∀ j, j < n → ∃ y, l[lo.toNat + j]? = some y ∧ (y, am_req h q (none, lo + (j : Int))) ∈ r := by
  intro n
  induction n with
  | zero => intro r _ j hj; omega
  | succ n ih =>
    intro r h1 j hj
    obtain ⟨r1, e1, h1⟩ := Option.bind_eq_some_iff.mp h1
    obtain ⟨y, e2, h1⟩ := Option.bind_eq_some_iff.mp h1
    obtain rfl := Option.some.inj h1
    by_cases hjn : j = n
    · subst hjn; exact ⟨y, e2, List.mem_cons_self⟩
    · obtain ⟨y', k1, k2⟩ := ih e1 j (by omega)
      exact ⟨y', k1, List.mem_cons_of_mem _ k2⟩
theorem am_rqS_ok (hI : am_IV K σ τ ρ h w) {v : am_SV} {x : Value} (hv : am_VV σ τ ρ v x) {q : am_I} {i : Int32} (hq : am_ev σ q = some i.toInt) {l : List (am_SV × am_Hp)} (h1 : am_rqS h v q = some l) : ∃ a y p, p ∈ l ∧ x = .ref a ∧ am_rq w a i = some y ∧ am_IV K σ τ ρ p.2 w ∧ am_VV σ τ ρ p.1 y := by
  unfold am_rqS at h1
  split at h1
  · rename_i t' n r hb
    obtain ⟨a, k, A, rfl, he, hn, hA, hτ⟩ := am_ar_ok hI hv hb
    obtain ⟨f, rfl, hf⟩ := hA
    split at h1
    · rename_i hc
      rw [Bool.and_eq_true] at hc
      obtain ⟨k1, k2, k3⟩ := am_ix_ok hI hn hq hc.2
      obtain rfl := Option.some.inj h1
      obtain ⟨c, hc1, hc2⟩ := hf _ k3
      refine ⟨a, _, _, List.mem_singleton.mpr rfl, rfl, am_rq_at he hc.1 k1, hI, ?_⟩
      rw [hc1]
      exact ⟨c, hc2, rfl⟩
    · cases h1
  · rename_i t' n l0 hb
    obtain ⟨a, k, A, rfl, he, hn, hA, hτ⟩ := am_ar_ok hI hv hb
    obtain ⟨f, rfl, hl0, hf⟩ := hA
    split at h1
    · rename_i hc
      rw [Bool.and_eq_true] at hc
      obtain ⟨k1, k2, k3⟩ := am_ix_ok hI hn hq hc.2
      have hr := am_rq_at he hc.1 k1
      split at h1
      · rename_i kk hkk
        have e := am_kn_ok hI.EB hq hkk
        obtain ⟨y, hy, rfl⟩ := Option.map_eq_some_iff.mp h1
        refine ⟨a, _, _, List.mem_singleton.mpr rfl, rfl, hr, hI, ?_⟩
        have e2 : kk.toNat = i.toNatClampNeg := by rw [← e]; rfl
        rw [e2] at hy
        exact hf _ _ hy
      · split at h1
        · cases h1
        · rename_i y0 l1
          have b1 := am_bd_ok hI.EB hq
          have h0 := hc.2
          unfold am_ix at h0
          rw [Bool.and_eq_true, am_le_ok] at h0
          have h0 := h0.1
          have e1 : (am_bd h.1 q).1.toNat + (i.toInt - (am_bd h.1 q).1).toNat = i.toNatClampNeg := by omega
          split at h1
          · rename_i x0 hx0
            split at h1
            · rename_i hall
              obtain rfl := Option.some.inj h1
              refine ⟨a, _, _, List.mem_singleton.mpr rfl, rfl, hr, hI, ?_⟩
              obtain ⟨y, hy, he⟩ := am_rqE_ok hall (i.toInt - (am_bd h.1 q).1).toNat (by omega)
              rw [e1] at hy
              rw [he]
              exact hf _ _ hy
            · obtain ⟨y, hy, hm⟩ := am_rqL_ok h1 (i.toInt - (am_bd h.1 q).1).toNat (by omega)
              have e2 : (am_bd h.1 q).1 + ((i.toInt - (am_bd h.1 q).1).toNat : Int) = i.toInt := by omega
              rw [e1] at hy
              rw [e2] at hm
              exact ⟨a, _, _, hm, rfl, hr, am_req_ok hI hq rfl, hf _ _ hy⟩
          · cases h1
    · cases h1
  · cases h1
theorem am_wiS_ok (hI : am_IV K σ τ ρ h w) {v : am_SV} {x : Value} (hv : am_VV σ τ ρ v x) {q r : am_I} {i z : Int32} (hq : am_ev σ q = some i.toInt) (hz : am_ev σ r = some z.toInt) {t : Nat} {h' : am_Hp} (h1 : am_wiS t h v q r = some h') : ∃ a w', x = .ref a ∧ am_wi t w a i z = some w' ∧ am_IV K σ τ ρ h' w' ∧ w'.2 = w.2 := by
  have bz := am_bd_ok hI.EB hz
  unfold am_wiS at h1
  split at h1
  · rename_i o t' n b hr
    obtain ⟨a, e, rfl, ha, ho, hn, he, hov⟩ := am_rv_in hI hv hr
    obtain ⟨k, A, rfl, hk, f, rfl, hf⟩ := hov
    split at h1
    · rename_i hc
      rw [Bool.and_eq_true, Bool.and_eq_true] at hc
      obtain ⟨⟨c1, c2⟩, c3⟩ := hc
      have c1 := Nat.eq_of_beq_eq_true c1
      subst c1
      have c2 := Nat.blt_eq.mp c2
      obtain ⟨k1, k2, k3⟩ := am_ix_ok hI hk hq c3
      obtain rfl := Option.some.inj h1
      refine ⟨a, am_pt w a (.inl (t', k, .inl (upd f i.toNatClampNeg z))), rfl, ?_, am_IV_wr hI ho ha he (fun t x q => by cases q; exact c2) ⟨k, _, rfl, hk, _, rfl, fun j hj => ?_⟩, rfl⟩
      · unfold am_wi
        rw [he]
        dsimp only
        rw [if_pos rfl, if_neg k1]
      · have m1 := am_mi_le b.1 (am_bd h.1 r).1
        have m2 := am_mx_ge b.2 (am_bd h.1 r).2
        unfold upd
        (try dsimp only)
        split
        · omega
        · have := hf j hj; omega
    · cases h1
  · rename_i r0 hr
    obtain ⟨a, rfl, ha⟩ := am_rv_ro hI hv hr
    obtain ⟨Er, b0, e, hrl, he, hov⟩ := hI.role ha
    split at h1
    · rename_i Er' t' n b hrl'
      have hzz := hrl.symm.trans hrl'
      obtain ⟨rfl, rfl⟩ := Prod.mk.inj (Option.some.inj hzz)
      obtain ⟨k, A, rfl, rfl, f, rfl, hf⟩ := hov
      split at h1
      · rename_i hc
        simp only [Bool.and_eq_true, am_le_ok] at hc
        obtain ⟨⟨⟨⟨⟨⟨c1, c2⟩, c3⟩, c4⟩, c5⟩, c6⟩, c7⟩ := hc
        have c1 := Nat.eq_of_beq_eq_true c1
        subst c1
        have c2 := Nat.blt_eq.mp c2
        obtain ⟨k1, k2, k3⟩ := am_ix_ok hI rfl hq c5
        obtain rfl := Option.some.inj h1
        refine ⟨a, am_pt w a (.inl (t', k, .inl (upd f i.toNatClampNeg z))), rfl, ?_, am_IV_wrR hI ha he (fun t x q => by cases q; exact c2) hrl ⟨k, _, rfl, rfl, _, rfl, fun j hj => ?_⟩, rfl⟩
        · unfold am_wi
          rw [he]
          dsimp only
          rw [if_pos rfl, if_neg k1]
        · unfold upd
          (try dsimp only)
          split
          · omega
          · exact hf j hj
      · cases h1
    · cases h1
  · cases h1
theorem am_wlS_ok (hI : am_IV K σ τ ρ h w) {v : am_SV} {x : Value} (hv : am_VV σ τ ρ v x) {q : am_I} {i : Int32} (hq : am_ev σ q = some i.toInt) (z : Int64) (h1 : am_wlS h v q = true) : ∃ a w', x = .ref a ∧ am_wl w a i z = some w' ∧ am_IV K σ τ ρ h w' ∧ w'.2 = w.2 := by
  unfold am_wlS at h1
  split at h1
  · rename_i o t' n u hr
    obtain ⟨a, e, rfl, ha, ho, hn, he, hov⟩ := am_rv_in hI hv hr
    obtain ⟨k, A, rfl, hk, f, rfl⟩ := hov
    rw [Bool.and_eq_true] at h1
    have c1 := Nat.eq_of_beq_eq_true h1.1
    subst c1
    obtain ⟨k1, k2, k3⟩ := am_ix_ok hI hk hq h1.2
    have hset : am_ob h o (.inr (1, n, .inr (.inl u))) = h := by
      unfold am_ob
      have : h.2.1.set o (.inl (true, .inr (1, n, .inr (.inl u)))) = h.2.1 := by
        apply List.ext_getElem?
        intro j
        by_cases hj : o = j
        · subst hj
          rw [List.getElem?_set_self (List.getElem?_eq_some_iff.mp ho).1]
          exact ho.symm
        · rw [List.getElem?_set_ne hj]
      rw [this]
    have hI' := am_IV_wr (b := .inr (1, n, .inr (.inl u))) hI ho ha he (e := .inl (1, k, .inr (.inl (vp_updL f i.toNatClampNeg z)))) (fun t x q => by cases q; omega) ⟨k, _, rfl, hk, _, rfl⟩
    rw [hset] at hI'
    refine ⟨a, _, rfl, ?_, hI', rfl⟩
    unfold am_wl
    rw [he]
    dsimp only
    rw [if_pos rfl, if_neg k1]
  · rename_i r0 hr
    obtain ⟨a, rfl, ha⟩ := am_rv_ro hI hv hr
    obtain ⟨Er, b0, e, hrl, he, hov⟩ := hI.role ha
    split at h1
    · rename_i Er' t' n u hrl'
      have hzz := hrl.symm.trans hrl'
      obtain ⟨rfl, rfl⟩ := Prod.mk.inj (Option.some.inj hzz)
      obtain ⟨k, A, rfl, rfl, f, rfl⟩ := hov
      simp only [Bool.and_eq_true] at h1
      obtain ⟨⟨⟨c1, c2⟩, c3⟩, c4⟩ := h1
      have c1 := Nat.eq_of_beq_eq_true c1
      subst c1
      obtain ⟨k1, k2, k3⟩ := am_ix_ok hI rfl hq c4
      refine ⟨a, am_pt w a (.inl (1, k, .inr (.inl (vp_updL f i.toNatClampNeg z)))), rfl, ?_, am_IV_wrR hI ha he (fun t x q => by cases q; omega) hrl ⟨k, _, rfl, rfl, _, rfl⟩, rfl⟩
      unfold am_wl
      rw [he]
      dsimp only
      rw [if_pos rfl, if_neg k1]
    · cases h1
  · cases h1
theorem am_wqS_ok (hI : am_IV K σ τ ρ h w) {v : am_SV} {x : Value} (hv : am_VV σ τ ρ v x) {u : am_SV} {y : Value} (hu : am_VV σ τ ρ u y) {q : am_I} {i : Int32} (hq : am_ev σ q = some i.toInt) {t ci : Nat} {h' : am_Hp} (h1 : am_wqS t ci h v q u = some h') : ∃ a c w', x = .ref a ∧ y = .ref c ∧ am_wq t ci w a i c = some w' ∧ am_IV K σ τ ρ h' w' ∧ w'.2 = w.2 := by
  unfold am_wqS at h1
  split at h1
  · rename_i o t' n l hr
    obtain ⟨a, e, rfl, ha, ho, hn, he, hov⟩ := am_rv_in hI hv hr
    obtain ⟨k, A, rfl, hk, f, rfl, hl, hf⟩ := hov
    split at h1
    · rename_i hc
      simp only [Bool.and_eq_true] at hc
      obtain ⟨⟨⟨⟨⟨c1, c2⟩, c3⟩, c4⟩, c5⟩, c6⟩ := hc
      have c1 := Nat.eq_of_beq_eq_true c1
      subst c1
      have c2 := Nat.blt_eq.mp c2
      obtain ⟨k1, k2, k3⟩ := am_ix_ok hI hk hq c3
      obtain ⟨c, rfl, hkf⟩ := am_kfS_ok hI hu c4
      have c5 := Nat.blt_eq.mp c5
      have c6 := Nat.blt_eq.mp c6
      split at h1
      · rename_i kk hkk
        have e2 := am_kn_ok hI.EB hq hkk
        have e3 : kk.toNat = i.toNatClampNeg := by rw [← e2]; rfl
        obtain rfl := Option.some.inj h1
        refine ⟨a, c, am_pt w a (.inl (t', k, .inr (.inr (.inr (.inr (va_up f i.toNatClampNeg (some c))))))), rfl, rfl, ?_, am_IV_wr hI ho ha he (fun t x q => by cases q; exact c2) ⟨k, _, rfl, hk, _, rfl, by rw [List.length_set]; exact hl, fun j v' hj => ?_⟩, rfl⟩
        · unfold am_wq
          rw [he]
          dsimp only
          rw [if_pos ⟨rfl, c5, c6⟩, if_neg k1, hkf]
          rfl
        · rw [e3] at hj
          unfold va_up
          (try dsimp only)
          by_cases hji : i.toNatClampNeg = j
          · subst hji
            rw [List.getElem?_set_self (by omega)] at hj
            obtain rfl := Option.some.inj hj
            rw [if_pos rfl]
            exact hu
          · rw [List.getElem?_set_ne hji] at hj
            rw [if_neg (Ne.symm hji)]
            exact hf j v' hj
      · cases h1
    · cases h1
  · cases h1
end AMOP
