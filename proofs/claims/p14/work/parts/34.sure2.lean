/-! what the certificate says of BumpwardModel$Walker.sure. Mine. -/
def am_sureE (g : Nat) : am_Et := ((95, 0), [], [], [some (am_sR 45), none], [], [], g, [(.inl (some (.inl (none, Int.negSucc 0))), [], [], (Int.ofNat 0, Int.ofNat 0), (Int.ofNat 0, Int.ofNat 0)), (.inl (some (.inl (some 0, Int.ofNat 0))), [(Int.ofNat 0, Int.ofNat 143)], [], (Int.ofNat 0, Int.ofNat 0), (Int.ofNat 0, Int.ofNat 0))])
theorem am_rol45 : ∃ Er, am_role 45 = some (Er, .inl (10, [.inl (some 0, 0), .inl (some 1, 0), .inl (some 2, 0), am_sR 43, am_sR 42, .inl (some 3, 0), .inl (some 4, 0), .inl (some 5, 0), .inl (some 6, 0)])) := ⟨_, rfl⟩
theorem am_rol43 : am_role 43 = some ([], .inr (2, (none, 144), .inl (0, 1))) := rfl
theorem am_FR_rf (os : am_Os) (τ : List Nat) (ρ : am_Rh) (w : am_Wd) : am_FR os τ ρ w ρ w := ⟨fun _ _ h => h, fun _ _ _ h => ⟨h, rfl⟩, fun _ _ _ _ _ => rfl, Nat.le_refl _, rfl, Nat.le_refl _⟩
theorem am_sure_ok (g : Nat) (σ : List Int) : am_OkAt (am_sureE g) σ := by
  intro τ ρ w lsC stC hG hl hs
  have hl : am_LS σ τ ρ [some (am_sR 45), none] lsC := hl
  have hs : am_VS σ τ ρ [] stC := hs
  have hG : am_GS σ τ ρ ([], [], [], (0, 0), (0, 0)) w := hG
  cases stC with
  | cons x t => exact hs.elim
  | nil =>
    match lsC, hl with
    | [some x, none], hl =>
      obtain ⟨a, ha, rfl⟩ : ∃ a, ρ a = some 45 ∧ x = .ref a := hl.1
      obtain ⟨Er0, hr0⟩ := am_rol45
      obtain ⟨Er, b0, e, hr, he, hv⟩ := hG.2.2.2.1 a 45 ha
      cases hr0.symm.trans hr
      obtain ⟨vs, rfl, hvs⟩ := hv
      match vs, hvs with
      | [v0, v1, v2, v3, v4, v5, v6, v7, v8], hvs =>
        obtain ⟨b, hb, rfl⟩ : ∃ b, ρ b = some 43 ∧ v3 = .ref b := hvs.2.2.2.1
        obtain ⟨Er', b', e', hr', he', hv'⟩ := hG.2.2.2.1 b 43 hb
        cases am_rol43.symm.trans hr'
        obtain ⟨k, A, rfl, hn, f, rfl, hf⟩ := hv'
        have hk : k = 144 := by
          have := congrArg Prod.snd hn
          have h9 : (144 : Int) = (k : Int) := this
          omega
        subst hk
        have hgf : am_gf w a 10 3 = some (.ref b) := by
          unfold am_gf
          rw [he]
          rfl
        have hkf : am_kf w a 10 = some () := by
          unfold am_kf
          rw [he]
          rfl
        obtain ⟨v, hv1, hv2⟩ := am_sure_run hgf hkf he'
        have hσ : σ = [] := by
          have := hG.1.1
          exact List.eq_nil_of_length_eq_zero this.symm
        have hτ : τ = [] := by
          have := hG.2.1.1
          exact List.eq_nil_of_length_eq_zero this.symm
        subst hσ
        subst hτ
        refine ⟨_, hv1, ?_⟩
        rcases hv2 with rfl | ⟨i, hi, rfl⟩
        · exact ⟨_, List.mem_cons_self, [], [], ρ, hG, am_FR_rf _ _ _ _, ⟨_, rfl, _, rfl, rfl⟩, fun _ _ q => (by cases q), (by show (w.2.1 : Int) ≤ (w.2.1 : Int) + am_cs [] (0, 0); simp [am_cs]), (by show (w.2.2.1 : Int) ≤ (w.2.2.1 : Int) + am_cs [] (0, 0); simp [am_cs])⟩
        · have h1 : (Int32.ofNat i).toInt = (i : Int) := Int32.toInt_ofNat_of_lt (by omega)
          refine ⟨_, List.mem_cons_of_mem _ List.mem_cons_self, [(i : Int)], [], ρ, ⟨am_EB_app hG.1 (Int.natCast_nonneg i) (show (i : Int) ≤ 143 by omega), ⟨rfl, List.nodup_nil, fun o b a q => (by cases q), fun o r a q => (by cases q)⟩, (fun z q => (by cases q)), hG.2.2.2⟩, am_FR_rf _ _ _ _, ⟨_, rfl, _, rfl, ?_⟩, fun _ _ q => (by cases q), (by show (w.2.1 : Int) ≤ (w.2.1 : Int) + am_cs [] (0, 0); simp [am_cs]), (by show (w.2.2.1 : Int) ≤ (w.2.2.1 : Int) + am_cs [] (0, 0); simp [am_cs])⟩
          rw [h1]
          show am_ev [(i : Int)] (some 0, 0) = some (i : Int)
          simp [am_ev]
theorem am_sure_st (T : Nat → Option am_Et) (g : Nat) : am_Step T (am_sureE g) := ⟨rfl, fun σ _ => am_sure_ok g σ⟩
