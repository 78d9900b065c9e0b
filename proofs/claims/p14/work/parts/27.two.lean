/-! ONE INSTRUCTION ON SYMBOLS IS RIGHT, on. Mine (laid by wip/gen/abprf.py). -/
section AMTW
variable {K : am_K0} {σ σ' : List Int} {τ τ' : List Nat} {ρ ρ' : am_Rh} {h h' : am_Hp} {w w' : am_Wd} {rl pc : Nat} {an : List Nat} {ls : am_SL} {lsC : am_Lc} {st : List am_SV} {stC : List Value} {acts : List am_Ac}
theorem am_p_lushr (hI : am_IV K σ τ ρ h w) (hl : am_LS σ τ ρ ls lsC) (hs : am_VS σ τ ρ st stC) (h1 : am_ab rl pc (.lushr) an ls st h = some acts) : am_TT K σ τ ρ w acts (am_stp pc (.lushr) an lsC stC w) := by
  unfold am_ab at h1
  dsimp only at h1
  split at h1
  · rename_i u v r
    have hq0 := am_VS_c hs
    clear hs
    obtain ⟨_, _, rfl, ⟨yi, rfl, hy⟩, hs⟩ := hq0
    have hq0 := am_VS_c hs
    clear hs
    obtain ⟨_, _, rfl, hv, hs⟩ := hq0
    split at h1
    · rename_i hc
      obtain ⟨j2, rfl⟩ := am_isL_ok hv hc
      obtain rfl := Option.some.inj h1
      unfold am_stp; dsimp only
      exact am_t1 hI hl ⟨⟨_, rfl⟩, hs⟩
    · cases h1
  · cases h1
theorem am_p_lcmp (hI : am_IV K σ τ ρ h w) (hl : am_LS σ τ ρ ls lsC) (hs : am_VS σ τ ρ st stC) (h1 : am_ab rl pc (.lcmp) an ls st h = some acts) : am_TT K σ τ ρ w acts (am_stp pc (.lcmp) an lsC stC w) := by
  unfold am_ab at h1
  dsimp only at h1
  split at h1
  · rename_i u v r
    have hq0 := am_VS_c hs
    clear hs
    obtain ⟨_, _, rfl, hu, hs⟩ := hq0
    have hq0 := am_VS_c hs
    clear hs
    obtain ⟨_, _, rfl, hv, hs⟩ := hq0
    split at h1
    · rename_i hc
      rw [Bool.and_eq_true] at hc
      obtain ⟨j1, rfl⟩ := am_isL_ok hu hc.1
      obtain ⟨j2, rfl⟩ := am_isL_ok hv hc.2
      obtain rfl := Option.some.inj h1
      have hb : -1 ≤ (lg_cmp j2 j1).toInt ∧ (lg_cmp j2 j1).toInt ≤ 1 := by
        unfold lg_cmp
        split
        · decide
        · split <;> decide
      unfold am_stp; dsimp only
      exact am_t3 (am_fr_ok hI hb.1 hb.2) hl hs
    · cases h1
  · cases h1
theorem am_p_i2l (hI : am_IV K σ τ ρ h w) (hl : am_LS σ τ ρ ls lsC) (hs : am_VS σ τ ρ st stC) (h1 : am_ab rl pc (.i2l) an ls st h = some acts) : am_TT K σ τ ρ w acts (am_stp pc (.i2l) an lsC stC w) := by
  unfold am_ab at h1
  dsimp only at h1
  split at h1
  · rename_i x r
    have hq0 := am_VS_c hs
    clear hs
    obtain ⟨_, _, rfl, ⟨xi, rfl, hx⟩, hs⟩ := hq0
    obtain rfl := Option.some.inj h1
    unfold am_stp; dsimp only
    exact am_t1 hI hl ⟨⟨_, rfl⟩, hs⟩
  · cases h1
theorem am_p_l2i (hI : am_IV K σ τ ρ h w) (hl : am_LS σ τ ρ ls lsC) (hs : am_VS σ τ ρ st stC) (h1 : am_ab rl pc (.l2i) an ls st h = some acts) : am_TT K σ τ ρ w acts (am_stp pc (.l2i) an lsC stC w) := by
  unfold am_ab at h1
  dsimp only at h1
  split at h1
  · rename_i v r
    have hq0 := am_VS_c hs
    clear hs
    obtain ⟨_, _, rfl, hv, hs⟩ := hq0
    split at h1
    · rename_i hc
      obtain ⟨j, rfl⟩ := am_isL_ok hv hc
      obtain rfl := Option.some.inj h1
      have hb := am_rg j.toInt32
      unfold am_stp; dsimp only
      exact am_t3 (am_fr_ok hI hb.1 hb.2) hl hs
    · cases h1
  · cases h1
theorem am_p_i2d (hI : am_IV K σ τ ρ h w) (hl : am_LS σ τ ρ ls lsC) (hs : am_VS σ τ ρ st stC) (h1 : am_ab rl pc (.i2d) an ls st h = some acts) : am_TT K σ τ ρ w acts (am_stp pc (.i2d) an lsC stC w) := by
  unfold am_ab at h1
  dsimp only at h1
  split at h1
  · rename_i x r
    have hq0 := am_VS_c hs
    clear hs
    obtain ⟨_, _, rfl, ⟨xi, rfl, hx⟩, hs⟩ := hq0
    split at h1
    · rename_i hc
      have hb := am_bw_ok hI hx hc
      have hb2 := am_bd_ok hI.EB hx
      obtain rfl := Option.some.inj h1
      unfold am_stp; dsimp only
      refine am_t1 hI hl ⟨⟨_, ?_, rfl⟩, hs⟩
      rw [List.mem_map]
      refine ⟨xi.toNatClampNeg, ?_, ?_⟩
      · rw [List.mem_range]
        show xi.toInt.toNat < _
        omega
      · rw [Int32.ofNat_toNatClampNeg xi (Int32.le_iff_toInt_le.mpr hb.1)]
    · cases h1
  · cases h1
theorem am_p_d2l (hI : am_IV K σ τ ρ h w) (hl : am_LS σ τ ρ ls lsC) (hs : am_VS σ τ ρ st stC) (h1 : am_ab rl pc (.d2l) an ls st h = some acts) : am_TT K σ τ ρ w acts (am_stp pc (.d2l) an lsC stC w) := by
  unfold am_ab at h1
  dsimp only at h1
  split at h1
  · rename_i v r
    have hq0 := am_VS_c hs
    clear hs
    obtain ⟨_, _, rfl, hv, hs⟩ := hq0
    split at h1
    · rename_i hc
      obtain ⟨j, rfl⟩ := am_dS_ok hv hc
      obtain rfl := Option.some.inj h1
      unfold am_stp; dsimp only
      exact am_t1 hI hl ⟨⟨_, rfl⟩, hs⟩
    · cases h1
  · cases h1
theorem am_p_ddiv (hI : am_IV K σ τ ρ h w) (hl : am_LS σ τ ρ ls lsC) (hs : am_VS σ τ ρ st stC) (h1 : am_ab rl pc (.ddiv) an ls st h = some acts) : am_TT K σ τ ρ w acts (am_stp pc (.ddiv) an lsC stC w) := by
  unfold am_ab at h1
  dsimp only at h1
  split at h1
  · rename_i m l r
    have hq0 := am_VS_c hs
    clear hs
    obtain ⟨_, _, rfl, ⟨d1, m1, rfl⟩, hs⟩ := hq0
    have hq0 := am_VS_c hs
    clear hs
    obtain ⟨_, _, rfl, ⟨d2, m2, rfl⟩, hs⟩ := hq0
    split at h1
    · rename_i hc
      have h2 := of_decide_eq_true (List.all_eq_true.mp (List.all_eq_true.mp hc d2 m2) d1 m1)
      obtain rfl := Option.some.inj h1
      unfold am_stp; dsimp only
      rw [if_pos h2]
      exact am_t1 hI hl ⟨⟨_, List.mem_flatMap.mpr ⟨d2, m2, List.mem_map.mpr ⟨d1, m1, rfl⟩⟩, rfl⟩, hs⟩
    · cases h1
  · cases h1
theorem am_p_dmul (hI : am_IV K σ τ ρ h w) (hl : am_LS σ τ ρ ls lsC) (hs : am_VS σ τ ρ st stC) (h1 : am_ab rl pc (.dmul) an ls st h = some acts) : am_TT K σ τ ρ w acts (am_stp pc (.dmul) an lsC stC w) := by
  unfold am_ab at h1
  dsimp only at h1
  split at h1
  · rename_i m l r
    have hq0 := am_VS_c hs
    clear hs
    obtain ⟨_, _, rfl, ⟨d1, m1, rfl⟩, hs⟩ := hq0
    have hq0 := am_VS_c hs
    clear hs
    obtain ⟨_, _, rfl, ⟨d2, m2, rfl⟩, hs⟩ := hq0
    split at h1
    · rename_i hc
      have h2 := of_decide_eq_true (List.all_eq_true.mp (List.all_eq_true.mp hc d2 m2) d1 m1)
      obtain rfl := Option.some.inj h1
      unfold am_stp; dsimp only
      rw [if_pos h2]
      exact am_t1 hI hl ⟨⟨_, List.mem_flatMap.mpr ⟨d2, m2, List.mem_map.mpr ⟨d1, m1, rfl⟩⟩, rfl⟩, hs⟩
    · cases h1
  · cases h1
theorem am_p_dup (hI : am_IV K σ τ ρ h w) (hl : am_LS σ τ ρ ls lsC) (hs : am_VS σ τ ρ st stC) (h1 : am_ab rl pc (.dup) an ls st h = some acts) : am_TT K σ τ ρ w acts (am_stp pc (.dup) an lsC stC w) := by
  unfold am_ab at h1
  dsimp only at h1
  split at h1
  · rename_i v r
    have hq0 := am_VS_c hs
    clear hs
    obtain ⟨x1, _, rfl, hv, hs⟩ := hq0
    split at h1
    · cases h1
    · rename_i hc
      obtain rfl := Option.some.inj h1
      unfold am_stp; dsimp only
      rw [if_neg (by rw [am_cS_ok hv]; exact hc)]
      exact am_t1 hI hl ⟨hv, hv, hs⟩
  · cases h1
theorem am_p_dup_x1 (hI : am_IV K σ τ ρ h w) (hl : am_LS σ τ ρ ls lsC) (hs : am_VS σ τ ρ st stC) (h1 : am_ab rl pc (.dup_x1) an ls st h = some acts) : am_TT K σ τ ρ w acts (am_stp pc (.dup_x1) an lsC stC w) := by
  unfold am_ab at h1
  dsimp only at h1
  split at h1
  · rename_i v u r
    have hq0 := am_VS_c hs
    clear hs
    obtain ⟨x1, _, rfl, hv, hs⟩ := hq0
    have hq0 := am_VS_c hs
    clear hs
    obtain ⟨x2, _, rfl, hu, hs⟩ := hq0
    split at h1
    · cases h1
    · rename_i hc
      obtain rfl := Option.some.inj h1
      unfold am_stp; dsimp only
      rw [if_neg (by rw [am_cS_ok hv, am_cS_ok hu]; rw [Bool.or_eq_true] at hc; exact hc)]
      exact am_t1 hI hl ⟨hv, hu, hv, hs⟩
  · cases h1
theorem am_p_dup2 (hI : am_IV K σ τ ρ h w) (hl : am_LS σ τ ρ ls lsC) (hs : am_VS σ τ ρ st stC) (h1 : am_ab rl pc (.dup2) an ls st h = some acts) : am_TT K σ τ ρ w acts (am_stp pc (.dup2) an lsC stC w) := by
  unfold am_ab at h1
  dsimp only at h1
  split at h1
  · rename_i v u r
    have hq0 := am_VS_c hs
    clear hs
    obtain ⟨x1, _, rfl, hv, hs⟩ := hq0
    have hq0 := am_VS_c hs
    clear hs
    obtain ⟨x2, _, rfl, hu, hs⟩ := hq0
    split at h1
    · rename_i hc
      obtain rfl := Option.some.inj h1
      unfold am_stp; dsimp only
      rw [if_pos (by rw [am_cS_ok hv]; exact hc)]
      exact am_t1 hI hl ⟨hv, hv, hu, hs⟩
    · rename_i hc
      split at h1
      · cases h1
      · rename_i hd
        obtain rfl := Option.some.inj h1
        unfold am_stp; dsimp only
        rw [if_neg (by rw [am_cS_ok hv]; exact hc), if_neg (by rw [am_cS_ok hu]; exact hd)]
        exact am_t1 hI hl ⟨hv, hu, hv, hu, hs⟩
  · cases h1
theorem am_p_pop (hI : am_IV K σ τ ρ h w) (hl : am_LS σ τ ρ ls lsC) (hs : am_VS σ τ ρ st stC) (h1 : am_ab rl pc (.pop) an ls st h = some acts) : am_TT K σ τ ρ w acts (am_stp pc (.pop) an lsC stC w) := by
  unfold am_ab at h1
  dsimp only at h1
  split at h1
  · rename_i v r
    have hq0 := am_VS_c hs
    clear hs
    obtain ⟨x1, _, rfl, hv, hs⟩ := hq0
    split at h1
    · cases h1
    · rename_i hc
      obtain rfl := Option.some.inj h1
      unfold am_stp; dsimp only
      rw [if_neg (by rw [am_cS_ok hv]; exact hc)]
      exact am_t1 hI hl hs
  · cases h1
theorem am_p_pop2 (hI : am_IV K σ τ ρ h w) (hl : am_LS σ τ ρ ls lsC) (hs : am_VS σ τ ρ st stC) (h1 : am_ab rl pc (.pop2) an ls st h = some acts) : am_TT K σ τ ρ w acts (am_stp pc (.pop2) an lsC stC w) := by
  unfold am_ab at h1
  dsimp only at h1
  split at h1
  · rename_i v r
    have hq0 := am_VS_c hs
    clear hs
    obtain ⟨x1, _, rfl, hv, hs⟩ := hq0
    split at h1
    · rename_i hc
      obtain rfl := Option.some.inj h1
      unfold am_stp; dsimp only
      rw [if_pos (by rw [am_cS_ok hv]; exact hc)]
      exact am_t1 hI hl hs
    · cases h1
  · cases h1
theorem am_p_goto {o : _} (hI : am_IV K σ τ ρ h w) (hl : am_LS σ τ ρ ls lsC) (hs : am_VS σ τ ρ st stC) (h1 : am_ab rl pc (.goto o) an ls st h = some acts) : am_TT K σ τ ρ w acts (am_stp pc (.goto o) an lsC stC w) := by
  unfold am_ab at h1
  dsimp only at h1
  obtain ⟨t, ht, h1⟩ := Option.bind_eq_some_iff.mp h1
  obtain rfl := Option.some.inj h1
  unfold am_stp; dsimp only
  rw [ht]
  exact am_t1 hI hl hs
theorem am_p_ifCond {c : _} {o : _} (hI : am_IV K σ τ ρ h w) (hl : am_LS σ τ ρ ls lsC) (hs : am_VS σ τ ρ st stC) (h1 : am_ab rl pc (.ifCond c o) an ls st h = some acts) : am_TT K σ τ ρ w acts (am_stp pc (.ifCond c o) an lsC stC w) := by
  unfold am_ab at h1
  dsimp only at h1
  split at h1
  · rename_i x r
    have hq0 := am_VS_c hs
    clear hs
    obtain ⟨_, _, rfl, ⟨xi, rfl, hx⟩, hs⟩ := hq0
    unfold am_stp; dsimp only
    exact am_fk_ok hI hl hs hx (y := 0) rfl h1
  · cases h1
theorem am_p_if_icmp {c : _} {o : _} (hI : am_IV K σ τ ρ h w) (hl : am_LS σ τ ρ ls lsC) (hs : am_VS σ τ ρ st stC) (h1 : am_ab rl pc (.if_icmp c o) an ls st h = some acts) : am_TT K σ τ ρ w acts (am_stp pc (.if_icmp c o) an lsC stC w) := by
  unfold am_ab at h1
  dsimp only at h1
  split at h1
  · rename_i y x r
    have hq0 := am_VS_c hs
    clear hs
    obtain ⟨_, _, rfl, ⟨yi, rfl, hy⟩, hs⟩ := hq0
    have hq0 := am_VS_c hs
    clear hs
    obtain ⟨_, _, rfl, ⟨xi, rfl, hx⟩, hs⟩ := hq0
    unfold am_stp; dsimp only
    exact am_fk_ok hI hl hs hx hy h1
  · cases h1
theorem am_p_if_acmp {c : _} {o : _} (hI : am_IV K σ τ ρ h w) (hl : am_LS σ τ ρ ls lsC) (hs : am_VS σ τ ρ st stC) (h1 : am_ab rl pc (.if_acmp c o) an ls st h = some acts) : am_TT K σ τ ρ w acts (am_stp pc (.if_acmp c o) an lsC stC w) := by
  unfold am_ab at h1
  dsimp only at h1
  split at h1
  · rename_i u v r
    have hq0 := am_VS_c hs
    clear hs
    obtain ⟨_, _, rfl, hu, hs⟩ := hq0
    have hq0 := am_VS_c hs
    clear hs
    obtain ⟨_, _, rfl, hv, hs⟩ := hq0
    obtain ⟨t, ht, h1⟩ := Option.bind_eq_some_iff.mp h1
    have key : ∀ {ob : Option Bool} {b : Bool} {a c' : Nat}, (∀ b, ob = some b → (b = true ↔ a = c')) → ob = some b → decide (a = c') = b := by
      intro ob b a c' k e
      have := k b e
      cases b with
      | true => exact decide_eq_true (this.mp rfl)
      | false => exact decide_eq_false (fun z => by have := this.mpr z; cases this)
    split at h1
    · rename_i b hb
      obtain ⟨a, c', rfl, rfl, hk⟩ := am_sm_ok hI hv hu hb
      have hd := key hk rfl
      obtain rfl := Option.some.inj h1
      unfold am_stp; dsimp only
      unfold am_br
      cases c with
      | eq =>
        dsimp only
        rw [hd]
        cases b with
        | true => rw [if_pos rfl, ht]; exact am_t1 hI hl hs
        | false => rw [if_neg (by decide)]; exact am_t1 hI hl hs
      | ne =>
        dsimp only
        have hd2 : decide (¬ a = c') = !b := by rw [← hd]; by_cases z : a = c' <;> simp [z]
        rw [hd2]
        cases b with
        | true => rw [if_neg (by decide)]; exact am_t1 hI hl hs
        | false => rw [if_pos (by decide), ht]; exact am_t1 hI hl hs
    · rename_i hb
      obtain ⟨a, c', rfl, rfl, hk⟩ := am_sm_ok hI hv hu hb
      obtain rfl := Option.some.inj h1
      unfold am_stp; dsimp only
      exact am_br_any ht hI hl hs _
    · cases h1
  · cases h1
theorem am_p_ifnull {o : _} (hI : am_IV K σ τ ρ h w) (hl : am_LS σ τ ρ ls lsC) (hs : am_VS σ τ ρ st stC) (h1 : am_ab rl pc (.ifnull o) an ls st h = some acts) : am_TT K σ τ ρ w acts (am_stp pc (.ifnull o) an lsC stC w) := by
  unfold am_ab at h1
  dsimp only at h1
  split at h1
  · rename_i v r
    have hq0 := am_VS_c hs
    clear hs
    obtain ⟨_, _, rfl, hv, hs⟩ := hq0
    obtain ⟨t, ht, h1⟩ := Option.bind_eq_some_iff.mp h1
    split at h1
    · rename_i hb
      obtain rfl := (am_nul_ok hv).1 hb
      obtain rfl := Option.some.inj h1
      unfold am_stp; dsimp only
      rw [ht]; exact am_t1 hI hl hs
    · rename_i hb
      obtain ⟨a, rfl⟩ := (am_nul_ok hv).2 hb
      obtain rfl := Option.some.inj h1
      unfold am_stp; dsimp only
      exact am_t1 hI hl hs
    · split at h1
      · rename_i hc
        obtain rfl := Option.some.inj h1
        unfold am_stp
        rcases am_rS_ok hv hc with rfl | ⟨a, rfl⟩
        · dsimp only
          rw [ht]; exact ⟨_, List.mem_cons_self, _, σ, τ, ρ, rfl, am_mo_rf _ _ _, rfl, hI, hl, hs, am_ge_rf w⟩
        · dsimp only
          exact ⟨_, List.mem_cons_of_mem _ List.mem_cons_self, _, σ, τ, ρ, rfl, am_mo_rf _ _ _, rfl, hI, hl, hs, am_ge_rf w⟩
      · cases h1
  · cases h1
theorem am_p_ifnonnull {o : _} (hI : am_IV K σ τ ρ h w) (hl : am_LS σ τ ρ ls lsC) (hs : am_VS σ τ ρ st stC) (h1 : am_ab rl pc (.ifnonnull o) an ls st h = some acts) : am_TT K σ τ ρ w acts (am_stp pc (.ifnonnull o) an lsC stC w) := by
  unfold am_ab at h1
  dsimp only at h1
  split at h1
  · rename_i v r
    have hq0 := am_VS_c hs
    clear hs
    obtain ⟨_, _, rfl, hv, hs⟩ := hq0
    obtain ⟨t, ht, h1⟩ := Option.bind_eq_some_iff.mp h1
    split at h1
    · rename_i hb
      obtain rfl := (am_nul_ok hv).1 hb
      obtain rfl := Option.some.inj h1
      unfold am_stp; dsimp only
      exact am_t1 hI hl hs
    · rename_i hb
      obtain ⟨a, rfl⟩ := (am_nul_ok hv).2 hb
      obtain rfl := Option.some.inj h1
      unfold am_stp; dsimp only
      rw [ht]; exact am_t1 hI hl hs
    · split at h1
      · rename_i hc
        obtain rfl := Option.some.inj h1
        unfold am_stp
        rcases am_rS_ok hv hc with rfl | ⟨a, rfl⟩
        · dsimp only
          exact ⟨_, List.mem_cons_self, _, σ, τ, ρ, rfl, am_mo_rf _ _ _, rfl, hI, hl, hs, am_ge_rf w⟩
        · dsimp only
          rw [ht]; exact ⟨_, List.mem_cons_of_mem _ List.mem_cons_self, _, σ, τ, ρ, rfl, am_mo_rf _ _ _, rfl, hI, hl, hs, am_ge_rf w⟩
      · cases h1
  · cases h1
theorem am_p_lookupswitch {d : _} {ps : _} (hI : am_IV K σ τ ρ h w) (hl : am_LS σ τ ρ ls lsC) (hs : am_VS σ τ ρ st stC) (h1 : am_ab rl pc (.lookupswitch d ps) an ls st h = some acts) : am_TT K σ τ ρ w acts (am_stp pc (.lookupswitch d ps) an lsC stC w) := by
  unfold am_ab at h1
  dsimp only at h1
  split at h1
  · rename_i x r
    have hq0 := am_VS_c hs
    clear hs
    obtain ⟨_, _, rfl, ⟨xi, rfl, hx⟩, hs⟩ := hq0
    split at h1
    · rename_i hc
      unfold am_stp; dsimp only
      rw [if_pos hc]
      exact am_swS_ok hl hs hx hI h1
    · cases h1
  · cases h1
theorem am_p_tableswitch {d : _} {lo : _} {hi : _} {os : _} (hI : am_IV K σ τ ρ h w) (hl : am_LS σ τ ρ ls lsC) (hs : am_VS σ τ ρ st stC) (h1 : am_ab rl pc (.tableswitch d lo hi os) an ls st h = some acts) : am_TT K σ τ ρ w acts (am_stp pc (.tableswitch d lo hi os) an lsC stC w) := by
  unfold am_ab at h1
  dsimp only at h1
  split at h1
  · rename_i x r
    have hq0 := am_VS_c hs
    clear hs
    obtain ⟨_, _, rfl, ⟨xi, rfl, hx⟩, hs⟩ := hq0
    split at h1
    · rename_i hc
      unfold am_stp; dsimp only
      rw [if_pos hc]
      exact am_swS_ok hl hs hx hI h1
    · cases h1
  · cases h1
theorem am_p_getfield {i : _} (hI : am_IV K σ τ ρ h w) (hl : am_LS σ τ ρ ls lsC) (hs : am_VS σ τ ρ st stC) (h1 : am_ab rl pc (.getfield i) an ls st h = some acts) : am_TT K σ τ ρ w acts (am_stp pc (.getfield i) an lsC stC w) := by
  unfold am_ab at h1
  dsimp only at h1
  split at h1
  · split at h1
    · rename_i v r
      have hq0 := am_VS_c hs
      clear hs
      obtain ⟨_, _, rfl, hv, hs⟩ := hq0
      obtain ⟨p, hp, h1⟩ := Option.bind_eq_some_iff.mp h1
      obtain rfl := Option.some.inj h1
      obtain ⟨a, y, rfl, hg, hN⟩ := am_getS_ok hI hv hp
      unfold am_stp; dsimp only
      rw [hg]
      exact am_t2 hN hl hs
    · cases h1
  · cases h1
theorem am_p_putfield {i : _} (hI : am_IV K σ τ ρ h w) (hl : am_LS σ τ ρ ls lsC) (hs : am_VS σ τ ρ st stC) (h1 : am_ab rl pc (.putfield i) an ls st h = some acts) : am_TT K σ τ ρ w acts (am_stp pc (.putfield i) an lsC stC w) := by
  unfold am_ab at h1
  dsimp only at h1
  split at h1
  · split at h1
    · rename_i x v r
      have hq0 := am_VS_c hs
      clear hs
      obtain ⟨_, _, rfl, hx, hs⟩ := hq0
      have hq0 := am_VS_c hs
      clear hs
      obtain ⟨_, _, rfl, hv, hs⟩ := hq0
      obtain ⟨h', hp, h1⟩ := Option.bind_eq_some_iff.mp h1
      obtain rfl := Option.some.inj h1
      obtain ⟨a, w', ρ', rfl, hok, hpf, hI', hm, hw⟩ := am_putS_ok hI hv hx hp
      unfold am_stp; dsimp only
      rw [if_pos hok, hpf]
      exact am_t0 hm hI' (am_LS_mo hm hl) (am_VS_mo hm hs) (am_ge_2 hw)
    · cases h1
  · cases h1
theorem am_p_iaload (hI : am_IV K σ τ ρ h w) (hl : am_LS σ τ ρ ls lsC) (hs : am_VS σ τ ρ st stC) (h1 : am_ab rl pc (.iaload) an ls st h = some acts) : am_TT K σ τ ρ w acts (am_stp pc (.iaload) an lsC stC w) := by
  unfold am_ab at h1
  dsimp only at h1
  split at h1
  · rename_i q v r
    have hq0 := am_VS_c hs
    clear hs
    obtain ⟨_, _, rfl, ⟨qi, rfl, hq⟩, hs⟩ := hq0
    have hq0 := am_VS_c hs
    clear hs
    obtain ⟨_, _, rfl, hv, hs⟩ := hq0
    obtain ⟨p, hp, h1⟩ := Option.bind_eq_some_iff.mp h1
    obtain rfl := Option.some.inj h1
    obtain ⟨a, z, rfl, hg, hN⟩ := am_riS_ok hI hv hq hp
    unfold am_stp; dsimp only
    rw [hg]
    exact am_t3 hN hl hs
  · cases h1
theorem am_p_baload (hI : am_IV K σ τ ρ h w) (hl : am_LS σ τ ρ ls lsC) (hs : am_VS σ τ ρ st stC) (h1 : am_ab rl pc (.baload) an ls st h = some acts) : am_TT K σ τ ρ w acts (am_stp pc (.baload) an lsC stC w) := by
  unfold am_ab at h1
  dsimp only at h1
  split at h1
  · split at h1
    · rename_i q v r
      have hq0 := am_VS_c hs
      clear hs
      obtain ⟨_, _, rfl, ⟨qi, rfl, hq⟩, hs⟩ := hq0
      have hq0 := am_VS_c hs
      clear hs
      obtain ⟨_, _, rfl, hv, hs⟩ := hq0
      obtain ⟨p, hp, h1⟩ := Option.bind_eq_some_iff.mp h1
      obtain rfl := Option.some.inj h1
      obtain ⟨a, z, rfl, hg, hN⟩ := am_riS_ok hI hv hq hp
      unfold am_stp; dsimp only
      rw [hg]
      exact am_t3 hN hl hs
    · cases h1
  · cases h1
theorem am_p_laload (hI : am_IV K σ τ ρ h w) (hl : am_LS σ τ ρ ls lsC) (hs : am_VS σ τ ρ st stC) (h1 : am_ab rl pc (.laload) an ls st h = some acts) : am_TT K σ τ ρ w acts (am_stp pc (.laload) an lsC stC w) := by
  unfold am_ab at h1
  dsimp only at h1
  split at h1
  · rename_i q v r
    have hq0 := am_VS_c hs
    clear hs
    obtain ⟨_, _, rfl, ⟨qi, rfl, hq⟩, hs⟩ := hq0
    have hq0 := am_VS_c hs
    clear hs
    obtain ⟨_, _, rfl, hv, hs⟩ := hq0
    split at h1
    · rename_i hc
      obtain rfl := Option.some.inj h1
      obtain ⟨a, z, rfl, hg⟩ := am_rlS_ok hI hv hq hc
      unfold am_stp; dsimp only
      rw [hg]
      exact am_t1 hI hl ⟨⟨_, rfl⟩, hs⟩
    · cases h1
  · cases h1
theorem am_p_aaload (hI : am_IV K σ τ ρ h w) (hl : am_LS σ τ ρ ls lsC) (hs : am_VS σ τ ρ st stC) (h1 : am_ab rl pc (.aaload) an ls st h = some acts) : am_TT K σ τ ρ w acts (am_stp pc (.aaload) an lsC stC w) := by
  unfold am_ab at h1
  dsimp only at h1
  split at h1
  · rename_i q v r
    have hq0 := am_VS_c hs
    clear hs
    obtain ⟨_, _, rfl, ⟨qi, rfl, hq⟩, hs⟩ := hq0
    have hq0 := am_VS_c hs
    clear hs
    obtain ⟨_, _, rfl, hv, hs⟩ := hq0
    obtain ⟨l, hp, h1⟩ := Option.bind_eq_some_iff.mp h1
    obtain rfl := Option.some.inj h1
    obtain ⟨a, y, p, hm, rfl, hg, hI', hy⟩ := am_rqS_ok hI hv hq hp
    unfold am_stp; dsimp only
    rw [hg]
    exact ⟨_, List.mem_map.mpr ⟨p, hm, rfl⟩, _, σ, τ, ρ, rfl, am_mo_rf _ _ _, rfl, hI', hl, ⟨hy, hs⟩, am_ge_rf w⟩
  · cases h1
theorem am_p_iastore (hI : am_IV K σ τ ρ h w) (hl : am_LS σ τ ρ ls lsC) (hs : am_VS σ τ ρ st stC) (h1 : am_ab rl pc (.iastore) an ls st h = some acts) : am_TT K σ τ ρ w acts (am_stp pc (.iastore) an lsC stC w) := by
  unfold am_ab at h1
  dsimp only at h1
  split at h1
  · rename_i x q v r
    have hq0 := am_VS_c hs
    clear hs
    obtain ⟨_, _, rfl, ⟨xi, rfl, hx⟩, hs⟩ := hq0
    have hq0 := am_VS_c hs
    clear hs
    obtain ⟨_, _, rfl, ⟨qi, rfl, hq⟩, hs⟩ := hq0
    have hq0 := am_VS_c hs
    clear hs
    obtain ⟨_, _, rfl, hv, hs⟩ := hq0
    obtain ⟨h', hp, h1⟩ := Option.bind_eq_some_iff.mp h1
    obtain rfl := Option.some.inj h1
    obtain ⟨a, w', rfl, hg, hI', hw⟩ := am_wiS_ok hI hv hq hx hp
    unfold am_stp; dsimp only
    rw [hg]
    exact am_t0 (am_mo_rf _ _ _) hI' hl hs (am_ge_2 hw)
  · cases h1
theorem am_p_bastore (hI : am_IV K σ τ ρ h w) (hl : am_LS σ τ ρ ls lsC) (hs : am_VS σ τ ρ st stC) (h1 : am_ab rl pc (.bastore) an ls st h = some acts) : am_TT K σ τ ρ w acts (am_stp pc (.bastore) an lsC stC w) := by
  unfold am_ab at h1
  dsimp only at h1
  split at h1
  · rename_i t an'
    split at h1
    · rename_i x q v r
      have hq0 := am_VS_c hs
      clear hs
      obtain ⟨_, _, rfl, ⟨xi, rfl, hx⟩, hs⟩ := hq0
      have hq0 := am_VS_c hs
      clear hs
      obtain ⟨_, _, rfl, ⟨qi, rfl, hq⟩, hs⟩ := hq0
      have hq0 := am_VS_c hs
      clear hs
      obtain ⟨_, _, rfl, hv, hs⟩ := hq0
      split at h1
      · rename_i hc
        have hok : am_ok (if t = 2 then .boolean else .byte) (.int xi) = true := by
          unfold am_bbS at hc
          split at hc
          · rename_i ht
            rw [if_pos (Nat.eq_of_beq_eq_true ht)]
            exact am_okS_ok (ty := .boolean) (v := .inl x) hI ⟨xi, rfl, hx⟩ hc
          · rename_i ht
            rw [if_neg (fun e => by rw [e] at ht; cases ht)]
            exact am_okS_ok (ty := .byte) (v := .inl x) hI ⟨xi, rfl, hx⟩ hc
        have hn : vp_nar (if t = 2 then .boolean else .byte) xi = xi := by
          unfold vp_nar
          rw [(am_ok_fit hok).1]
        obtain ⟨h', hp, h1⟩ := Option.bind_eq_some_iff.mp h1
        obtain rfl := Option.some.inj h1
        obtain ⟨a, w', rfl, hg, hI', hw⟩ := am_wiS_ok hI hv hq hx hp
        unfold am_stp; dsimp only
        rw [hn, hg]
        exact am_t0 (am_mo_rf _ _ _) hI' hl hs (am_ge_2 hw)
      · cases h1
    · cases h1
  · cases h1
theorem am_p_lastore (hI : am_IV K σ τ ρ h w) (hl : am_LS σ τ ρ ls lsC) (hs : am_VS σ τ ρ st stC) (h1 : am_ab rl pc (.lastore) an ls st h = some acts) : am_TT K σ τ ρ w acts (am_stp pc (.lastore) an lsC stC w) := by
  unfold am_ab at h1
  dsimp only at h1
  split at h1
  · rename_i u q v r
    have hq0 := am_VS_c hs
    clear hs
    obtain ⟨_, _, rfl, hu, hs⟩ := hq0
    have hq0 := am_VS_c hs
    clear hs
    obtain ⟨_, _, rfl, ⟨qi, rfl, hq⟩, hs⟩ := hq0
    have hq0 := am_VS_c hs
    clear hs
    obtain ⟨_, _, rfl, hv, hs⟩ := hq0
    split at h1
    · rename_i hc
      rw [Bool.and_eq_true] at hc
      obtain ⟨j, rfl⟩ := am_isL_ok hu hc.1
      obtain rfl := Option.some.inj h1
      obtain ⟨a, w', rfl, hg, hI', hw⟩ := am_wlS_ok hI hv hq j hc.2
      unfold am_stp; dsimp only
      rw [hg]
      exact am_t0 (am_mo_rf _ _ _) hI' hl hs (am_ge_2 hw)
    · cases h1
  · cases h1
theorem am_p_aastore (hI : am_IV K σ τ ρ h w) (hl : am_LS σ τ ρ ls lsC) (hs : am_VS σ τ ρ st stC) (h1 : am_ab rl pc (.aastore) an ls st h = some acts) : am_TT K σ τ ρ w acts (am_stp pc (.aastore) an lsC stC w) := by
  unfold am_ab at h1
  dsimp only at h1
  split at h1
  · split at h1
    · rename_i x q v r
      have hq0 := am_VS_c hs
      clear hs
      obtain ⟨_, _, rfl, hx, hs⟩ := hq0
      have hq0 := am_VS_c hs
      clear hs
      obtain ⟨_, _, rfl, ⟨qi, rfl, hq⟩, hs⟩ := hq0
      have hq0 := am_VS_c hs
      clear hs
      obtain ⟨_, _, rfl, hv, hs⟩ := hq0
      obtain ⟨h', hp, h1⟩ := Option.bind_eq_some_iff.mp h1
      obtain rfl := Option.some.inj h1
      obtain ⟨a, c, w', rfl, rfl, hg, hI', hw⟩ := am_wqS_ok hI hv hx hq hp
      unfold am_stp; dsimp only
      rw [hg]
      exact am_t0 (am_mo_rf _ _ _) hI' hl hs (am_ge_2 hw)
    · cases h1
  · cases h1
theorem am_p_arraylength (hI : am_IV K σ τ ρ h w) (hl : am_LS σ τ ρ ls lsC) (hs : am_VS σ τ ρ st stC) (h1 : am_ab rl pc (.arraylength) an ls st h = some acts) : am_TT K σ τ ρ w acts (am_stp pc (.arraylength) an lsC stC w) := by
  unfold am_ab at h1
  dsimp only at h1
  split at h1
  · rename_i v r
    have hq0 := am_VS_c hs
    clear hs
    obtain ⟨_, _, rfl, hv, hs⟩ := hq0
    split at h1
    · rename_i t n ct hr
      split at h1
      · rename_i hc
        rw [Bool.and_eq_true, am_le_ok] at hc
        obtain ⟨a, k, A, rfl, he, hk, -⟩ := am_ar_ok hI hv hr
        have hb := am_bd_ok hI.EB hk
        obtain rfl := Option.some.inj h1
        have h2 : am_len w a = some k := by
          unfold am_len
          rw [he]
          dsimp only
          rw [if_pos (Nat.blt_eq.mp hc.1)]
        have h3 : (Int32.ofNat k).toInt = (k : Int) := by
          apply Int32.toInt_ofNat_of_lt
          have h4 := hc.2
          unfold am_hi at h4
          omega
        unfold am_stp; dsimp only
        rw [h2]
        exact am_t1 hI hl ⟨⟨_, rfl, by rw [h3]; exact hk⟩, hs⟩
      · cases h1
    · cases h1
  · cases h1
theorem am_p_newarray {i : _} (hI : am_IV K σ τ ρ h w) (hl : am_LS σ τ ρ ls lsC) (hs : am_VS σ τ ρ st stC) (h1 : am_ab rl pc (.newarray i) an ls st h = some acts) : am_TT K σ τ ρ w acts (am_stp pc (.newarray i) an lsC stC w) := by
  unfold am_ab at h1
  dsimp only at h1
  split at h1
  · split at h1
    · rename_i n r
      have hq0 := am_VS_c hs
      clear hs
      obtain ⟨_, _, rfl, ⟨ni, rfl, hn⟩, hs⟩ := hq0
      split at h1
      · obtain ⟨p, hp, h1⟩ := Option.bind_eq_some_iff.mp h1
        obtain rfl := Option.some.inj h1
        obtain ⟨w', hg, hI', hv, hge⟩ := am_naS_ok hI hn hp
        have hm : am_mo σ σ τ (τ ++ [w.2.1]) ρ ρ := ⟨List.prefix_rfl, List.prefix_append _ _, fun _ _ h => h⟩
        unfold am_stp; dsimp only
        rw [hg]
        exact am_t0 hm hI' (am_LS_mo hm hl) ⟨hv, am_VS_mo hm hs⟩ hge
      · cases h1
    · cases h1
  · cases h1
theorem am_p_anewarray {i : _} (hI : am_IV K σ τ ρ h w) (hl : am_LS σ τ ρ ls lsC) (hs : am_VS σ τ ρ st stC) (h1 : am_ab rl pc (.anewarray i) an ls st h = some acts) : am_TT K σ τ ρ w acts (am_stp pc (.anewarray i) an lsC stC w) := by
  unfold am_ab at h1
  dsimp only at h1
  split at h1
  · split at h1
    · rename_i n r
      have hq0 := am_VS_c hs
      clear hs
      obtain ⟨_, _, rfl, ⟨ni, rfl, hn⟩, hs⟩ := hq0
      split at h1
      · obtain ⟨p, hp, h1⟩ := Option.bind_eq_some_iff.mp h1
        obtain rfl := Option.some.inj h1
        obtain ⟨w', hg, hI', hv, hge⟩ := am_naS_ok hI hn hp
        have hm : am_mo σ σ τ (τ ++ [w.2.1]) ρ ρ := ⟨List.prefix_rfl, List.prefix_append _ _, fun _ _ h => h⟩
        unfold am_stp; dsimp only
        rw [hg]
        exact am_t0 hm hI' (am_LS_mo hm hl) ⟨hv, am_VS_mo hm hs⟩ hge
      · cases h1
    · cases h1
  · cases h1
theorem am_p_multianewarray {i : _} {d : _} (hI : am_IV K σ τ ρ h w) (hl : am_LS σ τ ρ ls lsC) (hs : am_VS σ τ ρ st stC) (h1 : am_ab rl pc (.multianewarray i d) an ls st h = some acts) : am_TT K σ τ ρ w acts (am_stp pc (.multianewarray i d) an lsC stC w) := by
  unfold am_ab at h1
  dsimp only at h1
  split at h1
  · rename_i k n r
    have hq0 := am_VS_c hs
    clear hs
    obtain ⟨_, _, rfl, ⟨ki, rfl, hk⟩, hs⟩ := hq0
    have hq0 := am_VS_c hs
    clear hs
    obtain ⟨_, _, rfl, ⟨ni, rfl, hn⟩, hs⟩ := hq0
    obtain ⟨p, hp, h1⟩ := Option.bind_eq_some_iff.mp h1
    obtain rfl := Option.some.inj h1
    obtain ⟨w', ρ', hg, hI', hv, hm⟩ := am_mnS_ok hI hn hk hp
    have hge : am_ge w w' := by
      unfold am_mn at hg
      split at hg
      · cases hg
      · obtain rfl := Option.some.inj hg
        exact am_ge_tr (am_ge_nw _ _ _) (am_ge_rows _ _ _)
    unfold am_stp; dsimp only
    rw [hg]
    exact am_t0 hm hI' (am_LS_mo hm hl) ⟨hv, am_VS_mo hm hs⟩ hge
  · cases h1
theorem am_p_new {i : _} (hI : am_IV K σ τ ρ h w) (hl : am_LS σ τ ρ ls lsC) (hs : am_VS σ τ ρ st stC) (h1 : am_ab rl pc (.new i) an ls st h = some acts) : am_TT K σ τ ρ w acts (am_stp pc (.new i) an lsC stC w) := by
  unfold am_ab at h1
  dsimp only at h1
  split at h1
  · rename_i ci n an'
    split at h1
    · rename_i hc
      rw [Bool.and_eq_true] at hc
      obtain rfl := Option.some.inj h1
      obtain ⟨hI', hv⟩ := am_IV_nw hI (b := .inl (ci, (am_df ci n).map am_vS)) (e := .inr (ci, am_df ci n)) ⟨_, rfl, am_df_ok hc.2⟩ n
      have hm : am_mo σ σ τ (τ ++ [w.2.1]) ρ ρ := ⟨List.prefix_rfl, List.prefix_append _ _, fun _ _ h => h⟩
      unfold am_stp; dsimp only
      exact am_t0 hm hI' (am_LS_mo hm hl) ⟨hv, am_VS_mo hm hs⟩ (am_ge_nw _ _ _)
    · cases h1
  · rename_i a0 x an'
    split at h1
    · rename_i hc
      obtain rfl := Option.some.inj h1
      show am_TT K σ τ ρ w _ (if am_sz stC ≤ 8 then some (.inr (.inr (.inr (am_xn x), am_jk w 1 6))) else none)
      rw [if_pos (am_sz8 hs hc)]
      exact ⟨_, List.mem_singleton.mpr rfl, _, σ, τ, ρ, rfl, am_mo_rf _ _ _, am_IV_jk hI 1 6, rfl, am_ge_jk _ _ _⟩
    · cases h1
  · cases h1
theorem am_p_checkcast {i : _} (hI : am_IV K σ τ ρ h w) (hl : am_LS σ τ ρ ls lsC) (hs : am_VS σ τ ρ st stC) (h1 : am_ab rl pc (.checkcast i) an ls st h = some acts) : am_TT K σ τ ρ w acts (am_stp pc (.checkcast i) an lsC stC w) := by
  unfold am_ab at h1
  dsimp only at h1
  split at h1
  · split at h1
    · rename_i v r
      have hq0 := am_VS_c hs
      clear hs
      obtain ⟨_, _, rfl, hv, hs⟩ := hq0
      split at h1
      · rename_i hc
        obtain ⟨a, rfl, hk⟩ := am_kfS_ok hI hv hc
        obtain rfl := Option.some.inj h1
        show am_TT K σ τ ρ w _ ((am_kf w a _).bind fun _ => am_nx (pc + 3) lsC _ w)
        rw [hk]
        exact am_t1 hI hl ⟨hv, hs⟩
      · cases h1
    · cases h1
  · split at h1
    · rename_i v r
      have hq0 := am_VS_c hs
      clear hs
      obtain ⟨_, _, rfl, hv, hs⟩ := hq0
      split at h1
      · rename_i hc
        obtain ⟨a, rfl, hk⟩ := am_ktS_ok hI hv hc
        obtain rfl := Option.some.inj h1
        show am_TT K σ τ ρ w _ ((am_kt w a _).bind fun _ => am_nx (pc + 3) lsC _ w)
        rw [hk]
        exact am_t1 hI hl ⟨hv, hs⟩
      · cases h1
    · cases h1
  · cases h1
theorem am_p_invokevirtual {i : _} (hI : am_IV K σ τ ρ h w) (hl : am_LS σ τ ρ ls lsC) (hs : am_VS σ τ ρ st stC) (h1 : am_ab rl pc (.invokevirtual i) an ls st h = some acts) : am_TT K σ τ ρ w acts (am_stp pc (.invokevirtual i) an lsC stC w) := by
  unfold am_ab at h1
  dsimp only at h1
  split at h1
  · rename_i a0 an'
    split at h1
    · rename_i ha
      have ha := Nat.eq_of_beq_eq_true ha
      subst ha
      split at h1
      · rename_i v r
        have hq0 := am_VS_c hs
        clear hs
        obtain ⟨_, _, rfl, hv, hs⟩ := hq0
        split at h1
        · rename_i hz
          split at h1
          · rename_i t n u hr
            split at h1
            · rename_i ht
              obtain ⟨a, k, A, rfl, he, hk, ⟨f, rfl⟩, -⟩ := am_ar_ok hI hv hr
              have hk : (n : Int) = (k : Int) := Option.some.inj hk
              have hk : n = k := by omega
              subst hk
              obtain rfl := Option.some.inj h1
              obtain ⟨hI', hv'⟩ := am_IV_nw hI (b := .inr (1, (none, (n : Int)), .inr (.inl ()))) (e := .inl (1, n, .inr (.inl f))) ⟨n, _, rfl, rfl, f, rfl⟩ n
              have hm : am_mo σ σ τ (τ ++ [w.2.1]) ρ ρ := ⟨List.prefix_rfl, List.prefix_append _ _, fun _ _ h => h⟩
              unfold am_stp; dsimp only
              rw [if_pos (am_sz8 hs hz), he]
              dsimp only
              rw [if_pos (Nat.eq_of_beq_eq_true ht)]
              exact am_t0 hm hI' (am_LS_mo hm hl) ⟨hv', am_VS_mo hm hs⟩ (am_ge_nw _ _ _)
            · cases h1
          · cases h1
        · cases h1
      · cases h1
    · rename_i ha
      obtain ⟨m', n, ci, t, b, r, -, rfl, hd, hn, hz, hk, hT, -⟩ := am_clS_ok hI hs h1
      rw [am_q_virt (fun e => ha (by rw [e]; rfl)), hd]
      dsimp only
      rw [if_pos ⟨hn, hz⟩, hk]
      exact hT
  · cases h1
theorem am_p_invokeinterface {i : _} {c : _} (hI : am_IV K σ τ ρ h w) (hl : am_LS σ τ ρ ls lsC) (hs : am_VS σ τ ρ st stC) (h1 : am_ab rl pc (.invokeinterface i c) an ls st h = some acts) : am_TT K σ τ ρ w acts (am_stp pc (.invokeinterface i c) an lsC stC w) := by
  unfold am_ab at h1
  dsimp only at h1
  split at h1
  · rename_i a0 an'
    obtain ⟨m', n, ci, t, b, r, -, rfl, hd, hn, hz, hk, hT, -⟩ := am_clS_ok hI hs h1
    unfold am_stp; dsimp only
    rw [hd]
    dsimp only
    rw [if_pos ⟨hn, hz⟩, hk]
    exact hT
  · cases h1
theorem am_p_invokespecial {i : _} (hI : am_IV K σ τ ρ h w) (hl : am_LS σ τ ρ ls lsC) (hs : am_VS σ τ ρ st stC) (h1 : am_ab rl pc (.invokespecial i) an ls st h = some acts) : am_TT K σ τ ρ w acts (am_stp pc (.invokespecial i) an lsC stC w) := by
  unfold am_ab at h1
  dsimp only at h1
  split at h1
  · rename_i a0 an'
    split at h1
    · rename_i ha
      have ha := Nat.eq_of_beq_eq_true ha
      subst ha
      split at h1
      · rename_i v r
        have hq0 := am_VS_c hs
        clear hs
        obtain ⟨_, _, rfl, hv, hs⟩ := hq0
        split at h1
        · rename_i hc
          rw [Bool.and_eq_true] at hc
          obtain ⟨a, rfl⟩ := am_rv_ref hI hv hc.2
          obtain rfl := Option.some.inj h1
          unfold am_stp; dsimp only
          rw [if_pos (am_sz8 hs hc.1)]
          exact am_t1 hI hl hs
        · cases h1
      · cases h1
    · rename_i ha
      split at h1
      · rename_i hb
        have hb := Nat.eq_of_beq_eq_true hb
        subst hb
        obtain ⟨m', n, ci, t, b, r, -, rfl, hd, hn, hz, hk, hT, -⟩ := am_clS_ok hI hs h1
        rw [am_q_spec2, hd]
        dsimp only
        rw [if_pos ⟨hn, hz⟩, hk]
        exact hT
      · rename_i hb
        split at h1
        · rename_i m' n t
          have hd := am_VS_drop (n := n) hs
          split at h1
          · rename_i v r hv
            rw [hv] at hd
            obtain ⟨x, u, hx, hvx, hu⟩ := am_VS_c hd
            split at h1
            · rename_i hc
              rw [Bool.and_eq_true] at hc
              obtain ⟨a, rfl⟩ := am_rv_ref hI hvx hc.2
              obtain rfl := Option.some.inj h1
              have hlen : n ≤ stC.length := by
                by_cases hz : n ≤ stC.length
                · exact hz
                · rw [List.drop_eq_nil_of_le (by omega)] at hx; cases hx
              rw [am_q_spec (fun e => ha (by rw [e]; rfl)) (fun e => hb (by rw [e]; rfl)), hx]
              dsimp only
              rw [if_pos ⟨hlen, am_sz8 hu hc.1⟩]
              exact ⟨_, List.mem_singleton.mpr rfl, _, σ, τ, ρ, rfl, am_mo_rf _ _ _, rfl, rfl, hI, ⟨hvx, am_VS_rev (am_VS_take hs)⟩, hu⟩
            · cases h1
          · cases h1
        · cases h1
  · cases h1
theorem am_p_invokestatic {i : _} (hI : am_IV K σ τ ρ h w) (hl : am_LS σ τ ρ ls lsC) (hs : am_VS σ τ ρ st stC) (h1 : am_ab rl pc (.invokestatic i) an ls st h = some acts) : am_TT K σ τ ρ w acts (am_stp pc (.invokestatic i) an lsC stC w) := by
  unfold am_ab at h1
  dsimp only at h1
  split at h1
  · rename_i a0 an'
    split at h1
    · rename_i ha
      have ha := Nat.eq_of_beq_eq_true ha
      subst ha
      split at h1
      · rename_i y x r
        have hq0 := am_VS_c hs
        clear hs
        obtain ⟨_, _, rfl, ⟨yi, rfl, hy⟩, hs⟩ := hq0
        have hq0 := am_VS_c hs
        clear hs
        obtain ⟨_, _, rfl, ⟨xi, rfl, hx⟩, hs⟩ := hq0
        split at h1
        · rename_i hz
          obtain rfl := Option.some.inj h1
          unfold am_stp; dsimp only
          rw [if_pos (am_sz8 hs hz)]
          exact am_t3 (am_o2_ok hI am_gk_max hx hy) hl hs
        · cases h1
      · cases h1
    · rename_i ha1
      split at h1
      · rename_i ha
        have ha := Nat.eq_of_beq_eq_true ha
        subst ha
        split at h1
        · rename_i y x r
          have hq0 := am_VS_c hs
          clear hs
          obtain ⟨_, _, rfl, ⟨yi, rfl, hy⟩, hs⟩ := hq0
          have hq0 := am_VS_c hs
          clear hs
          obtain ⟨_, _, rfl, ⟨xi, rfl, hx⟩, hs⟩ := hq0
          split at h1
          · rename_i hz
            obtain rfl := Option.some.inj h1
            show am_TT K σ τ ρ w _ (if am_sz _ ≤ 8 then am_nx (pc + 3) lsC (.int (if yi < xi then yi else xi) :: _) w else none)
            rw [if_pos (am_sz8 hs hz)]
            exact am_t3 (am_o2_ok hI am_gk_min hx hy) hl hs
          · cases h1
        · cases h1
      · rename_i ha2
        split at h1
        · rename_i ha
          have ha := Nat.eq_of_beq_eq_true ha
          subst ha
          split at h1
          · rename_i x r
            have hq0 := am_VS_c hs
            clear hs
            obtain ⟨_, _, rfl, ⟨xi, rfl, hx⟩, hs⟩ := hq0
            split at h1
            · rename_i hz
              obtain rfl := Option.some.inj h1
              unfold am_stp; dsimp only
              rw [if_pos (am_sz8 hs hz)]
              exact am_t3 (am_o1_ok hI am_gk_abs hx) hl hs
            · cases h1
          · cases h1
        · rename_i ha3
          split at h1
          · rename_i ha
            have ha := Nat.eq_of_beq_eq_true ha
            subst ha
            split at h1
            · rename_i n dp v sp v0 r
              have hq0 := am_VS_c hs
              clear hs
              obtain ⟨_, _, rfl, ⟨ni, rfl, hn⟩, hs⟩ := hq0
              have hq0 := am_VS_c hs
              clear hs
              obtain ⟨_, _, rfl, ⟨di, rfl, hd⟩, hs⟩ := hq0
              have hq0 := am_VS_c hs
              clear hs
              obtain ⟨_, _, rfl, hv, hs⟩ := hq0
              have hq0 := am_VS_c hs
              clear hs
              obtain ⟨_, _, rfl, ⟨si, rfl, hsp⟩, hs⟩ := hq0
              have hq0 := am_VS_c hs
              clear hs
              obtain ⟨_, _, rfl, hv0, hs⟩ := hq0
              split at h1
              · rename_i hz
                obtain ⟨h', hp, h1⟩ := Option.bind_eq_some_iff.mp h1
                obtain rfl := Option.some.inj h1
                obtain ⟨a0, a, w', rfl, rfl, hg, hI', hw⟩ := am_cyS_ok hI hv0 hv hsp hd hn hp
                unfold am_stp; dsimp only
                rw [if_pos (am_sz8 hs hz), hg]
                exact am_t0 (am_mo_rf _ _ _) hI' hl hs (am_ge_2 hw)
              · cases h1
            · cases h1
          · rename_i ha4
            split at h1
            · rename_i m' n t
              split at h1
              · rename_i hc
                rw [Bool.and_eq_true] at hc
                have hd := am_VS_drop (n := n) hs
                have hn := Nat.ble_eq.mp hc.1
                rw [am_VS_len2 hs] at hn
                obtain rfl := Option.some.inj h1
                rw [am_q_stat (fun e => ha1 (by rw [e]; rfl)) (fun e => ha2 (by rw [e]; rfl)) (fun e => ha3 (by rw [e]; rfl)) (fun e => ha4 (by rw [e]; rfl)), if_pos ⟨hn, am_sz8 hd hc.2⟩]
                exact ⟨_, List.mem_singleton.mpr rfl, _, σ, τ, ρ, rfl, am_mo_rf _ _ _, rfl, rfl, hI, am_VS_rev (am_VS_take hs), hd⟩
              · cases h1
            · cases h1
  · cases h1
theorem am_p_ireturn (hI : am_IV K σ τ ρ h w) (hl : am_LS σ τ ρ ls lsC) (hs : am_VS σ τ ρ st stC) (h1 : am_ab rl pc (.ireturn) an ls st h = some acts) : am_TT K σ τ ρ w acts (am_stp pc (.ireturn) an lsC stC w) := by
  unfold am_ab at h1
  dsimp only at h1
  split at h1
  · rename_i t an'
    split at h1
    · rename_i v
      have hq0 := am_VS_c hs
      clear hs
      obtain ⟨_, _, rfl, hv, hs⟩ := hq0
      obtain rfl := am_VS_n hs
      split at h1
      · rename_i hc
        rw [Bool.and_eq_true] at hc
        have hok := am_okS_ok hI hv hc.2
        obtain ⟨i, rfl, hi⟩ := hv
        obtain rfl := Option.some.inj h1
        unfold am_stp; dsimp only
        rw [if_pos ⟨Nat.blt_eq.mp hc.1, hok⟩]
        exact am_tend hI ⟨_, rfl, i, rfl, hi⟩
      · cases h1
    · cases h1
  · cases h1
theorem am_p_lreturn (hI : am_IV K σ τ ρ h w) (hl : am_LS σ τ ρ ls lsC) (hs : am_VS σ τ ρ st stC) (h1 : am_ab rl pc (.lreturn) an ls st h = some acts) : am_TT K σ τ ρ w acts (am_stp pc (.lreturn) an lsC stC w) := by
  unfold am_ab at h1
  dsimp only at h1
  split at h1
  · rename_i v
    have hq0 := am_VS_c hs
    clear hs
    obtain ⟨_, _, rfl, hv, hs⟩ := hq0
    obtain rfl := am_VS_n hs
    split at h1
    · rename_i hc
      obtain ⟨j, rfl⟩ := am_isL_ok hv hc
      obtain rfl := Option.some.inj h1
      unfold am_stp; dsimp only
      exact am_tend hI ⟨_, rfl, hv⟩
    · cases h1
  · cases h1
theorem am_p_dreturn (hI : am_IV K σ τ ρ h w) (hl : am_LS σ τ ρ ls lsC) (hs : am_VS σ τ ρ st stC) (h1 : am_ab rl pc (.dreturn) an ls st h = some acts) : am_TT K σ τ ρ w acts (am_stp pc (.dreturn) an lsC stC w) := by
  unfold am_ab at h1
  dsimp only at h1
  split at h1
  · rename_i v
    have hq0 := am_VS_c hs
    clear hs
    obtain ⟨_, _, rfl, hv, hs⟩ := hq0
    obtain rfl := am_VS_n hs
    split at h1
    · rename_i hc
      obtain ⟨j, rfl⟩ := am_dS_ok hv hc
      obtain rfl := Option.some.inj h1
      unfold am_stp; dsimp only
      exact am_tend hI ⟨_, rfl, hv⟩
    · cases h1
  · cases h1
theorem am_p_areturn (hI : am_IV K σ τ ρ h w) (hl : am_LS σ τ ρ ls lsC) (hs : am_VS σ τ ρ st stC) (h1 : am_ab rl pc (.areturn) an ls st h = some acts) : am_TT K σ τ ρ w acts (am_stp pc (.areturn) an lsC stC w) := by
  unfold am_ab at h1
  dsimp only at h1
  split at h1
  · rename_i v
    have hq0 := am_VS_c hs
    clear hs
    obtain ⟨_, _, rfl, hv, hs⟩ := hq0
    obtain rfl := am_VS_n hs
    split at h1
    · rename_i hc
      obtain ⟨j, rfl⟩ := am_rv_ref hI hv hc
      obtain rfl := Option.some.inj h1
      unfold am_stp; dsimp only
      exact am_tend hI ⟨_, rfl, hv⟩
    · cases h1
  · cases h1
theorem am_p_return_ (hI : am_IV K σ τ ρ h w) (hl : am_LS σ τ ρ ls lsC) (hs : am_VS σ τ ρ st stC) (h1 : am_ab rl pc (.return_) an ls st h = some acts) : am_TT K σ τ ρ w acts (am_stp pc (.return_) an lsC stC w) := by
  unfold am_ab at h1
  dsimp only at h1
  split at h1
  · obtain rfl := am_VS_n hs
    obtain rfl := Option.some.inj h1
    unfold am_stp; dsimp only
    exact am_tend hI rfl
  · cases h1
theorem am_ab_ok {i : Instr} (hI : am_IV K σ τ ρ h w) (hl : am_LS σ τ ρ ls lsC) (hs : am_VS σ τ ρ st stC) (h1 : am_ab rl pc i an ls st h = some acts) : am_TT K σ τ ρ w acts (am_stp pc i an lsC stC w) := by
  cases i with
  | iconst _ => exact am_p_iconst hI hl hs h1
  | bipush _ => exact am_p_bipush hI hl hs h1
  | sipush _ => exact am_p_sipush hI hl hs h1
  | lconst _ => exact am_p_lconst hI hl hs h1
  | dconst _ => exact am_p_dconst hI hl hs h1
  | aconst_null => exact am_p_aconst_null hI hl hs h1
  | ldc _ => exact am_p_ldc hI hl hs h1
  | ldc_w _ => exact am_p_ldc_w hI hl hs h1
  | getstatic _ => exact am_p_getstatic hI hl hs h1
  | ldc2_w _ => exact am_p_ldc2_w hI hl hs h1
  | iload _ => exact am_p_iload hI hl hs h1
  | istore _ => exact am_p_istore hI hl hs h1
  | iload_n _ => exact am_p_iload_n hI hl hs h1
  | istore_n _ => exact am_p_istore_n hI hl hs h1
  | lload _ => exact am_p_lload hI hl hs h1
  | lstore _ => exact am_p_lstore hI hl hs h1
  | lload_n _ => exact am_p_lload_n hI hl hs h1
  | lstore_n _ => exact am_p_lstore_n hI hl hs h1
  | dload _ => exact am_p_dload hI hl hs h1
  | dstore _ => exact am_p_dstore hI hl hs h1
  | aload _ => exact am_p_aload hI hl hs h1
  | astore _ => exact am_p_astore hI hl hs h1
  | aload_n _ => exact am_p_aload_n hI hl hs h1
  | astore_n _ => exact am_p_astore_n hI hl hs h1
  | iinc _ _ => exact am_p_iinc hI hl hs h1
  | isub => exact am_p_isub hI hl hs h1
  | iadd => exact am_p_iadd hI hl hs h1
  | imul => exact am_p_imul hI hl hs h1
  | iand => exact am_p_iand hI hl hs h1
  | ior => exact am_p_ior hI hl hs h1
  | ixor => exact am_p_ixor hI hl hs h1
  | ishl => exact am_p_ishl hI hl hs h1
  | ishr => exact am_p_ishr hI hl hs h1
  | iushr => exact am_p_iushr hI hl hs h1
  | idiv => exact am_p_idiv hI hl hs h1
  | irem => exact am_p_irem hI hl hs h1
  | ineg => exact am_p_ineg hI hl hs h1
  | i2b => exact am_p_i2b hI hl hs h1
  | i2c => exact am_p_i2c hI hl hs h1
  | ladd => exact am_p_ladd hI hl hs h1
  | lsub => exact am_p_lsub hI hl hs h1
  | lmul => exact am_p_lmul hI hl hs h1
  | land => exact am_p_land hI hl hs h1
  | lor => exact am_p_lor hI hl hs h1
  | lxor => exact am_p_lxor hI hl hs h1
  | lshl => exact am_p_lshl hI hl hs h1
  | lushr => exact am_p_lushr hI hl hs h1
  | lcmp => exact am_p_lcmp hI hl hs h1
  | i2l => exact am_p_i2l hI hl hs h1
  | l2i => exact am_p_l2i hI hl hs h1
  | i2d => exact am_p_i2d hI hl hs h1
  | d2l => exact am_p_d2l hI hl hs h1
  | ddiv => exact am_p_ddiv hI hl hs h1
  | dmul => exact am_p_dmul hI hl hs h1
  | dup => exact am_p_dup hI hl hs h1
  | dup_x1 => exact am_p_dup_x1 hI hl hs h1
  | dup2 => exact am_p_dup2 hI hl hs h1
  | pop => exact am_p_pop hI hl hs h1
  | pop2 => exact am_p_pop2 hI hl hs h1
  | goto _ => exact am_p_goto hI hl hs h1
  | ifCond _ _ => exact am_p_ifCond hI hl hs h1
  | if_icmp _ _ => exact am_p_if_icmp hI hl hs h1
  | if_acmp _ _ => exact am_p_if_acmp hI hl hs h1
  | ifnull _ => exact am_p_ifnull hI hl hs h1
  | ifnonnull _ => exact am_p_ifnonnull hI hl hs h1
  | lookupswitch _ _ => exact am_p_lookupswitch hI hl hs h1
  | tableswitch _ _ _ _ => exact am_p_tableswitch hI hl hs h1
  | getfield _ => exact am_p_getfield hI hl hs h1
  | putfield _ => exact am_p_putfield hI hl hs h1
  | iaload => exact am_p_iaload hI hl hs h1
  | baload => exact am_p_baload hI hl hs h1
  | laload => exact am_p_laload hI hl hs h1
  | aaload => exact am_p_aaload hI hl hs h1
  | iastore => exact am_p_iastore hI hl hs h1
  | bastore => exact am_p_bastore hI hl hs h1
  | lastore => exact am_p_lastore hI hl hs h1
  | aastore => exact am_p_aastore hI hl hs h1
  | arraylength => exact am_p_arraylength hI hl hs h1
  | newarray _ => exact am_p_newarray hI hl hs h1
  | anewarray _ => exact am_p_anewarray hI hl hs h1
  | multianewarray _ _ => exact am_p_multianewarray hI hl hs h1
  | new _ => exact am_p_new hI hl hs h1
  | checkcast _ => exact am_p_checkcast hI hl hs h1
  | invokevirtual _ => exact am_p_invokevirtual hI hl hs h1
  | invokeinterface _ _ => exact am_p_invokeinterface hI hl hs h1
  | invokespecial _ => exact am_p_invokespecial hI hl hs h1
  | invokestatic _ => exact am_p_invokestatic hI hl hs h1
  | ireturn => exact am_p_ireturn hI hl hs h1
  | lreturn => exact am_p_lreturn hI hl hs h1
  | dreturn => exact am_p_dreturn hI hl hs h1
  | areturn => exact am_p_areturn hI hl hs h1
  | return_ => exact am_p_return_ hI hl hs h1
  | _ => exact absurd h1 (by unfold am_ab; dsimp only; intro e; cases e)
end AMTW
