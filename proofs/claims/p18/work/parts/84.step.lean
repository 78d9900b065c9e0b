/-! STEPS: what a call may change; refusals of the reference. Mine. -/
/-- of the old cells only those of tags from lo to below hi are written; what is new has such a tag or none -/
def stp (lo hi : Nat) (g g' : Nat → Nat) (k s : Nat) (w w' : am_Wd) : Prop := (∀ b, b < w.2.1 → g b < lo ∨ hi ≤ g b → w'.1 b = w.1 b) ∧ (∀ b, b < w.2.1 → g' b = g b) ∧ (∀ b, w.2.1 ≤ b → g' b = 0 ∨ (lo ≤ g' b ∧ g' b < hi)) ∧ gJ w' g' ∧ w.2.1 ≤ w'.2.1 ∧ w'.2.1 ≤ w.2.1 + k ∧ w.2.2.1 ≤ w'.2.2.1 ∧ w'.2.2.1 ≤ w.2.2.1 + s ∧ w'.2.2.2 = w.2.2.2
theorem stp_tr {lo hi : Nat} {g g' g'' : Nat → Nat} {k s k' s' : Nat} {w w' w'' : am_Wd} (h : stp lo hi g g' k s w w') (h' : stp lo hi g' g'' k' s' w' w'') : stp lo hi g g'' (k + k') (s + s') w w'' := by
  obtain ⟨a1, a2, a3, a4, a5, a6, a7, a8, a9⟩ := h
  obtain ⟨b1, b2, b3, b4, b5, b6, b7, b8, b9⟩ := h'
  refine ⟨fun b hb hg => (b1 b (by omega) (by rw [a2 b hb]; exact hg)).trans (a1 b hb hg), fun b hb => (b2 b (by omega)).trans (a2 b hb), fun b hb => ?_, b4, by omega, by omega, by omega, by omega, b9.trans a9⟩
  rcases Nat.lt_or_ge b w'.2.1 with q | q
  · rw [b2 b q]; exact a3 b hb
  · exact b3 b q
theorem stp_wk {lo hi : Nat} {g g' : Nat → Nat} {k s k' s' : Nat} {w w' : am_Wd} (h : stp lo hi g g' k s w w') (hk : k ≤ k') (hs : s ≤ s') : stp lo hi g g' k' s' w w' := by
  obtain ⟨a1, a2, a3, a4, a5, a6, a7, a8, a9⟩ := h
  exact ⟨a1, a2, a3, a4, a5, by omega, a7, by omega, a9⟩
theorem stp_rf {lo hi : Nat} {g : Nat → Nat} {w : am_Wd} (hJ : gJ w g) : stp lo hi g g 0 0 w w := ⟨fun _ _ _ => rfl, fun _ _ => rfl, fun b hb => Or.inl (hJ b hb), hJ, Nat.le_refl _, Nat.le_refl _, Nat.le_refl _, Nat.le_refl _, rfl⟩
theorem stp_ext {lo hi : Nat} {g : Nat → Nat} {k s : Nat} {w w' : am_Wd} (hJ : gJ w g) (h : ext w w' k s) : stp lo hi g g k s w w' := ⟨fun b hb _ => h.1 b hb, fun _ _ => rfl, fun b hb => Or.inl (hJ b hb), gJ_ext hJ h, h.2.1, h.2.2.1, h.2.2.2.1, h.2.2.2.2.1, h.2.2.2.2.2⟩
theorem stp_frm {lo hi lo' hi' : Nat} {g : Nat → Nat} {w w' : am_Wd} (hJ : gJ w g) (h : frm g lo' hi' w w') (h1 : lo ≤ lo') (h2 : hi' ≤ hi) : stp lo hi g g 0 0 w w' := by
  refine ⟨fun b hb hg => h.1 b (by omega), fun _ _ => rfl, fun b hb => Or.inl (hJ b hb), fun b hb => hJ b (by rw [← h.2]; exact hb), ?_⟩
  rw [h.2]
  exact ⟨Nat.le_refl _, Nat.le_refl _, Nat.le_refl _, Nat.le_refl _, rfl⟩
/-- something new made, then tagged and written -/
theorem stp_J {lo hi : Nat} {g g' : Nat → Nat} {k s : Nat} {w w' : am_Wd} (h : stp lo hi g g' k s w w') : gJ w' g' := h.2.2.2.1
theorem stp_g {lo hi : Nat} {g g' : Nat → Nat} {k s : Nat} {w w' : am_Wd} (hJ : gJ w g) (h : stp lo hi g g' k s w w') : ∀ b, g b ≠ 0 → g' b = g b := fun b hb => h.2.1 b (lt_J hJ rfl hb)
theorem jk_ext {w : am_Wd} {k s : Nat} : ext w (am_jk w k s) k s := ⟨fun _ _ => rfl, Nat.le_add_right _ _, Nat.le_refl _, Nat.le_add_right _ _, Nat.le_refl _, rfl⟩
section STEP
variable {w : am_Wd} {g : Nat → Nat} {m kq hq ca ba wl ed : Nat} {wad : Nat → Nat} {kd hr : Nat → Nat} {cp br : Nat → Bool} {n : Nat} {ws : Nat → sW} {th mi nd : Nat} {dr me di re : Int32}
/-- the class is left as it is by the reference's steps; the other way too -/
theorem rm_stp {w' : am_Wd} {g' : Nat → Nat} {k s : Nat} (R : RMx w g m kq hq ca ba wl ed wad kd hr cp br n ws th mi nd dr me di re) (hn : n ≤ 3) (hJ : gJ w g) (h : stp 1 40 g g' k s w w') : RMx w' g' m kq hq ca ba wl ed wad kd hr cp br n ws th mi nd dr me di re :=
  rm_g (rm_fr R hn (fun b h1 h2 => h.1 b (lt_J hJ rfl (by omega)) (by omega)) h.2.2.2.2.2.2.2.2) (stp_g hJ h)
theorem x40 (R : RMx w g m kq hq ca ba wl ed wad kd hr cp br n ws 0 mi nd dr me di re) (hn : n ≤ 3) (b : Bool) {c : Nat} (hc : 1 ≤ c ∧ c ≤ 3) : ∃ w', am_x 40 [.ref m, .int (b2i b), .int (nI c)] w = some (.inl (some (.int (b2i b))), w') ∧ RMx w' g m kq hq ca ba wl ed wad kd hr cp br n ws (if b = true then c else 0) mi nd dr me di re ∧ frm g 100 101 w w' := by
  cases b with
  | true =>
    obtain ⟨r1, r2⟩ := rm_m (th' := c) (mi' := mi) (nd' := nd) (dr' := dr) (me' := me) (di' := di) (re' := re) R hn
    have pf : am_pf w m 11 0 (.int (nI c)) = some (am_pt w m (.inr (11, oM c mi nd dr me di re kq hq ca ba wl))) := pfc R.1 (by show 0 < 12; decide) (by decide)
    refine ⟨_, ?_, r1, r2⟩
    simp only [bx40, bk40_0, b2i_0, reduceCtorEq, bk40_4, gfc R.1, oM_0, oM_1, oM_2, oM_3, oM_4, oM_5, oM_6, oM_7, oM_8, oM_9, oM_10, oM_11, bk40_8, nI_eqS (show 0 < 2147483648 by decide) (show 0 < 2147483648 by decide), not_true_eq_false, bk40_11, pf, bk40_16, gfc r1.1, bk40_20, nI_leS (show c < 2147483648 by omega) (show 0 < 2147483648 by decide), show ¬ c ≤ 0 from by omega, bk40_23, Option.bind_some, bct_v, bct_t, otl_s, otl_n, List.cons_append, List.nil_append, List.getElem?_cons_zero, List.getElem?_cons_succ, ↓reduceIte]
    exact bk40_28 (by rfl)
  | false =>
    refine ⟨w, ?_, R, frm_rf⟩
    simp only [bx40, bk40_0, b2i_0, gfc R.1, oM_0, oM_1, oM_2, oM_3, oM_4, oM_5, oM_6, oM_7, oM_8, oM_9, oM_10, oM_11, bk40_16, bk40_20, nI_leS (show 0 < 2147483648 by decide) (show 0 < 2147483648 by decide), Nat.le_refl, bk40_27, Option.bind_some, bct_v, bct_t, otl_s, otl_n, List.cons_append, List.nil_append, List.getElem?_cons_zero, List.getElem?_cons_succ, ↓reduceIte]
    exact bk40_28 (by rfl)
theorem x96 (R : RMx w g m kq hq ca ba wl ed wad kd hr cp br n ws th mi nd dr me di re) (hn : n ≤ 3) (b : Bool) {c : Nat} (hc : 1 ≤ c ∧ c ≤ 3) : ∃ w', am_x 96 [.ref m, .int (b2i b), .int (nI c)] w = some (.inl (some (.int (b2i b))), w') ∧ RMx w' g m kq hq ca ba wl ed wad kd hr cp br n ws (if b = true then c else 0) mi nd dr me di re ∧ frm g 100 101 w w' := by
  obtain ⟨r1, r2⟩ := rm_m (th' := 0) (mi' := mi) (nd' := nd) (dr' := dr) (me' := me) (di' := di) (re' := re) R hn
  have pf : am_pf w m 11 0 (.int (nI 0)) = some (am_pt w m (.inr (11, oM 0 mi nd dr me di re kq hq ca ba wl))) := pfc R.1 (by show 0 < 12; decide) (by decide)
  obtain ⟨w2, a1, a2, a3⟩ := x40 r1 hn b hc
  refine ⟨w2, ?_, a2, frm_tr r2 a3⟩
  simp only [bx96, bk96_0, pf, bk96_5, rm_kf r1, a1, Option.bind_some, bct_v, bct_t, otl_s, otl_n, List.cons_append, List.nil_append, List.getElem?_cons_zero, List.getElem?_cons_succ, ↓reduceIte]
  exact bk96_11 (by cases b <;> rfl)
theorem x97g {z : Int32} : am_x 97 [.int z] w = some (.inl (some (.int (b2i (!decide (¬ z < nI 0 ∧ ¬ nI 35 < z))))), w) := by
  cases e : decide (¬ z < nI 0 ∧ ¬ nI 35 < z) with
  | true =>
    have z1 := x39g (w := w) (z := z) (a := nI 0) (b := nI 35)
    rw [e] at z1
    simp only [bx97, bk97_0, z1, bk97_7, b2i_0, reduceCtorEq, not_false_eq_true, bk97_14, Option.bind_some, bct_v, bct_t, otl_s, otl_n, List.cons_append, List.nil_append, List.getElem?_cons_zero, List.getElem?_cons_succ, ↓reduceIte]
    exact bk97_15 (by rfl)
  | false =>
    have z1 := x39g (w := w) (z := z) (a := nI 0) (b := nI 35)
    rw [e] at z1
    simp only [bx97, bk97_0, z1, bk97_7, b2i_0, not_true_eq_false, bk97_10, Option.bind_some, bct_v, bct_t, otl_s, otl_n, List.cons_append, List.nil_append, List.getElem?_cons_zero, List.getElem?_cons_succ, ↓reduceIte]
    exact bk97_15 (by rfl)
def nwk (n : Nat) (z : Int32) : Bool := !decide (¬ z < nI 0 ∧ ¬ nI n - nI 1 < z)
theorem nwk_t {n : Nat} (hn : n ≤ 3) {z : Int32} (h : z < nI 0 ∨ nI n ≤ z) : nwk n z = true := by
  unfold nwk
  rw [decide_eq_false]
  · rfl
  · rintro ⟨h1, h2⟩
    rcases h with h | h
    · exact h1 h
    · apply h2
      rw [Int32.lt_iff_toInt_lt]
      rw [Int32.le_iff_toInt_le, nI_toInt (show n < 2 ^ 31 by omega)] at h
      by_cases q : n = 0
      · subst q
        have : (nI 0 - nI 1).toInt = -1 := by decide
        omega
      · rw [nI_subS (by omega), nI_toInt (show n - 1 < 2 ^ 31 by omega)]
        omega
theorem nwk_f {n i : Nat} (hn : n ≤ 3) (hi : i < n) : nwk n (nI i) = false := by
  unfold nwk
  rw [nI_subS (show 1 ≤ n by omega), decide_eq_true]
  · rfl
  · rw [nI_ltS (by omega) (by decide), nI_ltS (by omega) (by omega)]
    omega
theorem x99 (R : RMx w g m kq hq ca ba wl ed wad kd hr cp br n ws th mi nd dr me di re) (z : Int32) : am_x 99 [.ref m, .int z] w = some (.inl (some (.int (b2i (nwk n z)))), w) := by
  have L := R.2.2.2.2.2.1
  unfold nwk
  have z1 := x39g (w := w) (z := z) (a := nI 0) (b := nI n - nI 1)
  cases e : decide (¬ z < nI 0 ∧ ¬ nI n - nI 1 < z) with
  | true =>
    rw [e] at z1
    simp only [bx99, bk99_0, gfc R.1, oM_0, oM_1, oM_2, oM_3, oM_4, oM_5, oM_6, oM_7, oM_8, oM_9, oM_10, oM_11, bk99_6, kfc L.1, x56 L, bk99_9, z1, bk99_14, b2i_0, reduceCtorEq, not_false_eq_true, bk99_21, Option.bind_some, bct_v, bct_t, otl_s, otl_n, List.cons_append, List.nil_append, List.getElem?_cons_zero, List.getElem?_cons_succ, ↓reduceIte]
    exact bk99_22 (by rfl)
  | false =>
    rw [e] at z1
    simp only [bx99, bk99_0, gfc R.1, oM_0, oM_1, oM_2, oM_3, oM_4, oM_5, oM_6, oM_7, oM_8, oM_9, oM_10, oM_11, bk99_6, kfc L.1, x56 L, bk99_9, z1, bk99_14, b2i_0, not_true_eq_false, bk99_17, Option.bind_some, bct_v, bct_t, otl_s, otl_n, List.cons_append, List.nil_append, List.getElem?_cons_zero, List.getElem?_cons_succ, ↓reduceIte]
    exact bk99_22 (by rfl)
end STEP
