/-! ROWS AS TEXT, the class's: only that they end, and what they make. Mine. -/
/-- what stands in a row, as bytes: who is there, what lies there, what is between -/
def whoS (n : Nat) (ws : Nat → sW) (c : Nat) : Nat → Nat → Option Nat
  | 0, _ => none
  | j + 1, k => if k < n ∧ (ws k).2.1 / 4 = c then some k else whoS n ws c j (k + 1)
def celS (cp br : Nat → Bool) (c : Nat) (o : Option Nat) : Int32 := match o with
  | some i => nI (48 + i)
  | none => if br c = true then nI 120 else if cp c = true then nI 99 else nI 46
def sepS (k : Nat) : Int32 := if k = 1 then nI 124 else if k = 2 then nI 47 else nI 32
def txS (kd : Nat → Nat) (cp br : Nat → Bool) (n : Nat) (ws : Nat → sW) (r j : Nat) : Int32 := if j % 2 = 0 then celS cp br (r * 6 + j / 2) (whoS n ws (r * 6 + j / 2) 3 0) else sepS (kd (2 * (r * 6 + j / 2)))
theorem tx_0 {kd : Nat → Nat} {cp br : Nat → Bool} {n : Nat} {ws : Nat → sW} (r j : Nat) : txS kd cp br n ws r (2 * j) = celS cp br (r * 6 + j) (whoS n ws (r * 6 + j) 3 0) := by
  unfold txS
  rw [if_pos (by omega), show 2 * j / 2 = j by omega]
theorem tx_1 {kd : Nat → Nat} {cp br : Nat → Bool} {n : Nat} {ws : Nat → sW} (r j : Nat) : txS kd cp br n ws r (2 * j + 1) = sepS (kd (2 * (r * 6 + j))) := by
  unfold txS
  rw [if_neg (by omega), show (2 * j + 1) / 2 = j by omega]
theorem nr_c : vp_nar .byte (Int32.toInt8 (nI 120)).toInt32 = nI 120 ∧ vp_nar .byte (Int32.toInt8 (nI 99)).toInt32 = nI 99 ∧ vp_nar .byte (Int32.toInt8 (nI 46)).toInt32 = nI 46 ∧ vp_nar .byte (Int32.toInt8 (nI 124)).toInt32 = nI 124 ∧ vp_nar .byte (Int32.toInt8 (nI 47)).toInt32 = nI 47 ∧ vp_nar .byte (Int32.toInt8 (nI 32)).toInt32 = nI 32 := by decide +kernel
theorem nr_d {i : Nat} (hi : i ≤ 2) : vp_nar .byte (Int32.toInt8 (bj_i2c (nI (48 + i)))).toInt32 = nI (48 + i) := by
  have h : ∀ j : Fin 3, vp_nar .byte (Int32.toInt8 (bj_i2c (nI (48 + j.val)))).toInt32 = nI (48 + j.val) := by decide +kernel
  exact h ⟨i, by omega⟩
theorem c255 {n : Nat} (h : n ≤ 255) : ¬ nI 255 < nI n := by rw [nI_ltS (by decide) (by omega)]; omega
theorem tS_lo {w : am_Wd} {lo lo' s k : Nat} {T : Nat → Int32} (h : tS w lo s k T) (hl : lo' ≤ lo) : tS w lo' s k T := by
  obtain ⟨v, f, h1, h2, h3, h4, h5, h6⟩ := h
  exact ⟨v, f, h1, h2, h3, by omega, by omega, h6⟩
section RW
variable {w : am_Wd} {g : Nat → Nat} {x fl ka ha wr C B : Nat} {wad : Nat → Nat} {kd hr : Nat → Nat} {cp br : Nat → Bool} {n : Nat} {ws : Nat → sW} {mi nd : Nat} {dr me di re : Int32}
theorem rc_ext {w' : am_Wd} {k s : Nat} (R : RCx w g x fl ka ha wr C B wad kd hr cp br n ws mi nd dr me di re) (hn : n ≤ 3) (hJ : gJ w g) (e : ext w w' k s) : RCx w' g x fl ka ha wr C B wad kd hr cp br n ws mi nd dr me di re := rc_fr R hn fun b h1 h2 => e.1 b (lt_J hJ rfl (by omega))
theorem x34 {k : Nat} (hk : k ≤ 2) : ∃ c, am_x 34 [.int (nI k)] w = some (.inl (some (.int c)), w) ∧ ¬ nI 255 < c ∧ sepS k = vp_nar .byte (Int32.toInt8 c).toInt32 := by
  rcases (show k = 0 ∨ k = 1 ∨ k = 2 by omega) with rfl | rfl | rfl
  · exact ⟨nI 32, by rw [bx34, bk34_0, if_neg (by decide), if_neg (by decide), bk34_34], c255 (by decide), by decide +kernel⟩
  · exact ⟨nI 124, by rw [bx34, bk34_0, if_pos rfl, bk34_28], c255 (by decide), by decide +kernel⟩
  · exact ⟨nI 47, by rw [bx34, bk34_0, if_neg (by decide), if_pos rfl, bk34_31], c255 (by decide), by decide +kernel⟩
theorem x94 (R : RCx w g x fl ka ha wr C B wad kd hr cp br n ws mi nd dr me di re) (hn : n ≤ 3) (hw : ∀ i, i < n → okW (ws i)) {c : Nat} (hc : c < 36) : ∃ q, am_x 94 [.ref x, .int (nI c)] w = some (.inl (some (.int q)), w) ∧ ¬ nI 255 < q ∧ celS cp br c (whoS n ws c 3 0) = vp_nar .byte (Int32.toInt8 q).toInt32 := by
  have hQ := R.2.2.2.2.1
  have go : ∀ j k, j + k = 3 → ∃ q, am_run 94 2 [some (.ref x), some (.int (nI c)), some (.int (nI k)), none] [] w = some (.inl (some (.int q)), w) ∧ ¬ nI 255 < q ∧ celS cp br c (whoS n ws c j k) = vp_nar .byte (Int32.toInt8 q).toInt32 := by
    have hBb := R.2.2.2.1.2 c hc
    have hCb := R.2.2.1.2 c hc
    intro j
    induction j with
    | zero =>
      intro k hk
      obtain rfl : k = 3 := by omega
      have hB := has (w := w) (bm_lt R.2.2.2.1) hc
      have hC := has (w := w) (bm_lt R.2.2.1) hc
      have q3 : (nI 3 ≤ nI 3) = True := eq_true (by decide)
      cases e : B.testBit c with
      | true =>
        rw [e] at hB
        refine ⟨nI 120, ?_, c255 (by decide), by rw [nr_c.1]; show (if br c = true then nI 120 else _) = _; rw [if_pos (by rw [← hBb]; exact e)]⟩
        simp only [bk94_2, gfc R.1, oX_0, oX_1, oX_2, oX_3, oX_4, oX_5, oX_6, oX_7, oX_8, bk94_7, lenQ hQ (by decide), bk94_8, q3, bk94_42, bk94_46, gfc R.2.1.1, bk94_49, hB, bk94_53, b2i_0, reduceCtorEq, bk94_56, Option.bind_some, bct_v, bct_t, otl_s, otl_n, List.cons_append, List.nil_append, List.getElem?_cons_zero, List.getElem?_cons_succ, ↓reduceIte]
      | false =>
        rw [e] at hB
        cases e2 : C.testBit c with
        | true =>
          rw [e2] at hC
          refine ⟨nI 99, ?_, c255 (by decide), by rw [nr_c.2.1]; show (if br c = true then nI 120 else if cp c = true then nI 99 else _) = _; rw [if_neg (by rw [← hBb, e]; decide), if_pos (by rw [← hCb]; exact e2)]⟩
          simp only [bk94_2, gfc R.1, oX_0, oX_1, oX_2, oX_3, oX_4, oX_5, oX_6, oX_7, oX_8, bk94_7, lenQ hQ (by decide), bk94_8, q3, bk94_42, bk94_46, gfc R.2.1.1, bk94_49, hB, bk94_53, b2i_0, bk94_59, bk94_63, bk94_66, hC, bk94_70, reduceCtorEq, bk94_73, Option.bind_some, bct_v, bct_t, otl_s, otl_n, List.cons_append, List.nil_append, List.getElem?_cons_zero, List.getElem?_cons_succ, ↓reduceIte]
          exact bk94_80 rfl
        | false =>
          rw [e2] at hC
          refine ⟨nI 46, ?_, c255 (by decide), by rw [nr_c.2.2.1]; show (if br c = true then nI 120 else if cp c = true then nI 99 else _) = _; rw [if_neg (by rw [← hBb, e]; decide), if_neg (by rw [← hCb, e2]; decide)]⟩
          simp only [bk94_2, gfc R.1, oX_0, oX_1, oX_2, oX_3, oX_4, oX_5, oX_6, oX_7, oX_8, bk94_7, lenQ hQ (by decide), bk94_8, q3, bk94_42, bk94_46, gfc R.2.1.1, bk94_49, hB, bk94_53, b2i_0, bk94_59, bk94_63, bk94_66, hC, bk94_70, bk94_78, Option.bind_some, bct_v, bct_t, otl_s, otl_n, List.cons_append, List.nil_append, List.getElem?_cons_zero, List.getElem?_cons_succ, ↓reduceIte]
          exact bk94_80 rfl
    | succ j ih =>
      intro k hk
      obtain ⟨q, a, hq, hq2⟩ := ih (k + 1) (by omega)
      have q3 : (nI 3 ≤ nI k) = False := by rw [nI_leS (by decide) (by omega)]; exact eq_false (by omega)
      have rq := rqc hQ (i := k) (Or.inl rfl) (by omega) (by decide)
      by_cases hkn : k < n
      · rw [show wks n wad k = some (wad k) from if_pos hkn] at rq
        have rq' : am_rq w wr (nI k) = some (.ref (wad k)) := rq
        obtain ⟨⟨o1, o2, o3, o4, o5⟩, o6⟩ := hw k hkn
        have h' := rc_get R hkn (sW_eta (ws k))
        have z := wk_17 h' o2
        by_cases ec : (ws k).2.1 / 4 = c
        · have q5 : (nI ((ws k).2.1 / 4) = nI c) = True := by rw [nI_eqS (by omega) (by omega)]; exact eq_true ec
          obtain ⟨c1, c2⟩ := chr_ok (48 + k) (by omega)
          refine ⟨bj_i2c (nI (48 + k)), ?_, c2, by rw [nr_d (by omega)]; unfold whoS; rw [if_pos ⟨hkn, ec⟩]; rfl⟩
          rw [bk94_2]
          simp only [gfc R.1, oX_0, oX_1, oX_2, oX_3, oX_4, oX_5, oX_6, oX_7, oX_8, bk94_7, lenQ hQ (by decide), bk94_8, q3, bk94_11, bk94_15, rq', bk94_17, wk_kf h', z, bk94_26, q5, not_true_eq_false, Option.bind_some, bct_v, bct_t, otl_s, otl_n, List.cons_append, List.nil_append, List.getElem?_cons_zero, List.getElem?_cons_succ, ↓reduceIte]
          rw [bk94_30 (by rw [nI_add]; exact c1), nI_add]
        · have q5 : (nI ((ws k).2.1 / 4) = nI c) = False := by rw [nI_eqS (by omega) (by omega)]; exact eq_false ec
          refine ⟨q, ?_, hq, by unfold whoS; rw [if_neg (fun z => ec z.2)]; exact hq2⟩
          rw [bk94_2]
          simp only [gfc R.1, oX_0, oX_1, oX_2, oX_3, oX_4, oX_5, oX_6, oX_7, oX_8, bk94_7, lenQ hQ (by decide), bk94_8, q3, bk94_11, bk94_15, rq', bk94_17, wk_kf h', z, bk94_26, q5, not_false_eq_true, bk94_36, nI_add, Option.bind_some, bct_v, bct_t, otl_s, otl_n, List.cons_append, List.nil_append, List.getElem?_cons_zero, List.getElem?_cons_succ, ↓reduceIte]
          exact a
      · rw [show wks n wad k = none from if_neg hkn] at rq
        have rq' : am_rq w wr (nI k) = some .null := rq
        refine ⟨q, ?_, hq, by unfold whoS; rw [if_neg (fun z => hkn z.1)]; exact hq2⟩
        rw [bk94_2]
        simp only [gfc R.1, oX_0, oX_1, oX_2, oX_3, oX_4, oX_5, oX_6, oX_7, oX_8, bk94_7, lenQ hQ (by decide), bk94_8, q3, bk94_11, bk94_15, rq', bk94_17a, bk94_36, nI_add, Option.bind_some, bct_v, bct_t, otl_s, otl_n, List.cons_append, List.nil_append, List.getElem?_cons_zero, List.getElem?_cons_succ, ↓reduceIte]
        exact a
  obtain ⟨q, a, hq, hq2⟩ := go 3 0 rfl
  exact ⟨q, by rw [bx94, bk94_0]; exact a, hq, hq2⟩
theorem nb_row : ∀ r, r ≤ 5 → ∀ j, j ≤ 4 → nb (r * 6 + j) 1 = some (r * 6 + j + 1) := by
  intro r hr j hj
  unfold nb
  rw [if_neg (by decide), if_pos rfl, if_pos (by omega)]
theorem knd_1 {kd : Nat → Nat} {r j : Nat} (hr : r ≤ 5) (hj : j ≤ 4) : kndS kd (r * 6 + j) 1 = kd (2 * (r * 6 + j)) := by
  have e := nb_row r hr j hj
  unfold kndS plc
  rw [e]
  simp
theorem knd_le {kd : Nat → Nat} (h : kdok kd) (c s : Nat) : kndS kd c s ≤ 2 := by
  unfold kndS
  cases nb c s with
  | none => exact Nat.le_succ 1
  | some _ => exact h _
theorem x243n {z : Int32} (h : z < nI 0 ∨ nI 5 < z) : am_x 243 [.ref x, .int z] w = some (.inr (am_xn 0), am_jk w 1 6) := by
  rw [bx243, bk243_0]
  by_cases q : z < nI 0
  · rw [if_pos q, bk243_10]
  · rw [if_neg q, bk243_4, if_neg, bk243_10]
    rcases h with h | h
    · exact absurd h q
    · have := ge_gt (b := 5) (by decide) h
      exact fun z => absurd z (nlt_ge this)
theorem x243 (R : RCx w g x fl ka ha wr C B wad kd hr cp br n ws mi nd dr me di re) (hn : n ≤ 3) (hJ : gJ w g) (hk : kdok kd) (hw : ∀ i, i < n → okW (ws i)) {r : Nat} (hr5 : r ≤ 5) : ∃ w' v, am_x 243 [.ref x, .int (nI r)] w = some (.inl (some (.ref v)), w') ∧ ext w w' 4 36 ∧ tS w' w.2.1 v 11 (txS kd cp br n ws r) := by
  have q0 : (nI r < nI 0) = False := by rw [nI_ltS (by omega) (by decide)]; exact eq_false (by omega)
  have q6 : (nI r < nI 6) = True := by rw [nI_ltS (by omega) (by decide)]; exact eq_true (by omega)
  have e0 : ext w (am_nw w (.inr (1, am_df 1 4)) 4) 1 4 := ext_nw
  have b0 : cO (am_nw w (.inr (1, am_df 1 4)) 4) w.2.1 1 [.null, .int 0, .int 0, .int 0] := nw_s
  obtain ⟨w1, a1, h1, l1, ch1⟩ := x111 b0 (Nat.lt_succ_self _) (txS kd cp br n ws r)
  have hbv : (am_nw w (.inr (1, am_df 1 4)) 4).2.1 = w.2.1 + 1 := rfl
  rw [hbv] at h1 l1 ch1
  have e1 : ext w w1 2 20 := ext_wk (ext_chB e0 (Nat.le_refl _) (Nat.le_succ _) ch1) (by decide) (by decide)
  have go : ∀ j, j ≤ 6 → ∃ w2 m, ext w w2 2 20 ∧ sB w2 w.2.1 (w.2.1 + 1) m (txS kd cp br n ws r) ∧ (m = 2 * j ∧ j ≤ 5 ∨ m = 11 ∧ j = 6) ∧ w.2.1 + 1 < w2.2.1 ∧ am_run 243 30 [some (.ref x), some (.int (nI r)), some (.ref w.2.1), some (.int (nI 0)), none] [] w1 = am_run 243 30 [some (.ref x), some (.int (nI r)), some (.ref w.2.1), some (.int (nI j)), none] [] w2 := by
    intro j
    induction j with
    | zero => exact fun _ => ⟨w1, 0, e1, h1, Or.inl ⟨rfl, by decide⟩, l1, rfl⟩
    | succ j ih =>
      intro hj
      obtain ⟨w2, m, e2, h2, hm, l2, t2⟩ := ih (by omega)
      obtain rfl : m = 2 * j := by omega
      have R2 := rc_ext R hn hJ e2
      have q1 : (nI 6 ≤ nI j) = False := by rw [nI_leS (by decide) (by omega)]; exact eq_false (by omega)
      have hc : r * 6 + j < 36 := by omega
      obtain ⟨c, a, hcc, hct⟩ := x94 R2 hn hw hc
      obtain ⟨w3, a3, h3, ch3⟩ := x154 h2 (by omega) hcc ((tx_0 r j).trans hct)
      have e3 := ext_wk (ext_chB e2 (Nat.le_refl _) (Nat.le_succ _) ch3) (k' := 2) (s' := 20) (by decide) (by decide)
      have l3 : w.2.1 + 1 < w3.2.1 := Nat.lt_of_lt_of_le l2 ch3.2.1
      by_cases ej : j = 5
      · subst ej
        have q5 : (nI 5 ≤ nI 5) = True := eq_true (by decide)
        refine ⟨w3, 2 * 5 + 1, e3, h3, Or.inr ⟨rfl, rfl⟩, l3, t2.trans ?_⟩
        rw [bk243_30]
        simp only [q1, bk243_36, rc_kf R2, nI_mulS, nI_add, a, bk243_51, sb_kf h2, a3, bk243_54, q5, bk243_78, Option.bind_some, bct_v, bct_t, otl_s, otl_n, List.cons_append, List.nil_append, List.getElem?_cons_zero, List.getElem?_cons_succ, ↓reduceIte]
      · have q5 : (nI 5 ≤ nI j) = False := by rw [nI_leS (by decide) (by omega)]; exact eq_false (by omega)
        have R3 := rc_ext R hn hJ e3
        have z124 := x124 R3.2.1 hc (s := 1) (by decide)
        obtain ⟨c', a', hcc', hct'⟩ := x34 (w := w3) (knd_le hk (r * 6 + j) 1)
        obtain ⟨w4, a4, h4, ch4⟩ := x154 h3 (by omega) hcc' ((tx_1 r j).trans (by rw [← knd_1 (kd := kd) (r := r) (j := j) hr5 (by omega)]; exact hct'))
        have e4 := ext_wk (ext_chB e3 (Nat.le_refl _) (Nat.le_succ _) ch4) (k' := 2) (s' := 20) (by decide) (by decide)
        refine ⟨w4, 2 * j + 1 + 1, e4, h4, Or.inl ⟨by omega, by omega⟩, Nat.lt_of_lt_of_le l3 ch4.2.1, t2.trans ?_⟩
        rw [bk243_30]
        simp only [q1, bk243_36, rc_kf R2, nI_mulS, nI_add, a, bk243_51, sb_kf h2, a3, bk243_54, q5, bk243_60, gfc R3.1, oX_0, oX_1, oX_2, oX_3, oX_4, oX_5, oX_6, oX_7, oX_8, bk243_65, kfc R3.2.1.1, z124, bk243_71, a', bk243_74, sb_kf h3, a4, bk243_77, bk243_78, Option.bind_some, bct_v, bct_t, otl_s, otl_n, List.cons_append, List.nil_append, List.getElem?_cons_zero, List.getElem?_cons_succ, ↓reduceIte]
  obtain ⟨w2, m, e2, h2, hm, l2, t2⟩ := go 6 (Nat.le_refl _)
  obtain rfl : m = 11 := by omega
  obtain ⟨w3, a3, e3, t3⟩ := x238 h2 (by omega) (by omega) l2
  refine ⟨w3, w2.2.1, ?_, ext_wk (ext_tr e2 e3) (by decide) (by omega), tS_lo t3 (by omega)⟩
  have q7 : (nI 6 ≤ nI 6) = True := eq_true (by decide)
  simp only [bx243, bk243_0, q0, bk243_4, q6, bk243_20, bk243_23, a1, bk243_27, Option.bind_some, bct_v, bct_t, otl_s, otl_n, List.cons_append, List.nil_append, List.getElem?_cons_zero, List.getElem?_cons_succ, ↓reduceIte]
  refine Eq.trans t2 ?_
  simp only [bk243_30, q7, bk243_84, sb_kf h2, a3, bk243_88, Option.bind_some, bct_v, bct_t, otl_s, otl_n, List.cons_append, List.nil_append, List.getElem?_cons_zero, List.getElem?_cons_succ, ↓reduceIte]
end RW
