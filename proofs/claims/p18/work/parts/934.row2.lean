/-! ROWS AS TEXT, the reference's: only that they end, and what they make. Mine. -/
theorem i_m1 (x : Int32) : x + (-1 : Int32) = x - nI 1 := by rw [Int32.sub_eq_add_neg]; rfl
section RR
variable {w : am_Wd} {g : Nat → Nat} {m kq hq ca ba wl ed : Nat} {wad : Nat → Nat} {kd hr : Nat → Nat} {cp br : Nat → Bool} {n : Nat} {ws : Nat → sW} {th mi nd : Nat} {dr me di re : Int32}
variable {i a ho po ch : Nat} {lo ac bu sl : Int32} {may : Nat → Bool} {mp : Nat → Nat}
theorem stp_le {lo hi k s : Nat} {g g' : Nat → Nat} {w w' : am_Wd} (p : stp lo hi g g' k s w w') : w.2.1 ≤ w'.2.1 := p.2.2.2.2.1
theorem StW.ext {w' : am_Wd} {k s : Nat} (h : StW w g) (hJ : gJ w g) (e : ext w w' k s) : StW w' g := h.stp (lo := 1) (hi := 40) (by decide) (stp_ext hJ e)
/-- from the last one down -/
def whoD (ws : Nat → sW) (c : Nat) : Nat → Option Nat → Option Nat
  | 0, o => o
  | j + 1, o => whoD ws c j (if (ws j).2.1 / 4 = c then some j else o)
theorem whoD_S {n : Nat} (hn : n ≤ 3) (ws : Nat → sW) (c : Nat) : whoD ws c n none = whoS n ws c 3 0 := by
  rcases (show n = 0 ∨ n = 1 ∨ n = 2 ∨ n = 3 by omega) with rfl | rfl | rfl | rfl
  · simp [whoD, whoS]
  · by_cases h0 : (ws 0).2.1 / 4 = c <;> simp [whoD, whoS, h0]
  · by_cases h0 : (ws 0).2.1 / 4 = c <;> by_cases h1 : (ws 1).2.1 / 4 = c <;> simp [whoD, whoS, h0, h1]
  · by_cases h0 : (ws 0).2.1 / 4 = c <;> by_cases h1 : (ws 1).2.1 / 4 = c <;> by_cases h2 : (ws 2).2.1 / 4 = c <;> simp [whoD, whoS, h0, h1, h2]
/-- who stands there -/
theorem who246 (R : RMx w g m kq hq ca ba wl ed wad kd hr cp br n ws th mi nd dr me di re) (hn : n ≤ 3) (hw : ∀ i, i < n → okW (ws i)) {r b c : Nat} (hc : c < 36) : ∀ j, j ≤ n → ∀ o : Option Nat, (∀ i, o = some i → i ≤ 2) → (∀ i, whoD ws c j o = some i → i ≤ 2) ∧ am_run 246 63 [some (.ref m), some (.int (nI r)), some (.ref b), some (.int (nI c)), some (.int (no o)), some (.int (nI j - nI 1))] [] w = am_run 246 63 [some (.ref m), some (.int (nI r)), some (.ref b), some (.int (nI c)), some (.int (no (whoD ws c j o))), some (.int (nI 0 - nI 1))] [] w := by
  intro j
  induction j with
  | zero => exact fun _ o ho => ⟨ho, rfl⟩
  | succ j ih =>
    intro hj o ho
    have e0 : nI (j + 1) - nI 1 = nI j := by rw [nI_subS (by omega), Nat.add_sub_cancel]
    have q0 : (nI j < nI 0) = False := by rw [nI_ltS (by omega) (by decide)]; exact eq_false (by omega)
    have v := x150 (rm_L R) hn (i := j) (by omega)
    obtain ⟨⟨o1, o2, o3, o4, o5⟩, o6⟩ := hw j (by omega)
    have h' := rm_get R (i := j) (by omega) (sW_eta (ws j))
    have kw := mk_kf h'
    obtain ⟨ma, mq, c1, -⟩ := h'
    have z := x38 c1 o2
    by_cases ec : (ws j).2.1 / 4 = c
    · have q5 : (nI ((ws j).2.1 / 4) = nI c) = True := by rw [nI_eqS (by omega) (by omega)]; exact eq_true ec
      have eD : whoD ws c (j + 1) o = whoD ws c j (some j) := by
        show whoD ws c j (if (ws j).2.1 / 4 = c then some j else o) = _
        rw [if_pos ec]
      rw [eD]
      obtain ⟨k1, k2⟩ := ih (by omega) (some j) (fun i hi => by cases hi; omega)
      refine ⟨k1, Eq.trans ?_ k2⟩
      rw [e0, bk246_63]
      simp only [q0, bk246_68, gfc R.1, oM_0, oM_1, oM_2, oM_3, oM_4, oM_5, oM_6, oM_7, oM_8, oM_9, oM_10, oM_11, bk246_72, rm_lk R, v, bk246_77, kw, bk246_80, z, bk246_83, q5, not_true_eq_false, bk246_87, bk246_94, i_m1, Option.bind_some, bct_v, bct_t, otl_s, otl_n, List.cons_append, List.nil_append, List.getElem?_cons_zero, List.getElem?_cons_succ, ↓reduceIte]
      rfl
    · have q5 : (nI ((ws j).2.1 / 4) = nI c) = False := by rw [nI_eqS (by omega) (by omega)]; exact eq_false ec
      have eD : whoD ws c (j + 1) o = whoD ws c j o := by
        show whoD ws c j (if (ws j).2.1 / 4 = c then some j else o) = _
        rw [if_neg ec]
      rw [eD]
      obtain ⟨k1, k2⟩ := ih (by omega) o ho
      refine ⟨k1, Eq.trans ?_ k2⟩
      rw [e0, bk246_63]
      simp only [q0, bk246_68, gfc R.1, oM_0, oM_1, oM_2, oM_3, oM_4, oM_5, oM_6, oM_7, oM_8, oM_9, oM_10, oM_11, bk246_72, rm_lk R, v, bk246_77, kw, bk246_80, z, bk246_83, q5, not_false_eq_true, bk246_92, bk246_94, i_m1, Option.bind_some, bct_v, bct_t, otl_s, otl_n, List.cons_append, List.nil_append, List.getElem?_cons_zero, List.getElem?_cons_succ, ↓reduceIte]
/-- what is put for a cell -/
theorem put246 (R : RMx w g m kq hq ca ba wl ed wad kd hr cp br n ws th mi nd dr me di re) (hn : n ≤ 3) (hJ : gJ w g) (hS : StW w g) (hw : ∀ i, i < n → okW (ws i)) {r b va c k : Nat} {T : Nat → Int32} (hc : c < 36) (hT : T k = celS cp br c (whoS n ws c 3 0)) (h : sB w b va k T) (hk : k < 16) (hb : b < w.2.1) (hv : va < w.2.1) {w0 : am_Wd} {k0 s0 : Nat} (e0 : ext w0 w k0 s0) (hb0 : w0.2.1 ≤ b) (hv0 : w0.2.1 ≤ va) :
    ∃ w', am_run 246 49 [some (.ref m), some (.int (nI r)), some (.ref b), some (.int (nI c)), none, none] [] w = am_run 246 150 [some (.ref m), some (.int (nI r)), some (.ref b), some (.int (nI c)), none, none] [.ref b] w' ∧ sB w' b va (k + 1) T ∧ ext w0 w' (k0 + 2) (s0 + 5) ∧ w.2.1 ≤ w'.2.1 := by
  have hw9 := who246 R hn hw (r := r) (b := b) hc n (Nat.le_refl n) none (fun i hi => by cases hi)
  rw [← whoD_S hn] at hT
  generalize whoD ws c n none = o at hw9 hT
  obtain ⟨ho, t1⟩ := hw9
  have qm : (nI 0 - nI 1 < nI 0) = True := eq_true (by decide)
  have st : am_run 246 49 [some (.ref m), some (.int (nI r)), some (.ref b), some (.int (nI c)), none, none] [] w = am_run 246 102 [some (.ref m), some (.int (nI r)), some (.ref b), some (.int (nI c)), some (.int (no o)), none] [] w := by
    simp only [bk246_49, gfc R.1, oM_0, oM_1, oM_2, oM_3, oM_4, oM_5, oM_6, oM_7, oM_8, oM_9, oM_10, oM_11, bk246_56, rm_lk R, x56 (rm_L R), bk246_59, Option.bind_some, bct_v, bct_t, otl_s, otl_n, List.cons_append, List.nil_append, List.getElem?_cons_zero, List.getElem?_cons_succ, ↓reduceIte]
    refine Eq.trans t1 ?_
    simp only [bk246_63, qm, Option.bind_some, bct_v, bct_t, otl_s, otl_n, List.cons_append, List.nil_append, List.getElem?_cons_zero, List.getElem?_cons_succ, ↓reduceIte]
  rw [st]
  cases o with
  | some i =>
    have hi := ho i rfl
    obtain ⟨w1, a1, s1, e1, l1⟩ := x152 hS hi
    obtain ⟨w2, a2, h2, c2⟩ := x222 (h.ext hb hv e1) s1 (by omega) (fun j hj => by
      obtain rfl : j = 0 := by omega
      exact hT.symm)
    refine ⟨w2, ?_, h2, ext_wk (ext_chB (ext_tr e0 e1) hb0 hv0 c2) (by omega) (by omega), Nat.le_trans e1.2.1 c2.2.1⟩
    have q : (nI i = (-1 : Int32)) = False := nI_m1S (by omega)
    have kb := sb_kf (h.ext hb hv e1)
    simp only [no, bk246_102, q, bk246_109, a1, bk246_114, bk246_147, kb, a2, Option.bind_some, bct_v, bct_t, otl_s, otl_n, List.cons_append, List.nil_append, List.getElem?_cons_zero, List.getElem?_cons_succ, ↓reduceIte]
  | none =>
    have rb : am_ri 2 w ba (nI c) = some (b2i (br c)) := ric R.2.2.2.2.1 rfl hc (by decide)
    have rc : am_ri 2 w ca (nI c) = some (b2i (cp c)) := ric R.2.2.2.1 rfl hc (by decide)
    have kb := sb_kf h
    cases eb : br c with
    | true =>
      obtain ⟨q, v, g1, s1, -, -⟩ := sT_lit hS (r := 25) (by decide) (by decide)
      have hT1 : T k = nI 120 := hT.trans (if_pos eb)
      obtain ⟨w2, a2, h2, c2⟩ := x222 h s1 (by show k + 1 ≤ 16; omega) (fun j hj => by
        have hj : j < 1 := hj
        obtain rfl : j = 0 := by omega
        exact hT1.symm)
      refine ⟨w2, ?_, h2, ext_wk (ext_chB e0 hb0 hv0 c2) (by omega) (by omega), c2.2.1⟩
      simp only [no, bk246_102, bk246_117, gfc R.1, oM_0, oM_1, oM_2, oM_3, oM_4, oM_5, oM_6, oM_7, oM_8, oM_9, oM_10, oM_11, bk246_121, rb, eb, bk246_123, b2i_0, reduceCtorEq, bk246_126 g1, bk246_128, bk246_147, kb, a2, Option.bind_some, bct_v, bct_t, otl_s, otl_n, List.cons_append, List.nil_append, List.getElem?_cons_zero, List.getElem?_cons_succ, ↓reduceIte]
    | false =>
      cases ec : cp c with
      | true =>
        obtain ⟨q, v, g1, s1, -, -⟩ := sT_lit hS (r := 26) (by decide) (by decide)
        have hT1 : T k = nI 99 := hT.trans ((if_neg (by rw [eb]; decide)).trans (if_pos ec))
        obtain ⟨w2, a2, h2, c2⟩ := x222 h s1 (by show k + 1 ≤ 16; omega) (fun j hj => by
          have hj : j < 1 := hj
          obtain rfl : j = 0 := by omega
          exact hT1.symm)
        refine ⟨w2, ?_, h2, ext_wk (ext_chB e0 hb0 hv0 c2) (by omega) (by omega), c2.2.1⟩
        simp only [no, bk246_102, bk246_117, gfc R.1, oM_0, oM_1, oM_2, oM_3, oM_4, oM_5, oM_6, oM_7, oM_8, oM_9, oM_10, oM_11, bk246_121, rb, eb, bk246_123, b2i_0, bk246_131, bk246_135, rc, ec, bk246_137, reduceCtorEq, bk246_140 g1, bk246_142, bk246_147, kb, a2, Option.bind_some, bct_v, bct_t, otl_s, otl_n, List.cons_append, List.nil_append, List.getElem?_cons_zero, List.getElem?_cons_succ, ↓reduceIte]
      | false =>
        obtain ⟨q, v, g1, s1, -, -⟩ := sT_lit hS (r := 27) (by decide) (by decide)
        have hT1 : T k = nI 46 := hT.trans ((if_neg (by rw [eb]; decide)).trans (if_neg (by rw [ec]; decide)))
        obtain ⟨w2, a2, h2, c2⟩ := x222 h s1 (by show k + 1 ≤ 16; omega) (fun j hj => by
          have hj : j < 1 := hj
          obtain rfl : j = 0 := by omega
          exact hT1.symm)
        refine ⟨w2, ?_, h2, ext_wk (ext_chB e0 hb0 hv0 c2) (by omega) (by omega), c2.2.1⟩
        simp only [no, bk246_102, bk246_117, gfc R.1, oM_0, oM_1, oM_2, oM_3, oM_4, oM_5, oM_6, oM_7, oM_8, oM_9, oM_10, oM_11, bk246_121, rb, eb, bk246_123, b2i_0, bk246_131, bk246_135, rc, ec, bk246_137, bk246_145 g1, bk246_147, kb, a2, Option.bind_some, bct_v, bct_t, otl_s, otl_n, List.cons_append, List.nil_append, List.getElem?_cons_zero, List.getElem?_cons_succ, ↓reduceIte]
theorem sep_lit {k : Nat} (hk : k ≤ 2) : sepS k = vp_nar .byte (Int32.toInt8 (bj_i2c (litS 28 k &&& nI 255))).toInt32 := by
  have h : ∀ j : Fin 3, sepS j.val = vp_nar .byte (Int32.toInt8 (bj_i2c (litS 28 j.val &&& nI 255))).toInt32 := by decide +kernel
  exact h ⟨k, by omega⟩
/-- a cell -/
theorem cell246 (R : RMx w g m kq hq ca ba wl ed wad kd hr cp br n ws th mi nd dr me di re) (hn : n ≤ 3) (hJ : gJ w g) (hS : StW w g) (hk2 : kdok kd) (hw : ∀ i, i < n → okW (ws i)) {r b va c k : Nat} {T : Nat → Int32} (hc : c < 36) (hcr : c < 6 * r + 6) (hr : r ≤ 5) (hT0 : T k = celS cp br c (whoS n ws c 3 0)) (hT1 : (nb c (0 + 1)).isSome = true → T (k + 1) = sepS (kd (2 * c))) (h : sB w b va k T) (hk : k + 1 < 16) (hb : b < w.2.1) (hv : va < w.2.1) {hr0 : Nat → Nat} {w0 : am_Wd} {k0 s0 : Nat} (e0 : ext w0 w k0 s0) (hb0 : w0.2.1 ≤ b) (hv0 : w0.2.1 ≤ va) (hJ0 : gJ w0 g) (R0 : RMx w0 g m kq hq ca ba wl ed wad kd hr0 cp br n ws th mi nd dr me di re) (hS0 : StW w0 g) :
    ∃ w', am_run 246 38 [some (.ref m), some (.int (nI r)), some (.ref b), some (.int (nI c)), none, none] [] w = am_run 246 38 [some (.ref m), some (.int (nI r)), some (.ref b), some (.int (nI (c + 1))), none, none] [] w' ∧ sB w' b va (if (nb c (0 + 1)).isSome = true then k + 2 else k + 1) T ∧ w.2.1 ≤ w'.2.1 ∧ ext w0 w' (k0 + 2) (s0 + 5) := by
  obtain ⟨w1, t1, h1, e1, l1⟩ := put246 R hn hJ hS hw (r := r) hc hT0 h (by omega) hb hv e0 hb0 hv0
  have q0 : (nI (6 * r + 6) ≤ nI c) = False := by rw [nI_leS (by omega) (by omega)]; exact eq_false (by omega)
  have z := x143 (w := w1) hc (j := 0) (by decide)
  have st : am_run 246 38 [some (.ref m), some (.int (nI r)), some (.ref b), some (.int (nI c)), none, none] [] w = am_run 246 49 [some (.ref m), some (.int (nI r)), some (.ref b), some (.int (nI c)), none, none] [] w := by
    simp only [bk246_38, nI_mulS, nI_add, q0, Option.bind_some, bct_v, bct_t, otl_s, otl_n, List.cons_append, List.nil_append, List.getElem?_cons_zero, List.getElem?_cons_succ, ↓reduceIte]
  rw [st, t1]
  cases ew : (nb c (0 + 1)).isSome with
  | false =>
    rw [ew] at z
    rw [if_neg (by decide)]
    refine ⟨w1, ?_, h1, l1, e1⟩
    rw [bk246_150]
    simp only [z, bk246_156, b2i_0, bk246_178, nI_add, Option.bind_some, bct_v, bct_t, otl_s, otl_n, List.cons_append, List.nil_append, List.getElem?_cons_zero, List.getElem?_cons_succ, ↓reduceIte]
  | true =>
    rw [ew] at z
    have R1 := rm_ext R0 hn hJ0 e1
    have hS1 := hS0.ext hJ0 e1
    obtain ⟨q, v, g1, s1, -, -⟩ := sT_lit hS1 (r := 28) (by decide) (by decide)
    have rr := R1.2.1.row hc
    have ra := R1.2.1.at hc (j := 0) (by decide)
    have kl := hk2 (2 * c + 0)
    obtain ⟨ch, a3, hch, hcv⟩ := x196 s1 (j := kd (2 * c + 0)) (by show kd (2 * c + 0) < 3; omega)
    obtain ⟨w2, a2, h2, c2⟩ := x154 h1 (by omega) hch ((hT1 ew).trans (by rw [hcv]; exact sep_lit kl))
    rw [if_pos rfl]
    refine ⟨w2, ?_, h2, Nat.le_trans l1 c2.2.1, ext_wk (ext_chB e1 hb0 hv0 c2) (by omega) (by omega)⟩
    rw [bk246_150]
    simp only [z, bk246_156, b2i_0, reduceCtorEq, bk246_159 g1, bk246_163, gfc R1.1, oM_0, oM_1, oM_2, oM_3, oM_4, oM_5, oM_6, oM_7, oM_8, oM_9, oM_10, oM_11, bk246_167, rr, bk246_169, ra, bk246_171, s1.2.2.1, a3, bk246_174, sb_kf h1, a2, bk246_177, bk246_178, nI_add, Option.bind_some, bct_v, bct_t, otl_s, otl_n, List.cons_append, List.nil_append, List.getElem?_cons_zero, List.getElem?_cons_succ, ↓reduceIte]
/-- row -/
theorem y246 (R : RMx w g m kq hq ca ba wl ed wad kd hr cp br n ws th mi nd dr me di re) (hn : n ≤ 3) (hJ : gJ w g) (hS : StW w g) (hk : kdok kd) (hw : ∀ i, i < n → okW (ws i)) {r : Nat} (hr5 : r ≤ 5) : ∃ w' v, am_x 246 [.ref m, .int (nI r)] w = some (.inl (some (.ref v)), w') ∧ RM w' g m kd hr cp br n ws 0 mi nd dr me di re ∧ stp 100 800 g g 20 80 w w' ∧ tS w' w.2.1 v 11 (txS kd cp br n ws r) := by
  have z := fun w => x39 (w := w) (a := 0) (b := 5) (j := r) (by decide) (Nat.zero_le r) hr5
  obtain ⟨w1, a1, R1, f1⟩ := x96 R hn false (c := 1) (by decide)
  have a1' : am_x 96 [.ref m, .int (nI 0), .int (nI 1)] w = _ := a1
  have s1 := stp_frm (lo := 100) (hi := 800) hJ f1 (by decide) (by decide)
  have hJ1 := stp_J s1
  have hS1 := hS.stp (by decide) s1
  have e0 : ext w1 (am_nw w1 (.inr (1, am_df 1 4)) 4) 1 4 := ext_nw
  have b0 : cO (am_nw w1 (.inr (1, am_df 1 4)) 4) w1.2.1 1 [.null, .int 0, .int 0, .int 0] := nw_s
  obtain ⟨w2, a2, h2, l2, ch2⟩ := x111 b0 (Nat.lt_succ_self _) (txS kd cp br n ws r)
  have hbv : (am_nw w1 (.inr (1, am_df 1 4)) 4).2.1 = w1.2.1 + 1 := rfl
  rw [hbv] at h2 l2 ch2
  have e2 : ext w1 w2 2 20 := ext_wk (ext_chB e0 (Nat.le_refl _) (Nat.le_succ _) ch2) (by decide) (by decide)
  have go : ∀ j, j ≤ 6 → ∃ w3 k, ext w1 w3 (2 + 2 * j) (20 + 5 * j) ∧ sB w3 w1.2.1 (w1.2.1 + 1) k (txS kd cp br n ws r) ∧ (k = 2 * j ∧ j ≤ 5 ∨ k = 11 ∧ j = 6) ∧ w1.2.1 + 1 < w3.2.1 ∧ am_run 246 38 [some (.ref m), some (.int (nI r)), some (.ref w1.2.1), some (.int (nI (6 * r))), none, none] [] w2 = am_run 246 38 [some (.ref m), some (.int (nI r)), some (.ref w1.2.1), some (.int (nI (6 * r + j))), none, none] [] w3 := by
    intro j
    induction j with
    | zero => exact fun _ => ⟨w2, 0, e2, h2, Or.inl ⟨rfl, by decide⟩, l2, rfl⟩
    | succ j ih =>
      intro hj
      obtain ⟨w3, k, e3, h3, hk3, l3, t3⟩ := ih (by omega)
      obtain rfl : k = 2 * j := by omega
      obtain ⟨w4, t4, h4, l4, e4⟩ := cell246 (rm_ext R1 hn hJ1 e3) hn (gJ_ext hJ1 e3) (hS1.ext hJ1 e3) hk hw (r := r) (c := 6 * r + j) (by omega) (by omega) hr5 (by rw [tx_0, show r * 6 + j = 6 * r + j by omega]) (fun _ => by rw [tx_1, show r * 6 + j = 6 * r + j by omega]) h3 (by omega) (by omega) l3 e3 (Nat.le_refl _) (Nat.le_succ _) hJ1 R1 hS1
      refine ⟨w4, _, ext_wk e4 (by omega) (by omega), h4, ?_, Nat.lt_of_lt_of_le l3 l4, t3.trans t4⟩
      by_cases ej : j = 5
      · subst ej
        have e9 : nb (6 * r + 5) (0 + 1) = none := by
          unfold nb
          rw [if_neg (by decide), if_pos rfl, if_neg (by omega)]
        rw [if_neg (by rw [e9]; decide)]
        exact Or.inr ⟨rfl, rfl⟩
      · have e9 : nb (6 * r + j) (0 + 1) = some (6 * r + j + 1) := by
          have := nb_row r hr5 j (by omega)
          rw [show r * 6 + j = 6 * r + j by omega] at this
          exact this
        rw [if_pos (by rw [e9]; rfl)]
        exact Or.inl ⟨by omega, by omega⟩
  obtain ⟨w3, k, e3, h3, hk3, l3, t3⟩ := go 6 (Nat.le_refl _)
  obtain rfl : k = 11 := by omega
  obtain ⟨w4, a4, e4, t9⟩ := x238 h3 (by omega) (by omega) l3
  have e5 := ext_tr e3 e4
  refine ⟨w4, w3.2.1, ?_, ⟨_, _, _, _, _, _, _, rm_ext R1 hn hJ1 e5⟩, stp_wk (stp_tr s1 (stp_ext hJ1 e5)) (by omega) (by omega), tS_lo t9 (Nat.le_trans (stp_le s1) (by omega))⟩
  have q7 : (nI (6 * r + 6) ≤ nI (6 * r + 6)) = True := eq_true (by rw [nI_leS (by omega) (by omega)]; exact Nat.le_refl _)
  simp only [bx246, bk246_0, z, bk246_7, n10, not_false_eq_true, bk246_14, bk246_15, rm_kf R, a1', bk246_19, b2i_0, bk246_25, bk246_28, a2, bk246_32, nI_mulS, Option.bind_some, bct_v, bct_t, otl_s, otl_n, List.cons_append, List.nil_append, List.getElem?_cons_zero, List.getElem?_cons_succ, ↓reduceIte]
  refine Eq.trans t3 ?_
  simp only [bk246_38, nI_mulS, nI_add, q7, bk246_184, sb_kf h3, a4, bk246_188, Option.bind_some, bct_v, bct_t, otl_s, otl_n, List.cons_append, List.nil_append, List.getElem?_cons_zero, List.getElem?_cons_succ, ↓reduceIte]
theorem y246n (R : RMx w g m kq hq ca ba wl ed wad kd hr cp br n ws th mi nd dr me di re) (hn : n ≤ 3) (hJ : gJ w g) (hS : StW w g) {z : Int32} (hz : z < nI 0 ∨ nI 5 < z) : ∃ w' v, am_x 246 [.ref m, .int z] w = some (.inl (some (.ref v)), w') ∧ RM w' g m kd hr cp br n ws 1 mi nd dr me di re ∧ stp 100 800 g g 0 0 w w' := by
  have y := fun w => x39n (w := w) (a := 0) (b := 5) hz
  obtain ⟨w1, a1, R1, f1⟩ := x96 R hn true (c := 1) (by decide)
  have a1' : am_x 96 [.ref m, .int (nI 1), .int (nI 1)] w = _ := a1
  have s1 := stp_frm (lo := 100) (hi := 800) hJ f1 (by decide) (by decide)
  obtain ⟨q, v, g1, t1, -, -⟩ := sT_lit (hS.stp (by decide) s1) (r := 24) (by decide) (by decide)
  refine ⟨w1, q, ?_, ⟨_, _, _, _, _, _, _, R1⟩, s1⟩
  simp only [bx246, bk246_0, y, bk246_7, not_true_eq_false, bk246_10, bk246_15, rm_kf R, a1', bk246_19, b2i_0, reduceCtorEq, bk246_22 g1, bk246_24, Option.bind_some, bct_v, bct_t, otl_s, otl_n, List.cons_append, List.nil_append, List.getElem?_cons_zero, List.getElem?_cons_succ, ↓reduceIte]
end RR
/-- both sides of row -/
def JR (z : Int32) (S : sS) : Prop := ∃ (th : Nat) (T : Nat → Int32), th ≤ 1 ∧ (∀ (w : am_Wd) (g : Nat → Nat) (x : Nat), RC w g x S → gJ w g → StW w g → ∃ w1 r, am_x 243 [.ref x, .int z] w = some (r, w1) ∧ RC w1 g x S ∧ stp 1 40 g g 100 200 w w1 ∧ (th = 0 → ∃ v, r = .inl (some (.ref v)) ∧ tS w1 w.2.1 v 11 T) ∧ (th ≠ 0 → r = .inr (am_xn (exA th)))) ∧ (∀ (w : am_Wd) (g : Nat → Nat) (m t : Nat), RN w g m S t → gJ w g → StW w g → ∃ w1 v, am_x 246 [.ref m, .int z] w = some (.inl (some (.ref v)), w1) ∧ RN w1 g m S th ∧ stp 100 800 g g 500 13000 w w1 ∧ (th = 0 → tS w1 w.2.1 v 11 T))
theorem j_row {kd hr : Nat → Nat} {cp br : Nat → Bool} {n : Nat} {ws : Nat → sW} {mi nd : Nat} {dr me di re : Int32} (ok : okS (kd, hr, cp, br, n, ws, mi, nd, dr, me, di, re)) (z : Int32) : JR z (kd, hr, cp, br, n, ws, mi, nd, dr, me, di, re) := by
  obtain ⟨hk, hh, hz, hn, hm, hd, hw⟩ := id ok
  rcases ixr_c (a := 0) (b := 5) (by decide) (by decide) z with ⟨-, q⟩ | ⟨r, -, hr5, rfl, -⟩
  · refine ⟨1, fun _ => nI 0, by decide, fun w g x R hJ _ => ?_, fun w g m t R hJ hS => ?_⟩
    · obtain ⟨fl, ka, ha, wr, C, B, wad, R⟩ := R
      exact ⟨_, _, x243n q, ⟨fl, ka, ha, wr, C, B, wad, rc_jk R hn 1 6⟩, stp_wk (stp_ext hJ jk_ext) (by decide) (by decide), fun h => absurd h (by decide), fun _ => rfl⟩
    · obtain ⟨kq, hq, ca, ba, wl, ed, wad, R⟩ := R
      obtain ⟨w1, v, a, b, c⟩ := y246n R hn hJ hS q
      exact ⟨w1, v, a, b, stp_wk c (by decide) (by decide), fun h => absurd h (by decide)⟩
  · refine ⟨0, txS kd cp br n ws r, by decide, fun w g x R hJ _ => ?_, fun w g m t R hJ hS => ?_⟩
    · obtain ⟨fl, ka, ha, wr, C, B, wad, R⟩ := R
      obtain ⟨w1, v, a, e, t⟩ := x243 R hn hJ hk hw hr5
      exact ⟨w1, _, a, ⟨fl, ka, ha, wr, C, B, wad, rc_ext R hn hJ e⟩, stp_wk (stp_ext hJ e) (by decide) (by decide), fun _ => ⟨v, rfl, t⟩, fun h => absurd rfl h⟩
    · obtain ⟨kq, hq, ca, ba, wl, ed, wad, R⟩ := R
      obtain ⟨w1, v, a, b, c, t⟩ := y246 R hn hJ hS hk hw hr5
      exact ⟨w1, v, a, b, stp_wk c (by decide) (by decide), fun _ => t⟩
