/-! TEXTS MADE: out of what is built, of small numbers; a character of a text. Mine. -/
section TX
variable {w : am_Wd} {b va k s v len : Nat} {T F : Nat → Int32}
theorem sub0 (k : Nat) : nI k - nI 0 = nI k := by rw [nI_subS (Nat.zero_le k), Nat.sub_zero]
theorem x116 (h : sB w b va k T) (hk : k < 16) (hv : va < w.2.1) : ∃ w', am_x 116 [.ref va, .int (nI 0), .int (nI k)] w = some (.inl (some (.ref w.2.1)), w') ∧ ext w w' 1 k ∧ w'.2.1 = w.2.1 + 1 ∧ ∃ f, w'.1 w.2.1 = some (.inl (3, k, .inl f)) ∧ ∀ j, j < k → f j = T j := by
  obtain ⟨h1, ⟨f, h2, h3⟩, h4⟩ := h
  have n1 : am_na w 3 (nI k) = some (am_nw w (.inl (3, k, am_in 3)) k) := nac (by omega)
  have c1 : cI (am_nw w (.inl (3, k, am_in 3)) k) va 3 16 f := cI_of h2 (nw_n (by omega))
  have r1 : (am_nw w (.inl (3, k, am_in 3)) k).1 w.2.1 = some (.inl (3, k, .inl (fun _ => 0))) := nw_s
  have z0 : (nI 0).toNatClampNeg = 0 := nI_clamp (by decide)
  have zk : (nI k).toNatClampNeg = k := nI_clamp (by omega)
  have e : am_cy (am_nw w (.inl (3, k, am_in 3)) k) va (nI 0) w.2.1 (nI 0) (nI k) = some (am_pt (am_nw w (.inl (3, k, am_in 3)) k) w.2.1 (.inl (3, k, .inl (va_cpy f (fun _ => 0) 0 0 k)))) := by
    unfold am_cy
    rw [show (am_nw w (.inl (3, k, am_in 3)) k).1 va = _ from c1, r1]
    dsimp only
    rw [z0, zk]
    refine if_pos ⟨⟨rfl, rfl, nI_pos (by decide), nI_pos (by decide), nI_pos (by omega)⟩, ⟨by omega, by omega⟩, fun i hi => ?_⟩
    rw [Nat.zero_add]
    exact (h3 i (by omega)).1
  have m1 : bj_min (nI 16) (nI k) = nI k := by rw [bj_minS (by decide) (by omega), Nat.min_eq_right (by omega)]
  have q : nI 0 ≤ nI k := by rw [nI_leS (by decide) (by omega)]; omega
  refine ⟨am_pt (am_nw w (.inl (3, k, am_in 3)) k) w.2.1 (.inl (3, k, .inl (va_cpy f (fun _ => 0) 0 0 k))), ?_, ext_pt ext_nw (Nat.le_refl _), rfl, _, pt_s, fun j hj => ?_⟩
  · simp only [bx116, bk116_0, bx70, bk70_0 q, bk70_37, bk116_5, sub0, n1, bk116_12, lenI c1 (by decide), bk116_21, m1, e, bk116_30, Option.bind_some, bct_v, bct_t, otl_s, otl_n, List.cons_append, List.nil_append, List.getElem?_cons_zero, List.getElem?_cons_succ, ↓reduceIte]
  · unfold va_cpy
    rw [if_pos ⟨Nat.zero_le j, by omega⟩, Nat.zero_add, Nat.sub_zero]
    exact (h3 j (by omega)).2 hj
theorem x156 (h : sB w b va k T) (hk : k < 16) (hv : va < w.2.1) : ∃ w', am_x 156 [.ref va, .int (nI 0), .int (nI k)] w = some (.inl (some (.ref w.2.1)), w') ∧ ext w w' 1 k ∧ w'.2.1 = w.2.1 + 1 ∧ ∃ f, w'.1 w.2.1 = some (.inl (3, k, .inl f)) ∧ ∀ j, j < k → f j = T j := by
  obtain ⟨w', a, e, fe⟩ := x116 h hk hv
  obtain ⟨h1, ⟨f, h2, h3⟩, h4⟩ := h
  refine ⟨w', ?_, e, fe⟩
  have q : (nI k = nI 16) = False := by rw [nI_eqS (by omega) (by decide)]; exact eq_false (by omega)
  simp only [bx156, bk156_0, not_true_eq_false, bk156_4, lenI h2 (by decide), bk156_7, q, bk156_10, a, bk156_16, Option.bind_some, bct_v, bct_t, otl_s, otl_n, List.cons_append, List.nil_append, List.getElem?_cons_zero, List.getElem?_cons_succ, ↓reduceIte]
theorem x197 (h : sB w b va k T) (hk : k < 16) (hb : b < w.2.1) (hv : va < w.2.1) (hs : cO w s 0 [.null, .int 0, .int 0, .int 0]) (hsl : s < w.2.1) (n1 : s ≠ b) (n2 : s ≠ va) : ∃ w', am_x 197 [.ref s, .ref b, .null] w = some (.inl none, w') ∧ (∀ c, c < w.2.1 → c ≠ s → w'.1 c = w.1 c) ∧ w.2.1 ≤ w'.2.1 ∧ w'.2.1 ≤ w.2.1 + 1 ∧ w.2.2.1 ≤ w'.2.2.1 ∧ w'.2.2.1 ≤ w.2.2.1 + k ∧ w'.2.2.2 = w.2.2.2 ∧ w'.2.1 = w.2.1 + 1 ∧ cO w' s 0 [.ref w.2.1, .int (nI 0), .int 0, .int 0] ∧ ∃ f, w'.1 w.2.1 = some (.inl (3, k, .inl f)) ∧ ∀ j, j < k → f j = T j := by
  have x64 : am_x 64 [.ref b] w = some (.inl (some (.ref va)), w) := by
    simp only [bk64_0, bk64_4, bx64, gfc h.1, bO_0, Option.bind_some, bct_v, bct_t, otl_s, otl_n, List.cons_append, List.nil_append, List.getElem?_cons_zero, List.getElem?_cons_succ, ↓reduceIte]
  have x112 : am_x 112 [.ref b] w = some (.inl (some (.int (nI k))), w) := by
    simp only [bk112_0, bk112_4, bx112, bk67_0, bk67_4, bx67, sb_kf h, gfc h.1, bO_3, Option.bind_some, bct_v, bct_t, otl_s, otl_n, List.cons_append, List.nil_append, List.getElem?_cons_zero, List.getElem?_cons_succ, ↓reduceIte]
  have p1 : am_pf w s 0 1 (.int (nI 0)) = some (am_pt w s (.inr (0, [.null, .int (nI 0), .int 0, .int 0]))) := pfc hs (by show 1 < 4; decide) (by decide)
  have h' : sB (am_pt w s (.inr (0, [.null, .int (nI 0), .int 0, .int 0]))) b va k T := by
    obtain ⟨h1, ⟨f, h2, h3⟩, h4⟩ := h
    exact ⟨cO_of h1 (pt_n (Ne.symm n1)), ⟨f, cI_of h2 (pt_n (Ne.symm n2)), h3⟩, h4⟩
  obtain ⟨w2, a2, e2, l2, f2, g2, g3⟩ := x156 h' hk hv
  have l2 : w2.2.1 = w.2.1 + 1 := l2
  have g2 : w2.1 w.2.1 = some (.inl (3, k, .inl f2)) := g2
  have q2 : cO w2 s 0 [.null, .int (nI 0), .int 0, .int 0] := cO_of (w := am_pt w s (.inr (0, [.null, .int (nI 0), .int 0, .int 0]))) pt_s (e2.1 s hsl)
  have p2 : am_pf w2 s 0 0 (.ref w.2.1) = some (am_pt w2 s (.inr (0, [.ref w.2.1, .int (nI 0), .int 0, .int 0]))) := pfc q2 (by show 0 < 4; decide) (by decide)
  have a2' : am_x 156 [.ref va, .int (nI 0), .int (nI k)] (am_pt w s (.inr (0, [.null, .int (nI 0), .int 0, .int 0]))) = some (.inl (some (.ref w.2.1)), w2) := a2
  obtain ⟨b1, b2, b3, b4, b5, b6⟩ := e2
  refine ⟨am_pt w2 s (.inr (0, [.ref w.2.1, .int (nI 0), .int 0, .int 0])), ?_, fun c hc hn => (pt_n hn).trans ((b1 c hc).trans (pt_n hn)), b2, b3, b4, b5, b6, l2, pt_s, f2, (pt_n (by omega)).trans g2, g3⟩
  simp only [bx197, bk197_0, sb_kf h, x64, bk197_8, x112, bk197_13, x66 h, bk197_19, n10, bk197_22, p1, bk197_27, a2', bk197_35, p2, bk197_38, bk197_97, Option.bind_some, bct_v, bct_t, otl_s, otl_n, List.cons_append, List.nil_append, List.getElem?_cons_zero, List.getElem?_cons_succ, ↓reduceIte]
/-- a text made: its k characters are the text's; made since lo -/
def tS (w : am_Wd) (lo s k : Nat) (T : Nat → Int32) : Prop := ∃ (v : Nat) (f : Nat → Int32), cO w s 0 [.ref v, .int (nI 0), .int 0, .int 0] ∧ w.1 v = some (.inl (3, k, .inl f)) ∧ (∀ j, j < k → f j = T j) ∧ lo ≤ s ∧ lo ≤ v ∧ s < w.2.1 ∧ v < w.2.1
theorem x238 (h : sB w b va k T) (hk : k < 16) (hb : b < w.2.1) (hv : va < w.2.1) : ∃ w', am_x 238 [.ref b] w = some (.inl (some (.ref w.2.1)), w') ∧ ext w w' 2 (4 + k) ∧ tS w' w.2.1 w.2.1 k T := by
  have e1 : ext w (am_nw w (.inr (0, am_df 0 4)) 4) 1 4 := ext_nw
  have h' := h.ext hb hv e1
  have s1 : cO (am_nw w (.inr (0, am_df 0 4)) 4) w.2.1 0 [.null, .int 0, .int 0, .int 0] := nw_s
  obtain ⟨w2, a2, b1, b2, b3, b4, b5, b6, l2, t1, f2, t2, t3⟩ := x197 (s := w.2.1) h' hk (Nat.lt_succ_of_lt hb) (Nat.lt_succ_of_lt hv) s1 (Nat.lt_succ_self _) (by omega) (by omega)
  have b2 : w.2.1 + 1 ≤ w2.2.1 := b2
  have l2 : w2.2.1 = w.2.1 + 1 + 1 := l2
  have b3 : w2.2.1 ≤ w.2.1 + 1 + 1 := b3
  have b4 : w.2.2.1 + 4 ≤ w2.2.2.1 := b4
  have b5 : w2.2.2.1 ≤ w.2.2.1 + 4 + k := b5
  refine ⟨w2, ?_, ⟨fun c hc => (b1 c (Nat.lt_succ_of_lt hc) (by omega)).trans (e1.1 c hc), by omega, by omega, by omega, by omega, b6⟩, w.2.1 + 1, f2, t1, t2, t3, Nat.le_refl _, Nat.le_succ _, by omega, by omega⟩
  simp only [bx238, bk238_0, bk238_3, bx221, bk221_0, a2, bk221_6, bk238_8, Option.bind_some, bct_v, bct_t, otl_s, otl_n, List.cons_append, List.nil_append, List.getElem?_cons_zero, List.getElem?_cons_succ, ↓reduceIte]
/-! small numbers -/
theorem sm_f : ∀ i, i ≤ 2 → ((nI i < nI 0) = False) ∧ ((-(nI i) ≤ (-10 : Int32)) = False) ∧ ((nI 0 ≤ nI i) = True) ∧ (((-100 : Int32) < -(nI i)) = True) ∧ (((-9 : Int32) ≤ -(nI i)) = True) ∧ (-(-(nI i)) = nI i) := by
  intro i hi
  have h : ∀ j : Fin 3, (¬ nI j.val < nI 0) ∧ (¬ -(nI j.val) ≤ (-10 : Int32)) ∧ (nI 0 ≤ nI j.val) ∧ ((-100 : Int32) < -(nI j.val)) ∧ ((-9 : Int32) ≤ -(nI j.val)) ∧ (-(-(nI j.val)) = nI j.val) := by decide +kernel
  obtain ⟨a, b, c, d, e, f⟩ := h ⟨i, by omega⟩
  exact ⟨eq_false a, eq_false b, eq_true c, eq_true d, eq_true e, f⟩
theorem x69 {i : Nat} (hi : i ≤ 2) : am_x 69 [.int (nI i)] w = some (.inl (some (.int (nI 1))), w) := by
  obtain ⟨a, b, -⟩ := sm_f i hi
  have q : (nI 10 ≤ nI 1) = False := eq_false (by decide)
  simp only [bx69, bk69_0, a, bk69_6, bk69_11, bk69_16, q, bk69_22, b, bk69_27, nI_add, Nat.reduceAdd, Option.bind_some, bct_v, bct_t, otl_s, otl_n, List.cons_append, List.nil_append, List.getElem?_cons_zero, List.getElem?_cons_succ, ↓reduceIte]
theorem x68 {row d : Nat} {f f0 : Nat → Int32} {i : Nat} (hi : i ≤ 2) (hd : w.2.2.2 2 = some d) (hd2 : w.1 d = some (.inl (11, 100, .inl f))) (hr : cI w row 3 1 f0) : am_x 68 [.int (nI i), .int (nI 1), .ref row] w = some (.inl (some (.int (nI 0))), am_pt w row (.inl (3, 1, .inl (upd f0 0 (vp_nar .byte (f i)))))) := by
  obtain ⟨-, -, a, b, c, e⟩ := sm_f i hi
  have r1 : am_ri 3 w d (nI i) = some (f i) := ric (t := 11) hd2 rfl (by omega) (by decide)
  have w1 : am_wi 3 w row (nI 0) (vp_nar .byte (f i)) = some (am_pt w row (.inl (3, 1, .inl (upd f0 0 (vp_nar .byte (f i)))))) := wic hr (by decide) (by decide)
  have z : nI 1 + (-1 : Int32) = nI 0 := by decide
  simp only [bx68, bk68_0, a, bk68_11, bk68_12, not_true_eq_false, bk68_19, bk68_22, b, bk68_72 hd, bk68_81, e, r1, bk68_84, z, w1, bk68_85, c, bk68_104, bk68_118, Option.bind_some, bct_v, bct_t, otl_s, otl_n, List.cons_append, List.nil_append, List.getElem?_cons_zero, List.getElem?_cons_succ, ↓reduceIte]
theorem nar_dg {i : Nat} (hi : i ≤ 2) : vp_nar .byte (nI (48 + i)) = nI (48 + i) := by
  have h : ∀ j : Fin 3, vp_nar .byte (nI (48 + j.val)) = nI (48 + j.val) := by decide +kernel
  exact h ⟨i, by omega⟩
theorem x152 {g : Nat → Nat} (hS : StW w g) {i : Nat} (hi : i ≤ 2) : ∃ w', am_x 152 [.int (nI i)] w = some (.inl (some (.ref (w.2.1 + 1))), w') ∧ sT w' (w.2.1 + 1) w.2.1 1 (fun _ => nI (48 + i)) ∧ ext w w' 2 5 ∧ w'.2.1 = w.2.1 + 2 := by
  obtain ⟨-, -, d, f, d1, d2, d3, -, d5⟩ := hS
  have n1 : am_na w 3 (nI 1) = some (am_nw w (.inl (3, 1, am_in 3)) 1) := nac (by decide)
  have r1 : cI (am_nw w (.inl (3, 1, am_in 3)) 1) w.2.1 3 1 (fun _ => 0) := nw_s
  have dd : (am_nw w (.inl (3, 1, am_in 3)) 1).1 d = some (.inl (11, 100, .inl f)) := (nw_n (by omega)).trans d2
  have z := x68 (w := am_nw w (.inl (3, 1, am_in 3)) 1) hi d1 dd r1
  have e1 : ext w (am_pt (am_nw w (.inl (3, 1, am_in 3)) 1) w.2.1 (.inl (3, 1, .inl (upd (fun _ => 0) 0 (vp_nar .byte (f i)))))) 1 1 := ext_pt ext_nw (Nat.le_refl _)
  have c1 : (am_pt (am_nw w (.inl (3, 1, am_in 3)) 1) w.2.1 (.inl (3, 1, .inl (upd (fun _ => 0) 0 (vp_nar .byte (f i)))))).1 w.2.1 = some (.inl (3, 1, .inl (upd (fun _ => 0) 0 (vp_nar .byte (f i))))) := pt_s
  have l1 : (am_pt (am_nw w (.inl (3, 1, am_in 3)) 1) w.2.1 (.inl (3, 1, .inl (upd (fun _ => 0) 0 (vp_nar .byte (f i)))))).2.1 = w.2.1 + 1 := rfl
  generalize am_pt (am_nw w (.inl (3, 1, am_in 3)) 1) w.2.1 (.inl (3, 1, .inl (upd (fun _ => 0) 0 (vp_nar .byte (f i))))) = w1 at z e1 c1 l1
  have e2 : ext w1 (am_nw w1 (.inr (0, am_df 0 4)) 4) 1 4 := ext_nw
  have s1 : cO (am_nw w1 (.inr (0, am_df 0 4)) 4) w1.2.1 0 [.null, .int 0, .int 0, .int 0] := nw_s
  have p1 : am_pf (am_nw w1 (.inr (0, am_df 0 4)) 4) w1.2.1 0 0 (.ref w.2.1) = some (am_pt (am_nw w1 (.inr (0, am_df 0 4)) 4) w1.2.1 (.inr (0, [.ref w.2.1, .int 0, .int 0, .int 0]))) := pfc s1 (by show 0 < 4; decide) (by decide)
  have s2 : cO (am_pt (am_nw w1 (.inr (0, am_df 0 4)) 4) w1.2.1 (.inr (0, [.ref w.2.1, .int 0, .int 0, .int 0]))) w1.2.1 0 [.ref w.2.1, .int 0, .int 0, .int 0] := pt_s
  have p2 : am_pf (am_pt (am_nw w1 (.inr (0, am_df 0 4)) 4) w1.2.1 (.inr (0, [.ref w.2.1, .int 0, .int 0, .int 0]))) w1.2.1 0 1 (.int (nI 0)) = some (am_pt (am_nw w1 (.inr (0, am_df 0 4)) 4) w1.2.1 (.inr (0, [.ref w.2.1, .int (nI 0), .int 0, .int 0]))) := by
    rw [pfc s2 (by show 1 < 4; decide) (by decide), pt_pt]
    rfl
  have s3 : cO (am_pt (am_nw w1 (.inr (0, am_df 0 4)) 4) w1.2.1 (.inr (0, [.ref w.2.1, .int (nI 0), .int 0, .int 0]))) w1.2.1 0 [.ref w.2.1, .int (nI 0), .int 0, .int 0] := pt_s
  have c3 : (am_pt (am_nw w1 (.inr (0, am_df 0 4)) 4) w1.2.1 (.inr (0, [.ref w.2.1, .int (nI 0), .int 0, .int 0]))).1 w.2.1 = some (.inl (3, 1, .inl (upd (fun _ => 0) 0 (vp_nar .byte (f i))))) := (pt_n (by omega)).trans ((nw_n (by omega)).trans c1)
  have e3 : ext w1 (am_pt (am_nw w1 (.inr (0, am_df 0 4)) 4) w1.2.1 (.inr (0, [.ref w.2.1, .int (nI 0), .int 0, .int 0]))) 1 4 := ext_pt e2 (Nat.le_refl _)
  have hs : sT (am_pt (am_nw w1 (.inr (0, am_df 0 4)) 4) w1.2.1 (.inr (0, [.ref w.2.1, .int (nI 0), .int 0, .int 0]))) w1.2.1 w.2.1 1 (fun _ => nI (48 + i)) := by
    refine ⟨gfc s3, gfc s3, kfc s3, ⟨3, _, c3, rfl, fun j hj => ?_⟩, by decide⟩
    have : j = 0 := by omega
    subst this
    show am_ok .byte (.int (if 0 = 0 then vp_nar .byte (f i) else 0)) = true ∧ (if 0 = 0 then vp_nar .byte (f i) else 0) = nI (48 + i)
    rw [if_pos rfl]
    exact ⟨byte_ok _, by rw [d5 i hi]; exact nar_dg hi⟩
  have l2 : (am_pt (am_nw w1 (.inr (0, am_df 0 4)) 4) w1.2.1 (.inr (0, [.ref w.2.1, .int (nI 0), .int 0, .int 0]))).2.1 = w1.2.1 + 1 := rfl
  refine ⟨am_pt (am_nw w1 (.inr (0, am_df 0 4)) 4) w1.2.1 (.inr (0, [.ref w.2.1, .int (nI 0), .int 0, .int 0])), ?_, l1 ▸ hs, ext_tr e1 e3, by omega⟩
  rw [← l1]
  simp only [bx152, bk152_0, bx115, bk115_0, x69 hi, bk115_4, n10, bk115_11, n1, bk115_14, z, bk115_21, bk115_25, bx60, bk60_0, p1, bk60_9 (l2 := nI 0) rfl, p2, bk60_14, bk115_31, bk152_4, Option.bind_some, bct_v, bct_t, otl_s, otl_n, List.cons_append, List.nil_append, List.getElem?_cons_zero, List.getElem?_cons_succ, ↓reduceIte]
/-! a character -/
theorem and255 (x : Int32) : ∃ n, n ≤ 255 ∧ x &&& nI 255 = nI n := by
  obtain ⟨n, h1, rfl⟩ := wb_of32 x
  refine ⟨n &&& 255, Nat.and_le_right, ?_⟩
  apply Int32.toBitVec_inj.mp
  rw [Int32.toBitVec_and]
  apply BitVec.eq_of_toNat_eq
  show (BitVec.ofNat 32 n &&& BitVec.ofNat 32 255).toNat = (BitVec.ofNat 32 (n &&& 255)).toNat
  rw [BitVec.toNat_and, BitVec.toNat_ofNat, BitVec.toNat_ofNat, BitVec.toNat_ofNat, Nat.mod_eq_of_lt h1, Nat.mod_eq_of_lt (show 255 < 2 ^ 32 by decide), Nat.mod_eq_of_lt (Nat.lt_of_le_of_lt Nat.and_le_right (by decide))]
theorem chr_ok : ∀ n, n ≤ 255 → am_ok (am_rt 2) (.int (bj_i2c (nI n))) = true ∧ ¬ nI 255 < bj_i2c (nI n) := by
  intro n hn
  have h : ∀ j : Fin 256, am_ok (am_rt 2) (.int (bj_i2c (nI j.val))) = true ∧ ¬ nI 255 < bj_i2c (nI j.val) := by decide +kernel
  exact h ⟨n, by omega⟩
theorem x108 {j : Nat} (hj : j < len) (hl : len ≤ 3) : am_x 108 [.int (nI j), .int (nI len)] w = some (.inl none, w) := by
  have q1 : (nI j < nI 0) = False := by rw [nI_ltS (by omega) (by decide)]; exact eq_false (by omega)
  have q2 : (nI j < nI len) = True := by rw [nI_ltS (by omega) (by omega)]; exact eq_true hj
  cases e : w.2.2.2 4 with
  | some sg =>
    simp only [bx108, bk108_0 e, bk108_5, bx58, bk58_0, q1, bk58_4, q2, bk58_16, bk108_8, Option.bind_some, bct_v, bct_t, otl_s, otl_n, List.cons_append, List.nil_append, List.getElem?_cons_zero, List.getElem?_cons_succ, ↓reduceIte]
  | none =>
    have st : am_run 108 0 [some (.int (nI j)), some (.int (nI len))] [] w = am_run 108 5 [none, none] [.null, .int (nI len), .int (nI j)] w := by
      refine (bu (ls'' := [none, some (.int (nI len))]) (st' := [.int (nI j)]) bf108_0 bf108_1 rfl rfl).trans ?_
      refine (bu (ls'' := [none, none]) (st' := [.int (nI len), .int (nI j)]) bf108_1 bf108_2 rfl rfl).trans ?_
      exact bu (ls'' := [none, none]) (st' := [.null, .int (nI len), .int (nI j)]) bf108_2 bf108_5 (by show some _ = _; rw [e]; rfl) rfl
    have s5 : am_run 108 5 [none, none] [.null, .int (nI len), .int (nI j)] w = (am_x 58 [.int (nI j), .int (nI len), .null] w).bind fun r => bct r fun v w' => am_run 108 8 [none, none] (v.toList ++ []) w' := bkS bf108_5 bf108_8 rfl (by decide +kernel) (Nat.le_of_ble_eq_true rfl) rfl (bhd rfl)
    rw [bx108, st, s5, x58 hj (by omega)]
    simp only [bk108_8, Option.bind_some, bct_v, bct_t, otl_s, otl_n, List.cons_append, List.nil_append, List.getElem?_cons_zero, List.getElem?_cons_succ, ↓reduceIte]
theorem x196 (h : sT w s v len F) {j : Nat} (hj : j < len) : ∃ c, am_x 196 [.ref s, .int (nI j)] w = some (.inl (some (.int c)), w) ∧ ¬ nI 255 < c ∧ c = bj_i2c (F j &&& nI 255) := by
  have hl := sT_len h
  have q := x61 h
  obtain ⟨s1, s2, s3, ⟨t, f, s4, s5, s6⟩, s7⟩ := h
  have r1 : am_ri 3 w v (nI j) = some (f j) := ric (t := t) s4 s5 hj (by omega)
  obtain ⟨n, n1, n2⟩ := and255 (f j)
  obtain ⟨c1, c2⟩ := chr_ok n n1
  refine ⟨bj_i2c (nI n), ?_, c2, by rw [← (s6 j hj).2, n2]⟩
  have x153 : am_x 153 [.ref v, .int (nI j)] w = some (.inl (some (.int (bj_i2c (nI n)))), w) := by
    simp only [bx153, bk153_0, hl, bk153_3, x108 hj s7, bk153_6, r1, Option.bind_some, bct_v, bct_t, otl_s, otl_n, List.cons_append, List.nil_append, List.getElem?_cons_zero, List.getElem?_cons_succ, ↓reduceIte]
    rw [bk153_9 (by rw [n2]; exact c1), n2]
  simp only [bx196, bk196_0, s3, q, bk196_4, n10, bk196_7, s1, bk196_11, x153, bk196_15 c1, Option.bind_some, bct_v, bct_t, otl_s, otl_n, List.cons_append, List.nil_append, List.getElem?_cons_zero, List.getElem?_cons_succ, ↓reduceIte]
end TX
