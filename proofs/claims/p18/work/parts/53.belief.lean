/-! BELIEF AND MAP, the class's: what their methods come to. Mine. -/
def arL (N : Nat → Nat) : am_En := .inl (1, 4, .inr (.inl (fun j => lN (N j))))
/-- what a map says of an edge: 0, 1 free, 2 wall -/
def kno (mp : Nat → Nat) (c s : Nat) : Nat := match nb c s with
  | none => 2
  | some _ => mp (plc c s)
def fitP (mp : Nat → Nat) (s : Nat) (b : Bool) (c : Nat) : Bool := !(kno mp c s == (if b = true then 1 else 2))
def stP (may : Nat → Bool) (mp : Nat → Nat) (b : Bool) (s c : Nat) : Bool := may (4 * c + s) && fitP mp s b c
def fwdP (may : Nat → Bool) (mp : Nat → Nat) (b : Bool) (s c : Nat) : Bool := if b = true then stP may mp true s c else stP may mp false s c || mvd (stP may mp false s) s c
def feltP (may : Nat → Bool) (mp : Nat → Nat) (t s c : Nat) : Bool := may (4 * c + s) && fitP mp ((s + 3 + 0) % 4) (t.testBit 0) c && fitP mp ((s + 3 + 1) % 4) (t.testBit 1) c && fitP mp ((s + 3 + 2) % 4) (t.testBit 2) c
/-- a map's cells -/
def Mv (w : am_Wd) (m fa wa : Nat) (F W : Nat → Nat) (mp : Nat → Nat) : Prop := cO w m 7 [.ref fa, .ref wa] ∧ cL w fa 4 (fun j => lN (F j)) ∧ cL w wa 4 (fun j => lN (W j)) ∧ ∀ s, s < 4 → bm (F s) (fun c => kno mp c s == 1) ∧ bm (W s) (fun c => kno mp c s == 2)
/-- a belief's cells -/
def Bv (w : am_Wd) (a ca : Nat) (N : Nat → Nat) : Prop := cO w a 4 [.ref ca] ∧ cL w ca 4 (fun j => lN (N j))
def bmy (N : Nat → Nat) (may : Nat → Bool) : Prop := ∀ s, s < 4 → bm (N s) (fun c => may (4 * c + s))
theorem Mv.of {w w' : am_Wd} {m fa wa : Nat} {F W mp : Nat → Nat} (h : Mv w m fa wa F W mp) (e1 : w'.1 m = w.1 m) (e2 : w'.1 fa = w.1 fa) (e3 : w'.1 wa = w.1 wa) : Mv w' m fa wa F W mp := ⟨cO_of h.1 e1, cL_of h.2.1 e2, cL_of h.2.2.1 e3, h.2.2.2⟩
theorem Bv.of {w w' : am_Wd} {a ca : Nat} {N : Nat → Nat} (h : Bv w a ca N) (e1 : w'.1 a = w.1 a) (e2 : w'.1 ca = w.1 ca) : Bv w' a ca N := ⟨cO_of h.1 e1, cL_of h.2 e2⟩
theorem Bv.pt {w : am_Wd} {a ca : Nat} {N M : Nat → Nat} (h : Bv w a ca N) (hne : a ≠ ca) : Bv (am_pt w ca (arL M)) a ca M := ⟨cO_of h.1 (pt_n hne), pt_s⟩
theorem pt_id {w : am_Wd} {a : Nat} {e : am_En} (h : w.1 a = some e) : am_pt w a e = w := by
  unfold am_pt
  refine Prod.ext (funext fun b => ?_) rfl
  dsimp only
  by_cases hb : b = a
  · rw [if_pos hb, hb, h]
  · rw [if_neg hb]
section BEL
variable {w : am_Wd} {a ca m fa wa : Nat} {N F W mp : Nat → Nat} {may : Nat → Bool}
theorem c144 (q : Nat → Bool) : 0 + cnt 36 (fun c => q (4 * c + 0)) + cnt 36 (fun c => q (4 * c + 1)) + cnt 36 (fun c => q (4 * c + 2)) + cnt 36 (fun c => q (4 * c + 3)) = cnt 144 q := by
  have e := cnt_4 q 36
  show 0 + cnt 36 (fun c => q (4 * c)) + cnt 36 (fun c => q (4 * c + 1)) + cnt 36 (fun c => q (4 * c + 2)) + cnt 36 (fun c => q (4 * c + 3)) = cnt (4 * 36) q
  rw [e]
  omega
theorem x72 (hb : Bv w a ca N) (hN : bmy N may) : am_x 72 [.ref a] w = some (.inl (some (.int (nI (cnt 144 may)))), w) := by
  have r0 := rlc hb.2 (i := 0) (by decide) (by decide)
  have r1 := rlc hb.2 (i := 1) (by decide) (by decide)
  have r2 := rlc hb.2 (i := 2) (by decide) (by decide)
  have r3 := rlc hb.2 (i := 3) (by decide) (by decide)
  have b0 := bc_36 (hN 0 (by decide)) w
  have b1 := bc_36 (hN 1 (by decide)) w
  have b2 := bc_36 (hN 2 (by decide)) w
  have b3 := bc_36 (hN 3 (by decide)) w
  simp only [bk72_0, bk72_4, bk72_27, bk72_9, bk72_14, bk72_16, bk72_19, bx72, gfc hb.1, r0, r1, r2, r3, b0, b1, b2, b3, Option.bind_some, bct_v, bct_t, otl_s, otl_n, List.cons_append, List.nil_append, List.getElem?_cons_zero, List.getElem?_cons_succ, ↓reduceIte, nI_add, nI_leS, nI_ltS, nI_eqS, nI_m1S, Nat.reduceAdd, Nat.reduceLT, Nat.reduceLeDiff, Nat.reduceMul, Nat.reduceEqDiff, not_true_eq_false, not_false_eq_true]
  rw [c144 may]
theorem x73 (hb : Bv w a ca N) (hN : bmy N may) {p : Nat} (hp : p < 144) : am_x 73 [.ref a, .int (nI p)] w = some (.inl (some (.int (b2i (may p)))), w) := by
  have r0 := rlc hb.2 (i := p % 4) (by omega) (by decide)
  have h1 := has (w := w) (c := p / 4) (bm_lt (hN (p % 4) (by omega))) (by omega)
  have h2 : (N (p % 4)).testBit (p / 4) = may p := ((hN (p % 4) (by omega)).2 (p / 4) (by omega)).trans (congrArg may (by omega))
  rw [h2] at h1
  rw [bx73, bk73_0, gfc hb.1]
  show am_run 73 4 _ _ _ = _
  rw [bk73_4, nI_and3 (by omega), r0]
  show am_run 73 8 _ _ _ = _
  rw [bk73_8, nI_divS (by omega) (by decide) (by decide), h1]
  show am_run 73 14 _ [.int (b2i (may p))] w = _
  rw [bk73_14 (b2i_ok _)]
theorem x3 (hb : Bv w a ca N) (hN : bmy N may) : ∃ K, am_x 3 [.ref a] w = some (.inl (some (.long (lN K))), w) ∧ bm K (fun c => may (4 * c) || may (4 * c + 1) || may (4 * c + 2) || may (4 * c + 3)) := by
  have r0 := rlc hb.2 (i := 0) (by decide) (by decide)
  have r1 := rlc hb.2 (i := 1) (by decide) (by decide)
  have r2 := rlc hb.2 (i := 2) (by decide) (by decide)
  have r3 := rlc hb.2 (i := 3) (by decide) (by decide)
  have h0 := hN 0 (by decide)
  have h1 := hN 1 (by decide)
  have h2 := hN 2 (by decide)
  have h3 := hN 3 (by decide)
  have o0 : lN 0 ||| lN (N 0) = lN (0 ||| N 0) := wb_or (by decide) (bm_lt h0)
  have o1 : lN (0 ||| N 0) ||| lN (N 1) = lN (0 ||| N 0 ||| N 1) := wb_or (bm_lt (bm_or bm_0 h0)) (bm_lt h1)
  have o2 : lN (0 ||| N 0 ||| N 1) ||| lN (N 2) = lN (0 ||| N 0 ||| N 1 ||| N 2) := wb_or (bm_lt (bm_or (bm_or bm_0 h0) h1)) (bm_lt h2)
  have o3 : lN (0 ||| N 0 ||| N 1 ||| N 2) ||| lN (N 3) = lN (0 ||| N 0 ||| N 1 ||| N 2 ||| N 3) := wb_or (bm_lt (bm_or (bm_or (bm_or bm_0 h0) h1) h2)) (bm_lt h3)
  refine ⟨0 ||| N 0 ||| N 1 ||| N 2 ||| N 3, ?_, bm_cg (bm_or (bm_or (bm_or (bm_or bm_0 h0) h1) h2) h3) (fun c _ => rfl)⟩
  simp only [bk3_0, bk3_4, bk3_24, bk3_9, bk3_14, bk3_16, bx3, gfc hb.1, r0, r1, r2, r3, o0, o1, o2, o3, Option.bind_some, bct_v, bct_t, otl_s, otl_n, List.cons_append, List.nil_append, List.getElem?_cons_zero, List.getElem?_cons_succ, ↓reduceIte, nI_add, nI_leS, nI_ltS, nI_eqS, nI_m1S, Nat.reduceAdd, Nat.reduceLT, Nat.reduceLeDiff, Nat.reduceMul, Nat.reduceEqDiff, not_true_eq_false, not_false_eq_true]
theorem x21 (hm : Mv w m fa wa F W mp) {s : Nat} (hs : s < 4) (b : Bool) : ∃ K, am_x 21 [.ref m, .int (nI s), .int (b2i b)] w = some (.inl (some (.long (lN K))), w) ∧ bm K (fitP mp s b) := by
  cases b with
  | true =>
    obtain ⟨K, h1, h2⟩ := lN_anot bm_all (hm.2.2.2 s hs).1
    refine ⟨K, ?_, bm_cg h2 (fun c _ => rfl)⟩
    have r0 := rlc hm.2.1 (i := s) hs (by decide)
    simp only [bk21_0, bk21_16, bk21_7, bk21_20, bk21_11, bk21_22, bk21_13, bx21, gfc hm.1, b2i_0, r0, h1, reduceCtorEq, Option.bind_some, bct_v, bct_t, otl_s, otl_n, List.cons_append, List.nil_append, List.getElem?_cons_zero, List.getElem?_cons_succ, ↓reduceIte, nI_add, nI_leS, nI_ltS, nI_eqS, nI_m1S, Nat.reduceAdd, Nat.reduceLT, Nat.reduceLeDiff, Nat.reduceMul, Nat.reduceEqDiff, not_true_eq_false, not_false_eq_true]
  | false =>
    obtain ⟨K, h1, h2⟩ := lN_anot bm_all (hm.2.2.2 s hs).2
    refine ⟨K, ?_, bm_cg h2 (fun c _ => rfl)⟩
    have r0 := rlc hm.2.2.1 (i := s) hs (by decide)
    simp only [bk21_0, bk21_16, bk21_7, bk21_20, bk21_11, bk21_22, bk21_13, bx21, gfc hm.1, b2i_0, r0, h1, reduceCtorEq, Option.bind_some, bct_v, bct_t, otl_s, otl_n, List.cons_append, List.nil_append, List.getElem?_cons_zero, List.getElem?_cons_succ, ↓reduceIte, nI_add, nI_leS, nI_ltS, nI_eqS, nI_m1S, Nat.reduceAdd, Nat.reduceLT, Nat.reduceLeDiff, Nat.reduceMul, Nat.reduceEqDiff, not_true_eq_false, not_false_eq_true]
theorem fit_out {s c : Nat} (h : nb c s = none) : fitP mp s false c = false := by
  unfold fitP kno
  rw [h]
  rfl
theorem x74 (hb : Bv w a ca N) {s : Nat} (hs : s < 4) (hN : bm (N s) (fun c => may (4 * c + s))) (hm : Mv w m fa wa F W mp) (b : Bool) : ∃ K, am_x 74 [.ref a, .int (nI s), .int (b2i b), .ref m] w = some (.inl (some (.long (lN K))), w) ∧ bm K (fwdP may mp b s) := by
  have r0 := rlc hb.2 (i := s) hs (by decide)
  obtain ⟨K, h1, h2⟩ := x21 hm hs b
  have h3 : lN (N s) &&& lN K = lN (N s &&& K) := wb_and (bm_lt hN) (bm_lt h2)
  have h4 : bm (N s &&& K) (stP may mp b s) := bm_cg (bm_and hN h2) (fun c _ => rfl)
  cases b with
  | true =>
    refine ⟨N s &&& K, ?_, bm_cg h4 (fun c _ => rfl)⟩
    simp only [bk74_0, bk74_4, bk74_6, bk74_12, bk74_24, bk74_19, bk74_32, bk74_33, bx74, gfc hb.1, kfc hm.1, r0, h1, h3, b2i_0, reduceCtorEq, Option.bind_some, bct_v, bct_t, otl_s, otl_n, List.cons_append, List.nil_append, List.getElem?_cons_zero, List.getElem?_cons_succ, ↓reduceIte, nI_add, nI_leS, nI_ltS, nI_eqS, nI_m1S, Nat.reduceAdd, Nat.reduceLT, Nat.reduceLeDiff, Nat.reduceMul, Nat.reduceEqDiff, not_true_eq_false, not_false_eq_true]
  | false =>
    obtain ⟨M, h5, h6⟩ := mvd_bm (w := w) h4 hs (fun c _ h => by
      show (may (4 * c + s) && fitP mp s false c) = false
      rw [fit_out h, Bool.and_false])
    refine ⟨N s &&& K ||| M, ?_, bm_cg (bm_or h4 h6) (fun c _ => rfl)⟩
    have h7 : lN (N s &&& K) ||| lN M = lN (N s &&& K ||| M) := wb_or (bm_lt h4) (bm_lt h6)
    simp only [bk74_0, bk74_4, bk74_6, bk74_12, bk74_24, bk74_19, bk74_32, bk74_33, bx74, gfc hb.1, kfc hm.1, r0, h1, h3, h5, h7, b2i_0, reduceCtorEq, Option.bind_some, bct_v, bct_t, otl_s, otl_n, List.cons_append, List.nil_append, List.getElem?_cons_zero, List.getElem?_cons_succ, ↓reduceIte, nI_add, nI_leS, nI_ltS, nI_eqS, nI_m1S, Nat.reduceAdd, Nat.reduceLT, Nat.reduceLeDiff, Nat.reduceMul, Nat.reduceEqDiff, not_true_eq_false, not_false_eq_true]
theorem told_bit {t k : Nat} (ht : t < 8) (hk : k < 3) : ((bj_iushr (nI t) (nI k) &&& nI 1) = nI 0) = (t.testBit k = false) := by
  have h : ∀ t : Fin 8, ∀ k : Fin 3, ((bj_iushr (nI t.val) (nI k.val) &&& nI 1) = nI 0 ↔ t.val.testBit k.val = false) := by decide +kernel
  exact propext (h ⟨t, ht⟩ ⟨k, hk⟩)
theorem it75 (hm : Mv w m fa wa F W mp) {s t k A : Nat} (hs : s < 4) (ht : t < 8) (hk : k < 3) {p : Nat → Bool} (hA : bm A p) : ∃ B, am_run 75 11 [none, some (.int (nI s)), some (.int (nI t)), some (.ref m), some (.long (lN A)), none, some (.int (nI k))] [] w = am_run 75 11 [none, some (.int (nI s)), some (.int (nI t)), some (.ref m), some (.long (lN B)), none, some (.int (nI (k + 1)))] [] w ∧ bm B (fun c => p c && fitP mp ((s + 3 + k) % 4) (t.testBit k) c) := by
  obtain ⟨K, h1, h2⟩ := x21 hm (s := (s + 3 + k) % 4) (by omega) (t.testBit k)
  have h3 : lN A &&& lN K = lN (A &&& K) := wb_and (bm_lt hA) (bm_lt h2)
  refine ⟨A &&& K, ?_, bm_and hA h2⟩
  rw [bk75_11, if_neg (by rw [nI_leS (by omega) (by omega)]; omega), bk75_17, fsd hs hk]
  show am_run 75 26 _ [.int (nI ((s + 3 + k) % 4)), .ref m, .long (lN A)] w = _
  rw [bk75_26]
  cases hb : t.testBit k with
  | true =>
    rw [hb] at h1
    have h1' : am_x 21 [.ref m, .int (nI ((s + 3 + k) % 4)), .int (nI 1)] w = _ := h1
    rw [if_neg (by rw [told_bit ht hk, hb]; decide)]
    simp only [bk75_35, bk75_40, kfc hm.1, h1', bk75_43, h3, Option.bind_some, bct_v, bct_t, otl_s, otl_n, List.cons_append, List.nil_append, List.getElem?_cons_zero, List.getElem?_cons_succ, ↓reduceIte, nI_add]
  | false =>
    rw [hb] at h1
    have h1' : am_x 21 [.ref m, .int (nI ((s + 3 + k) % 4)), .int (nI 0)] w = _ := h1
    rw [if_pos (by rw [told_bit ht hk, hb])]
    simp only [bk75_39, bk75_40, kfc hm.1, h1', bk75_43, h3, Option.bind_some, bct_v, bct_t, otl_s, otl_n, List.cons_append, List.nil_append, List.getElem?_cons_zero, List.getElem?_cons_succ, ↓reduceIte, nI_add]
theorem x75 (hb : Bv w a ca N) {s t : Nat} (hs : s < 4) (ht : t < 8) (hN : bm (N s) (fun c => may (4 * c + s))) (hm : Mv w m fa wa F W mp) : ∃ K, am_x 75 [.ref a, .int (nI s), .int (nI t), .ref m] w = some (.inl (some (.long (lN K))), w) ∧ bm K (feltP may mp t s) := by
  have r0 := rlc hb.2 (i := s) hs (by decide)
  obtain ⟨A, a1, a2⟩ := it75 hm hs ht (k := 0) (by decide) hN
  obtain ⟨B, b1, b2⟩ := it75 hm hs ht (k := 1) (by decide) a2
  obtain ⟨C, c1, c2⟩ := it75 hm hs ht (k := 2) (by decide) b2
  refine ⟨C, ?_, c2⟩
  simp only [bx75, bk75_0, gfc hb.1, bk75_4, r0, bk75_6, Option.bind_some, bct_v, bct_t, otl_s, otl_n, List.cons_append, List.nil_append, List.getElem?_cons_zero, List.getElem?_cons_succ, ↓reduceIte]
  rw [a1, b1, c1, bk75_11, if_pos (by rw [nI_leS (by decide) (by decide)]; decide), bk75_52]
/-- four steps, each of which writes a place of the row -/
theorem four {P : Nat → Nat → Bool} {Q : Nat → am_Wd → am_Rs} (hc : cL w ca 4 (fun j => lN (N j))) (st : ∀ (s : Nat) (M : Nat → Nat), s < 4 → (∀ j, s ≤ j → M j = N j) → ∃ K, bm K (P s) ∧ Q s (am_pt w ca (arL M)) = Q (s + 1) (am_pt w ca (arL (up M s K)))) :
    ∃ M, (∀ s, s < 4 → bm (M s) (P s)) ∧ Q 0 w = Q 4 (am_pt w ca (arL M)) := by
  have go : ∀ s, s ≤ 4 → ∃ M, (∀ j, j < s → bm (M j) (P j)) ∧ (∀ j, s ≤ j → M j = N j) ∧ Q 0 w = Q s (am_pt w ca (arL M)) := by
    intro s
    induction s with
    | zero => exact fun _ => ⟨N, fun j hj => absurd hj (by omega), fun _ _ => rfl, by rw [pt_id (show w.1 ca = some (arL N) from hc)]⟩
    | succ s ih =>
      intro hs
      obtain ⟨M, h1, h2, h3⟩ := ih (by omega)
      obtain ⟨K, k1, k2⟩ := st s M (by omega) h2
      refine ⟨up M s K, fun j hj => ?_, fun j hj => ?_, h3.trans k2⟩
      · by_cases e : j = s
        · subst e; rw [up_s]; exact k1
        · rw [up_n e]; exact h1 j (by omega)
      · rw [up_n (by omega)]; exact h2 j (by omega)
  obtain ⟨M, h1, -, h3⟩ := go 4 (by decide)
  exact ⟨M, h1, h3⟩
theorem ptL_up {M : Nat → Nat} {s K : Nat} : am_pt (am_pt w ca (arL M)) ca (.inl (1, 4, .inr (.inl (vp_updL (fun j => lN (M j)) s (lN K))))) = am_pt w ca (arL (up M s K)) := by
  rw [pt_pt, upL]
  rfl
theorem x119 (hb : Bv w a ca N) (hN : bmy N may) (hm : Mv w m fa wa F W mp) (b : Bool) (h1 : a ≠ ca) (h2 : m ≠ ca) (h3 : fa ≠ ca) (h4 : wa ≠ ca) : ∃ M, (∀ s, s < 4 → bm (M s) (fwdP may mp b s)) ∧ am_x 119 [.ref a, .int (b2i b), .ref m] w = some (.inl none, am_pt w ca (arL M)) := by
  obtain ⟨M, k1, k2⟩ := four (w := w) (ca := ca) (N := N) (P := fwdP may mp b) (Q := fun s w => am_run 119 2 [some (.ref a), some (.int (b2i b)), some (.ref m), some (.int (nI s))] [] w) hb.2 (fun s M hs hM => by
    have hb' := hb.pt (M := M) h1
    have hm' := hm.of (w' := am_pt w ca (arL M)) (pt_n h2) (pt_n h3) (pt_n h4)
    obtain ⟨K, e1, e2⟩ := x74 hb' hs (by rw [hM s (Nat.le_refl s)]; exact hN s hs) hm' b
    refine ⟨K, e2, ?_⟩
    have hw := wlc hb'.2 (i := s) (x := lN K) hs (by decide)
    rw [ptL_up] at hw
    rw [bk119_2, if_neg (by rw [nI_leS (by omega) (by omega)]; omega)]
    simp only [bk119_7, gfc hb'.1, bk119_11, kfc hb'.1, e1, bk119_19, hw, bk119_20, Option.bind_some, bct_v, bct_t, otl_s, otl_n, List.cons_append, List.nil_append, List.getElem?_cons_zero, List.getElem?_cons_succ, ↓reduceIte, nI_add])
  refine ⟨M, k1, ?_⟩
  rw [bx119, bk119_0]
  refine Eq.trans k2 ?_
  rw [bk119_2, if_pos (by rw [nI_leS (by decide) (by decide)]; decide), bk119_26]
theorem x120 (hb : Bv w a ca N) (hN : bmy N may) (hm : Mv w m fa wa F W mp) {t : Nat} (ht : t < 8) (h1 : a ≠ ca) (h2 : m ≠ ca) (h3 : fa ≠ ca) (h4 : wa ≠ ca) : ∃ M, (∀ s, s < 4 → bm (M s) (feltP may mp t s)) ∧ am_x 120 [.ref a, .int (nI t), .ref m] w = some (.inl none, am_pt w ca (arL M)) := by
  obtain ⟨M, k1, k2⟩ := four (w := w) (ca := ca) (N := N) (P := feltP may mp t) (Q := fun s w => am_run 120 2 [some (.ref a), some (.int (nI t)), some (.ref m), some (.int (nI s))] [] w) hb.2 (fun s M hs hM => by
    have hb' := hb.pt (M := M) h1
    have hm' := hm.of (w' := am_pt w ca (arL M)) (pt_n h2) (pt_n h3) (pt_n h4)
    obtain ⟨K, e1, e2⟩ := x75 hb' hs ht (by rw [hM s (Nat.le_refl s)]; exact hN s hs) hm'
    refine ⟨K, e2, ?_⟩
    have hw := wlc hb'.2 (i := s) (x := lN K) hs (by decide)
    rw [ptL_up] at hw
    rw [bk120_2, if_neg (by rw [nI_leS (by omega) (by omega)]; omega)]
    simp only [bk120_0, bk120_26, bk120_7, bk120_11, bk120_19, bk120_20, bx120, gfc hb'.1, kfc hb'.1, e1, hw, Option.bind_some, bct_v, bct_t, otl_s, otl_n, List.cons_append, List.nil_append, List.getElem?_cons_zero, List.getElem?_cons_succ, ↓reduceIte, nI_add])
  refine ⟨M, k1, ?_⟩
  rw [bx120, bk120_0]
  refine Eq.trans k2 ?_
  rw [bk120_2, if_pos (by rw [nI_leS (by decide) (by decide)]; decide), bk120_26]
theorem x1 (hb : Bv w a ca N) (h1 : a ≠ ca) : ∃ M, bmy M (fun _ => true) ∧ am_x 1 [.ref a] w = some (.inl none, am_pt w ca (arL M)) := by
  obtain ⟨M, k1, k2⟩ := four (w := w) (ca := ca) (N := N) (P := fun _ _ => true) (Q := fun s w => am_run 1 2 [some (.ref a), some (.int (nI s))] [] w) hb.2 (fun s M hs hM => by
    have hb' := hb.pt (M := M) h1
    refine ⟨68719476735, bm_all, ?_⟩
    have hw := wlc hb'.2 (i := s) (x := lN 68719476735) hs (by decide)
    rw [ptL_up] at hw
    rw [bk1_2, if_neg (by rw [nI_leS (by omega) (by omega)]; omega)]
    simp only [bk1_7, gfc hb'.1, bk1_11, hw, bk1_16, Option.bind_some, bct_v, bct_t, otl_s, otl_n, List.cons_append, List.nil_append, List.getElem?_cons_zero, List.getElem?_cons_succ, ↓reduceIte, nI_add])
  refine ⟨M, k1, ?_⟩
  rw [bx1, bk1_0]
  refine Eq.trans k2 ?_
  rw [bk1_2, if_pos (by rw [nI_leS (by decide) (by decide)]; decide), bk1_22]
theorem x2 (hb : Bv w a ca N) {p : Nat} (hp : p < 144) (h1 : a ≠ ca) : ∃ M, bmy M (fun q => decide (q = p)) ∧ am_x 2 [.ref a, .int (nI p)] w = some (.inl none, am_pt w ca (arL M)) := by
  obtain ⟨M, k1, k2⟩ := four (w := w) (ca := ca) (N := N) (P := fun s c => decide (4 * c + s = p)) (Q := fun s w => am_run 2 2 [some (.ref a), some (.int (nI p)), some (.int (nI s))] [] w) hb.2 (fun s M hs hM => by
    have hb' := hb.pt (M := M) h1
    rw [bk2_2, if_neg (by rw [nI_leS (by omega) (by omega)]; omega)]
    simp only [bk2_7, gfc hb'.1, bk2_11, Option.bind_some, bct_v, bct_t, otl_s, otl_n, List.cons_append, List.nil_append, List.getElem?_cons_zero, List.getElem?_cons_succ, ↓reduceIte, nI_remS (show p < 2147483648 by omega) (show 0 < 4 by decide) (show 4 < 2147483648 by decide), nI_divS (show p < 2147483648 by omega) (show 0 < 4 by decide) (show 4 < 2147483648 by decide), nI_eqS (show s < 2147483648 by omega) (show p % 4 < 2147483648 by omega)]
    by_cases e : s = p % 4
    · have hw := wlc hb'.2 (i := s) (x := lN (1 * 2 ^ (p / 4))) hs (by decide)
      rw [ptL_up] at hw
      refine ⟨1 * 2 ^ (p / 4), bm_cg (by rw [Nat.one_mul]; exact bm_bit (show p / 4 < 36 by omega)) (fun c hc => ?_), ?_⟩
      · by_cases q : c = p / 4
        · rw [decide_eq_true q, decide_eq_true (by omega)]
        · rw [decide_eq_false q, decide_eq_false (by omega)]
      · rw [if_neg (fun q => q e)]
        simp only [bk2_19, nI_divS (show p < 2147483648 by omega) (show 0 < 4 by decide) (show 4 < 2147483648 by decide), lN_sl (show p / 4 < 64 by omega), bk2_28, hw, bk2_29, Option.bind_some, bct_v, bct_t, otl_s, otl_n, List.cons_append, List.nil_append, List.getElem?_cons_zero, List.getElem?_cons_succ, ↓reduceIte, nI_add]
    · have hw := wlc hb'.2 (i := s) (x := lN 0) hs (by decide)
      rw [ptL_up] at hw
      refine ⟨0, bm_cg bm_0 (fun c hc => ?_), ?_⟩
      · rw [decide_eq_false (by omega)]
      · rw [if_pos e]
        simp only [bk2_27, bk2_28, hw, bk2_29, Option.bind_some, bct_v, bct_t, otl_s, otl_n, List.cons_append, List.nil_append, List.getElem?_cons_zero, List.getElem?_cons_succ, ↓reduceIte, nI_add])
  refine ⟨M, k1, ?_⟩
  rw [bx2, bk2_0]
  refine Eq.trans k2 ?_
  rw [bk2_2, if_pos (by rw [nI_leS (by decide) (by decide)]; decide), bk2_35]
/-- the pose of which it is sure -/
def sureP (may : Nat → Bool) : Option Nat := if cnt 144 may = 1 then fst1 144 may else none
theorem x118 (hb : Bv w a ca N) (hN : bmy N may) : am_x 118 [.ref a] w = some (.inl (some (.int (no (sureP may)))), w) := by
  have hz := x72 hb hN
  have hl : cnt 144 may ≤ 144 := cnt_le may 144
  rw [bx118]
  simp only [bk118_0, kfc hb.1, hz, bk118_4, Option.bind_some, bct_v, bct_t, otl_s, otl_n, List.cons_append, List.nil_append, List.getElem?_cons_zero, List.getElem?_cons_succ, ↓reduceIte, nI_eqS (show cnt 144 may < 2147483648 by omega) (show 1 < 2147483648 by decide)]
  unfold sureP
  by_cases h : cnt 144 may = 1
  · rw [if_pos h, if_pos h, bk118_10]
    have k := scan (n := 144) (p := may) (Q := fun k => am_run 118 12 [some (.ref a), some (.int (nI k))] [] w) (R := fun k => some (.inl (some (.int (nI k))), w)) (E := some (.inl (some (.int (-1))), w)) (fun k hk hp => by
      try dsimp only
      have r0 := rlc hb.2 (i := k % 4) (by omega) (by decide)
      have h1 := has (w := w) (c := k / 4) (bm_lt (hN (k % 4) (by omega))) (by omega)
      have h2 : (N (k % 4)).testBit (k / 4) = may k := ((hN (k % 4) (by omega)).2 (k / 4) (by omega)).trans (congrArg may (by omega))
      rw [h2, hp] at h1
      rw [bk118_12, if_neg (by rw [nI_leS (by omega) (by omega)]; omega)]
      simp only [bk118_19, gfc hb.1, bk118_23, nI_remS (show k < 2147483648 by omega) (show 0 < 4 by decide) (show 4 < 2147483648 by decide), nI_divS (show k < 2147483648 by omega) (show 0 < 4 by decide) (show 4 < 2147483648 by decide), r0, bk118_27, h1, bk118_33, b2i_0, reduceCtorEq, bk118_36, Option.bind_some, bct_v, bct_t, otl_s, otl_n, List.cons_append, List.nil_append, List.getElem?_cons_zero, List.getElem?_cons_succ, ↓reduceIte]) (fun k hk hp => by
      try dsimp only
      have r0 := rlc hb.2 (i := k % 4) (by omega) (by decide)
      have h1 := has (w := w) (c := k / 4) (bm_lt (hN (k % 4) (by omega))) (by omega)
      have h2 : (N (k % 4)).testBit (k / 4) = may k := ((hN (k % 4) (by omega)).2 (k / 4) (by omega)).trans (congrArg may (by omega))
      rw [h2, hp] at h1
      rw [bk118_12, if_neg (by rw [nI_leS (by omega) (by omega)]; omega)]
      simp only [bk118_19, gfc hb.1, bk118_23, nI_remS (show k < 2147483648 by omega) (show 0 < 4 by decide) (show 4 < 2147483648 by decide), nI_divS (show k < 2147483648 by omega) (show 0 < 4 by decide) (show 4 < 2147483648 by decide), r0, bk118_27, h1, bk118_33, b2i_0, bk118_38, nI_add, Option.bind_some, bct_v, bct_t, otl_s, otl_n, List.cons_append, List.nil_append, List.getElem?_cons_zero, List.getElem?_cons_succ, ↓reduceIte]) (by
      try dsimp only
      rw [bk118_12, if_pos (by rw [nI_leS (by decide) (by decide)]; decide), bk118_44])
    refine Eq.trans k ?_
    cases fst1 144 may <;> rfl
  · rw [if_neg h, if_neg h, bk118_8]
    rfl
def rotP (may : Nat → Bool) (r q : Nat) : Bool := may (4 * (q / 4) + (q % 4 + r) % 4)
theorem rot_at (may : Nat → Bool) {r c s : Nat} (hs : s < 4) : rotP may r (4 * c + s) = may (4 * c + (s + r) % 4) := by
  unfold rotP
  rw [show (4 * c + s) / 4 = c by omega, show (4 * c + s) % 4 = s by omega]
theorem x4 (hb : Bv w a ca N) (hN : bmy N may) (h1 : a ≠ ca) : ∃ M, bmy M (rotP may 3) ∧ am_x 4 [.ref a] w = some (.inl none, am_pt w ca (arL M)) := by
  have b1 := hb.pt (M := up N 3 (N 2)) h1
  have b2 := hb.pt (M := up (up N 3 (N 2)) 2 (N 1)) h1
  have b3 := hb.pt (M := up (up (up N 3 (N 2)) 2 (N 1)) 1 (N 0)) h1
  have q1 := wlc hb.2 (i := 3) (x := lN (N 2)) (by decide) (by decide)
  have q2 := wlc b1.2 (i := 2) (x := lN (N 1)) (by decide) (by decide)
  have q3 := wlc b2.2 (i := 1) (x := lN (N 0)) (by decide) (by decide)
  have q4 := wlc b3.2 (i := 0) (x := lN (N 3)) (by decide) (by decide)
  rw [upL] at q1
  rw [ptL_up] at q2 q3 q4
  have r3 := rlc hb.2 (i := 3) (by decide) (by decide)
  have r2 := rlc hb.2 (i := 2) (by decide) (by decide)
  have r1 : am_rl (am_pt w ca (arL (up N 3 (N 2)))) ca (nI 1) = some (lN (N 1)) := rlc b1.2 (i := 1) (by decide) (by decide)
  have r0 : am_rl (am_pt w ca (arL (up (up N 3 (N 2)) 2 (N 1)))) ca (nI 0) = some (lN (N 0)) := rlc b2.2 (i := 0) (by decide) (by decide)
  have q1' : am_wl w ca (nI 3) (lN (N 2)) = some (am_pt w ca (arL (up N 3 (N 2)))) := q1
  refine ⟨up (up (up (up N 3 (N 2)) 2 (N 1)) 1 (N 0)) 0 (N 3), fun s hs => ?_, ?_⟩
  · rcases (show s = 0 ∨ s = 1 ∨ s = 2 ∨ s = 3 by omega) with rfl | rfl | rfl | rfl
    · exact bm_cg (hN 3 (by decide)) fun c _ => (rot_at may (r := 3) (s := 0) (by decide)).symm
    · exact bm_cg (hN 0 (by decide)) fun c _ => (rot_at may (r := 3) (s := 1) (by decide)).symm
    · exact bm_cg (hN 1 (by decide)) fun c _ => (rot_at may (r := 3) (s := 2) (by decide)).symm
    · exact bm_cg (hN 2 (by decide)) fun c _ => (rot_at may (r := 3) (s := 3) (by decide)).symm
  · simp only [bk4_0, bk4_4, bk4_6, bk4_9, bk4_33, bk4_13, bk4_37, bk4_17, bk4_40, bk4_22, bk4_26, bk4_27, bx4, gfc hb.1, gfc b1.1, gfc b2.1, gfc b3.1, r3, nI_subS (show 1 ≤ 3 by decide), nI_subS (show 1 ≤ 2 by decide), nI_subS (show 1 ≤ 1 by decide), r2, r1, r0, q1', q2, q3, q4, show ∀ n, nI (n + 1) + (-1 : Int32) = nI n from pk_m1, show nI 3 + (-1 : Int32) = nI 2 from pk_m1 2, show nI 2 + (-1 : Int32) = nI 1 from pk_m1 1, show nI 1 + (-1 : Int32) = nI 0 from pk_m1 0, Nat.reduceSub, Option.bind_some, bct_v, bct_t, otl_s, otl_n, List.cons_append, List.nil_append, List.getElem?_cons_zero, List.getElem?_cons_succ, ↓reduceIte, nI_add, nI_leS, nI_ltS, nI_eqS, nI_m1S, Nat.reduceAdd, Nat.reduceLT, Nat.reduceLeDiff, Nat.reduceMul, Nat.reduceEqDiff, not_true_eq_false, not_false_eq_true]
theorem x5 (hb : Bv w a ca N) (hN : bmy N may) (h1 : a ≠ ca) : ∃ M, bmy M (rotP may 1) ∧ am_x 5 [.ref a] w = some (.inl none, am_pt w ca (arL M)) := by
  have b1 := hb.pt (M := up N 0 (N 1)) h1
  have b2 := hb.pt (M := up (up N 0 (N 1)) 1 (N 2)) h1
  have b3 := hb.pt (M := up (up (up N 0 (N 1)) 1 (N 2)) 2 (N 3)) h1
  have q1 := wlc hb.2 (i := 0) (x := lN (N 1)) (by decide) (by decide)
  have q2 := wlc b1.2 (i := 1) (x := lN (N 2)) (by decide) (by decide)
  have q3 := wlc b2.2 (i := 2) (x := lN (N 3)) (by decide) (by decide)
  have q4 := wlc b3.2 (i := 3) (x := lN (N 0)) (by decide) (by decide)
  rw [upL] at q1
  rw [ptL_up] at q2 q3 q4
  have r0 := rlc hb.2 (i := 0) (by decide) (by decide)
  have r1 := rlc hb.2 (i := 1) (by decide) (by decide)
  have r2 : am_rl (am_pt w ca (arL (up N 0 (N 1)))) ca (nI 2) = some (lN (N 2)) := rlc b1.2 (i := 2) (by decide) (by decide)
  have r3 : am_rl (am_pt w ca (arL (up (up N 0 (N 1)) 1 (N 2)))) ca (nI 3) = some (lN (N 3)) := rlc b2.2 (i := 3) (by decide) (by decide)
  have q1' : am_wl w ca (nI 0) (lN (N 1)) = some (am_pt w ca (arL (up N 0 (N 1)))) := q1
  refine ⟨up (up (up (up N 0 (N 1)) 1 (N 2)) 2 (N 3)) 3 (N 0), fun s hs => ?_, ?_⟩
  · rcases (show s = 0 ∨ s = 1 ∨ s = 2 ∨ s = 3 by omega) with rfl | rfl | rfl | rfl
    · exact bm_cg (hN 1 (by decide)) fun c _ => (rot_at may (r := 1) (s := 0) (by decide)).symm
    · exact bm_cg (hN 2 (by decide)) fun c _ => (rot_at may (r := 1) (s := 1) (by decide)).symm
    · exact bm_cg (hN 3 (by decide)) fun c _ => (rot_at may (r := 1) (s := 2) (by decide)).symm
    · exact bm_cg (hN 0 (by decide)) fun c _ => (rot_at may (r := 1) (s := 3) (by decide)).symm
  · simp only [bk5_0, bk5_4, bk5_6, bk5_9, bk5_34, bk5_14, bk5_38, bk5_18, bk5_41, bk5_23, bk5_27, bk5_28, bx5, gfc hb.1, gfc b1.1, gfc b2.1, gfc b3.1, r3, r2, r1, r0, q1', q2, q3, q4, Option.bind_some, bct_v, bct_t, otl_s, otl_n, List.cons_append, List.nil_append, List.getElem?_cons_zero, List.getElem?_cons_succ, ↓reduceIte, nI_add, nI_leS, nI_ltS, nI_eqS, nI_m1S, Nat.reduceAdd, Nat.reduceLT, Nat.reduceLeDiff, Nat.reduceMul, Nat.reduceEqDiff, not_true_eq_false, not_false_eq_true]
/-- how many poses there would be -/
theorem x121 (hb : Bv w a ca N) (hN : bmy N may) (hm : Mv w m fa wa F W mp) (b : Bool) : am_x 121 [.ref a, .int (b2i b), .ref m] w = some (.inl (some (.int (nI (cnt 144 (fun q => fwdP may mp b (q % 4) (q / 4)))))), w) := by
  obtain ⟨K0, a0, e0⟩ := x74 hb (s := 0) (by decide) (hN 0 (by decide)) hm b
  obtain ⟨K1, a1, e1⟩ := x74 hb (s := 1) (by decide) (hN 1 (by decide)) hm b
  obtain ⟨K2, a2, e2⟩ := x74 hb (s := 2) (by decide) (hN 2 (by decide)) hm b
  obtain ⟨K3, a3, e3⟩ := x74 hb (s := 3) (by decide) (hN 3 (by decide)) hm b
  have c0 := bc_36 e0 w
  have c1 := bc_36 e1 w
  have c2 := bc_36 e2 w
  have c3 := bc_36 e3 w
  simp only [bk121_0, bk121_5, bk121_31, bk121_11, bk121_20, bk121_23, bx121, kfc hb.1, a0, a1, a2, a3, c0, c1, c2, c3, Option.bind_some, bct_v, bct_t, otl_s, otl_n, List.cons_append, List.nil_append, List.getElem?_cons_zero, List.getElem?_cons_succ, ↓reduceIte, nI_add, nI_leS, nI_ltS, nI_eqS, nI_m1S, Nat.reduceAdd, Nat.reduceLT, Nat.reduceLeDiff, Nat.reduceMul, Nat.reduceEqDiff, not_true_eq_false, not_false_eq_true]
  have g : ∀ s, s < 4 → cnt 36 (fwdP may mp b s) = cnt 36 (fun c => (fun q => fwdP may mp b (q % 4) (q / 4)) (4 * c + s)) := fun s hs => cnt_cg 36 fun c _ => by
    show fwdP may mp b s c = fwdP may mp b ((4 * c + s) % 4) ((4 * c + s) / 4)
    rw [show (4 * c + s) % 4 = s by omega, show (4 * c + s) / 4 = c by omega]
  rw [g 0 (by decide), g 1 (by decide), g 2 (by decide), g 3 (by decide), c144 (fun q => fwdP may mp b (q % 4) (q / 4))]
theorem x122 (hb : Bv w a ca N) (hN : bmy N may) (hm : Mv w m fa wa F W mp) {t : Nat} (ht : t < 8) : am_x 122 [.ref a, .int (nI t), .ref m] w = some (.inl (some (.int (nI (cnt 144 (fun q => feltP may mp t (q % 4) (q / 4)))))), w) := by
  obtain ⟨K0, a0, e0⟩ := x75 hb (s := 0) (by decide) ht (hN 0 (by decide)) hm
  obtain ⟨K1, a1, e1⟩ := x75 hb (s := 1) (by decide) ht (hN 1 (by decide)) hm
  obtain ⟨K2, a2, e2⟩ := x75 hb (s := 2) (by decide) ht (hN 2 (by decide)) hm
  obtain ⟨K3, a3, e3⟩ := x75 hb (s := 3) (by decide) ht (hN 3 (by decide)) hm
  have c0 := bc_36 e0 w
  have c1 := bc_36 e1 w
  have c2 := bc_36 e2 w
  have c3 := bc_36 e3 w
  simp only [bk122_0, bk122_5, bk122_31, bk122_11, bk122_20, bk122_23, bx122, kfc hb.1, a0, a1, a2, a3, c0, c1, c2, c3, Option.bind_some, bct_v, bct_t, otl_s, otl_n, List.cons_append, List.nil_append, List.getElem?_cons_zero, List.getElem?_cons_succ, ↓reduceIte, nI_add, nI_leS, nI_ltS, nI_eqS, nI_m1S, Nat.reduceAdd, Nat.reduceLT, Nat.reduceLeDiff, Nat.reduceMul, Nat.reduceEqDiff, not_true_eq_false, not_false_eq_true]
  have g : ∀ s, s < 4 → cnt 36 (feltP may mp t s) = cnt 36 (fun c => (fun q => feltP may mp t (q % 4) (q / 4)) (4 * c + s)) := fun s hs => cnt_cg 36 fun c _ => by
    show feltP may mp t s c = feltP may mp t ((4 * c + s) % 4) ((4 * c + s) / 4)
    rw [show (4 * c + s) % 4 = s by omega, show (4 * c + s) / 4 = c by omega]
  rw [g 0 (by decide), g 1 (by decide), g 2 (by decide), g 3 (by decide), c144 (fun q => feltP may mp t (q % 4) (q / 4))]
end BEL
