/-! MAPS, the class's, on: marks, counts, meetings, ways, goals. Mine. -/
theorem kno_le {mp : Nat → Nat} (h : ∀ k, mp k ≤ 2) (c s : Nat) : kno mp c s ≤ 2 := by
  unfold kno
  cases nb c s with
  | none => exact Nat.le_refl 2
  | some d => exact h _
theorem bit1 {c : Nat} (hc : c < 36) : bj_lshl (lN 1) (nI c) = lN (2 ^ c) := by rw [lN_sl (by omega), Nat.one_mul]
/-- what is put -/
def putM (mp : Nat → Nat) (c s : Nat) (b : Bool) : Nat → Nat := if nb c s = none then mp else up mp (plc c s) (if b = true then 2 else 1)
def inj36 : Bool := all36 fun c s => all36 fun x t => (nb c s).isNone || (nb x t).isNone || !(plc x t == plc c s) || (x == c && t == s) || (nb c s == some x && t == (s + 2) % 4)
theorem inj36_ok : inj36 = true := by decide +kernel
theorem plc_inj {c s x t : Nat} (hc : c < 36) (hs : s < 4) (hx : x < 36) (ht : t < 4) (h1 : nb c s ≠ none) (h2 : nb x t ≠ none) (h : plc x t = plc c s) : (x = c ∧ t = s) ∨ (nb c s = some x ∧ t = (s + 2) % 4) := by
  have k := all36_at (all36_at inj36_ok hc hs) hx ht
  cases e1 : nb c s with
  | none => exact absurd e1 h1
  | some d =>
    cases e2 : nb x t with
    | none => exact absurd e2 h2
    | some d' =>
      rw [e1, e2, h] at k
      simp only [Option.isNone_some, Bool.false_or, beq_self_eq_true, Bool.not_true, Bool.or_eq_true, Bool.and_eq_true, beq_iff_eq] at k
      rcases k with ⟨k1, k2⟩ | ⟨k1, k2⟩
      · exact Or.inl ⟨k1, k2⟩
      · exact Or.inr ⟨k1, k2⟩
theorem kno_put {mp : Nat → Nat} {c s d x t : Nat} {b : Bool} (hc : c < 36) (hs : s < 4) (hx : x < 36) (ht : t < 4) (hd : nb c s = some d) : kno (putM mp c s b) x t = if (x = c ∧ t = s) ∨ (x = d ∧ t = (s + 2) % 4) then (if b = true then 2 else 1) else kno mp x t := by
  have hn : ¬ nb c s = none := by rw [hd]; exact fun h => nomatch h
  unfold putM
  rw [if_neg hn]
  by_cases h : (x = c ∧ t = s) ∨ (x = d ∧ t = (s + 2) % 4)
  · rw [if_pos h]
    have e : plc x t = plc c s ∧ nb x t ≠ none := by
      rcases h with ⟨rfl, rfl⟩ | ⟨rfl, rfl⟩
      · exact ⟨rfl, hn⟩
      · obtain ⟨h1, h2⟩ := nb_back hc hs hd
        exact ⟨h2, by rw [h1]; exact fun h => nomatch h⟩
    unfold kno
    cases e2 : nb x t with
    | none => exact absurd e2 e.2
    | some d' => show up mp (plc c s) _ (plc x t) = _; rw [e.1, up_s]
  · rw [if_neg h]
    unfold kno
    cases e2 : nb x t with
    | none => rfl
    | some d' =>
      show up mp (plc c s) _ (plc x t) = mp (plc x t)
      rw [up_n]
      intro q
      rcases plc_inj hc hs hx ht hn (by rw [e2]; exact fun h => nomatch h) q with z | ⟨z1, z2⟩
      · exact h (Or.inl z)
      · rw [hd] at z1
        cases z1
        exact h (Or.inr ⟨rfl, z2⟩)
section MAPS
variable {w : am_Wd} {m fa wa : Nat} {F W mp : Nat → Nat}
theorem x81 (hm : Mv w m fa wa F W mp) (ho : ∀ k, mp k ≤ 2) {c s : Nat} (hc : c < 36) (hs : s < 4) : am_x 81 [.ref m, .int (nI c), .int (nI s)] w = some (.inl (some (.int (nI (kno mp c s)))), w) := by
  have r0 := rlc hm.2.1 (i := s) hs (by decide)
  have r1 := rlc hm.2.2.1 (i := s) hs (by decide)
  obtain ⟨q0, q1⟩ := hm.2.2.2 s hs
  have h0 := has (w := w) (bm_lt q0) hc
  have h1 := has (w := w) (bm_lt q1) hc
  have k := kno_le ho c s
  rw [q0.2 c hc] at h0
  rw [q1.2 c hc] at h1
  dsimp only at h0 h1
  rcases (show kno mp c s = 0 ∨ kno mp c s = 1 ∨ kno mp c s = 2 by omega) with e | e | e
  · rw [e] at h0 h1 ⊢
    have h0' : am_x 11 [.long (lN (F s)), .int (nI c)] w = some (.inl (some (.int (b2i false))), w) := h0
    have h1' : am_x 11 [.long (lN (W s)), .int (nI c)] w = some (.inl (some (.int (b2i false))), w) := h1
    simp only [bk81_0, bk81_4, bk81_6, bk81_10, bk81_15, bk81_13, bk81_19, bk81_21, bk81_25, bk81_32, bk81_28, bk81_33, bx81, gfc hm.1, r0, r1, h0', h1', b2i_0, Option.bind_some, bct_v, bct_t, otl_s, otl_n, List.cons_append, List.nil_append, List.getElem?_cons_zero, List.getElem?_cons_succ, ↓reduceIte, nI_add, nI_leS, nI_ltS, nI_eqS, nI_m1S, Nat.reduceAdd, Nat.reduceLT, Nat.reduceLeDiff, Nat.reduceMul, Nat.reduceEqDiff, not_true_eq_false, not_false_eq_true]
  · rw [e] at h0 h1 ⊢
    have h0' : am_x 11 [.long (lN (F s)), .int (nI c)] w = some (.inl (some (.int (b2i true))), w) := h0
    simp only [bk81_0, bk81_4, bk81_6, bk81_10, bk81_15, bk81_13, bk81_19, bk81_21, bk81_25, bk81_32, bk81_28, bk81_33, bx81, gfc hm.1, r0, h0', b2i_0, reduceCtorEq, Option.bind_some, bct_v, bct_t, otl_s, otl_n, List.cons_append, List.nil_append, List.getElem?_cons_zero, List.getElem?_cons_succ, ↓reduceIte, nI_add, nI_leS, nI_ltS, nI_eqS, nI_m1S, Nat.reduceAdd, Nat.reduceLT, Nat.reduceLeDiff, Nat.reduceMul, Nat.reduceEqDiff, not_true_eq_false, not_false_eq_true]
  · rw [e] at h0 h1 ⊢
    have h0' : am_x 11 [.long (lN (F s)), .int (nI c)] w = some (.inl (some (.int (b2i false))), w) := h0
    have h1' : am_x 11 [.long (lN (W s)), .int (nI c)] w = some (.inl (some (.int (b2i true))), w) := h1
    simp only [bk81_0, bk81_4, bk81_6, bk81_10, bk81_15, bk81_13, bk81_19, bk81_21, bk81_25, bk81_32, bk81_28, bk81_33, bx81, gfc hm.1, r0, r1, h0', h1', b2i_0, reduceCtorEq, Option.bind_some, bct_v, bct_t, otl_s, otl_n, List.cons_append, List.nil_append, List.getElem?_cons_zero, List.getElem?_cons_succ, ↓reduceIte, nI_add, nI_leS, nI_ltS, nI_eqS, nI_m1S, Nat.reduceAdd, Nat.reduceLT, Nat.reduceLeDiff, Nat.reduceMul, Nat.reduceEqDiff, not_true_eq_false, not_false_eq_true]
def unkP (mp : Nat → Nat) (s c : Nat) : Bool := kno mp c s == 0
theorem x22 (hm : Mv w m fa wa F W mp) (ho : ∀ k, mp k ≤ 2) {s : Nat} (hs : s < 4) : ∃ K, am_x 22 [.ref m, .int (nI s)] w = some (.inl (some (.long (lN K))), w) ∧ bm K (unkP mp s) := by
  have r0 := rlc hm.2.1 (i := s) hs (by decide)
  have r1 := rlc hm.2.2.1 (i := s) hs (by decide)
  obtain ⟨q0, q1⟩ := hm.2.2.2 s hs
  obtain ⟨K, h1, h2⟩ := lN_anot bm_all q0
  obtain ⟨L, h3, h4⟩ := lN_anot h2 q1
  refine ⟨L, ?_, bm_cg h4 fun c hc => ?_⟩
  · simp only [bk22_0, bk22_7, bk22_9, bk22_18, bk22_20, bx22, gfc hm.1, r0, r1, h1, h3, Option.bind_some, bct_v, bct_t, otl_s, otl_n, List.cons_append, List.nil_append, List.getElem?_cons_zero, List.getElem?_cons_succ, ↓reduceIte, nI_add, nI_leS, nI_ltS, nI_eqS, nI_m1S, Nat.reduceAdd, Nat.reduceLT, Nat.reduceLeDiff, Nat.reduceMul, Nat.reduceEqDiff, not_true_eq_false, not_false_eq_true]
  · have k := kno_le ho c s
    unfold unkP
    rcases (show kno mp c s = 0 ∨ kno mp c s = 1 ∨ kno mp c s = 2 by omega) with e | e | e <;> rw [e] <;> rfl
theorem x20 (hO : cO w m 7 [.ref fa, .ref wa]) (hF : cL w fa 4 (fun j => lN (F j))) (hW : cL w wa 4 (fun j => lN (W j))) {c s : Nat} (hc : c < 36) (hs : s < 4) {p q : Nat → Bool} (hp : bm (F s) p) (hq : bm (W s) q) (b : Bool) (n1 : m ≠ fa) (n2 : wa ≠ fa) :
    ∃ K L, am_x 20 [.ref m, .int (nI c), .int (nI s), .int (b2i b)] w = some (.inl none, am_pt (am_pt w fa (arL (up F s K))) wa (arL (up W s L))) ∧ bm K (fun x => if x = c then !b else p x) ∧ bm L (fun x => if x = c then b else q x) := by
  have hb := bm_bit hc
  have r0 := rlc hF (i := s) hs (by decide)
  have or1 : lN (F s) ||| lN (2 ^ c) = lN (F s ||| 2 ^ c) := wb_or (bm_lt hp) (bm_lt hb)
  have or2 : lN (W s) ||| lN (2 ^ c) = lN (W s ||| 2 ^ c) := wb_or (bm_lt hq) (bm_lt hb)
  obtain ⟨K, k1, k2⟩ := lN_anot hp hb
  obtain ⟨L, l1, l2⟩ := lN_anot hq hb
  have hO' : ∀ e, cO (am_pt w fa e) m 7 [.ref fa, .ref wa] := fun e => cO_of hO (pt_n n1)
  have hW' : ∀ e, cL (am_pt w fa e) wa 4 (fun j => lN (W j)) := fun e => cL_of hW (pt_n n2)
  cases b with
  | true =>
    have w1 : am_wl w fa (nI s) (lN K) = some (am_pt w fa (arL (up F s K))) := by rw [wlc hF hs (by decide), upL]; rfl
    have w2 : am_wl (am_pt w fa (arL (up F s K))) wa (nI s) (lN (W s ||| 2 ^ c)) = some (am_pt (am_pt w fa (arL (up F s K))) wa (arL (up W s (W s ||| 2 ^ c)))) := by rw [wlc (hW' _) hs (by decide), upL]; rfl
    have r1 := rlc (hW' (arL (up F s K))) (i := s) hs (by decide)
    refine ⟨K, W s ||| 2 ^ c, ?_, bm_cg k2 fun x _ => ?_, bm_cg (bm_or hq hb) fun x _ => ?_⟩
    · simp only [bk20_0, bk20_9, bk20_30, bk20_14, bk20_34, bk20_18, bk20_36, bk20_20, bk20_39, bk20_40, bk20_44, bk20_61, bk20_49, bk20_65, bk20_53, bk20_67, bk20_55, bk20_74, bk20_75, bx20, gfc hO, gfc (hO' _), bit1 hc, b2i_0, reduceCtorEq, r0, r1, k1, or2, w1, w2, Option.bind_some, bct_v, bct_t, otl_s, otl_n, List.cons_append, List.nil_append, List.getElem?_cons_zero, List.getElem?_cons_succ, ↓reduceIte, nI_add, nI_leS, nI_ltS, nI_eqS, nI_m1S, Nat.reduceAdd, Nat.reduceLT, Nat.reduceLeDiff, Nat.reduceMul, Nat.reduceEqDiff, not_true_eq_false, not_false_eq_true]
    · by_cases e : x = c
      · rw [if_pos e, decide_eq_true e, Bool.not_true, Bool.and_false]
      · rw [if_neg e, decide_eq_false e, Bool.not_false, Bool.and_true]
    · by_cases e : x = c
      · rw [if_pos e, decide_eq_true e, Bool.or_true]
      · rw [if_neg e, decide_eq_false e, Bool.or_false]
  | false =>
    have w1 : am_wl w fa (nI s) (lN (F s ||| 2 ^ c)) = some (am_pt w fa (arL (up F s (F s ||| 2 ^ c)))) := by rw [wlc hF hs (by decide), upL]; rfl
    have w2 : am_wl (am_pt w fa (arL (up F s (F s ||| 2 ^ c)))) wa (nI s) (lN L) = some (am_pt (am_pt w fa (arL (up F s (F s ||| 2 ^ c)))) wa (arL (up W s L))) := by rw [wlc (hW' _) hs (by decide), upL]; rfl
    have r1 := rlc (hW' (arL (up F s (F s ||| 2 ^ c)))) (i := s) hs (by decide)
    refine ⟨F s ||| 2 ^ c, L, ?_, bm_cg (bm_or hp hb) fun x _ => ?_, bm_cg l2 fun x _ => ?_⟩
    · simp only [bk20_0, bk20_9, bk20_30, bk20_14, bk20_34, bk20_18, bk20_36, bk20_20, bk20_39, bk20_40, bk20_44, bk20_61, bk20_49, bk20_65, bk20_53, bk20_67, bk20_55, bk20_74, bk20_75, bx20, gfc hO, gfc (hO' _), bit1 hc, b2i_0, r0, r1, l1, or1, w1, w2, Option.bind_some, bct_v, bct_t, otl_s, otl_n, List.cons_append, List.nil_append, List.getElem?_cons_zero, List.getElem?_cons_succ, ↓reduceIte, nI_add, nI_leS, nI_ltS, nI_eqS, nI_m1S, Nat.reduceAdd, Nat.reduceLT, Nat.reduceLeDiff, Nat.reduceMul, Nat.reduceEqDiff, not_true_eq_false, not_false_eq_true]
    · by_cases e : x = c
      · rw [if_pos e, decide_eq_true e, Bool.or_true]; rfl
      · rw [if_neg e, decide_eq_false e, Bool.or_false]
    · by_cases e : x = c
      · rw [if_pos e, decide_eq_true e, Bool.not_true, Bool.and_false]
      · rw [if_neg e, decide_eq_false e, Bool.not_false, Bool.and_true]
theorem pt_sw {a b : Nat} {e e' : am_En} (h : a ≠ b) : am_pt (am_pt w a e) b e' = am_pt (am_pt w b e') a e := by
  unfold am_pt
  refine Prod.ext (funext fun x => ?_) rfl
  try dsimp only
  by_cases h1 : x = b
  · rw [if_pos h1, if_neg (fun q => h (q.symm.trans h1)), if_pos h1]
  · rw [if_neg h1]
    by_cases h2 : x = a
    · rw [if_pos h2, if_pos h2]
    · rw [if_neg h2, if_neg h2, if_neg h1]
theorem x82 (hm : Mv w m fa wa F W mp) {c s : Nat} (hc : c < 36) (hs : s < 4) (b : Bool) (n1 : m ≠ fa) (n2 : wa ≠ fa) (n3 : m ≠ wa) :
    ∃ F' W', am_x 82 [.ref m, .int (nI c), .int (nI s), .int (b2i b)] w = some (.inl none, am_pt (am_pt w fa (arL F')) wa (arL W')) ∧ Mv (am_pt (am_pt w fa (arL F')) wa (arL W')) m fa wa F' W' (putM mp c s b) := by
  rw [bx82]
  simp only [bk82_0, ahd hc hs, Option.bind_some, bct_v, bct_t, otl_s, otl_n, List.cons_append, List.nil_append, List.getElem?_cons_zero, List.getElem?_cons_succ, ↓reduceIte, bk82_5]
  cases e : nb c s with
  | none =>
    refine ⟨F, W, ?_, ?_⟩
    · rw [if_pos (show no none = (-1 : Int32) from rfl), bk82_32, pt_id (show w.1 fa = some (arL F) from hm.2.1), pt_id (show w.1 wa = some (arL W) from hm.2.2.1)]
    · rw [pt_id (show w.1 fa = some (arL F) from hm.2.1), pt_id (show w.1 wa = some (arL W) from hm.2.2.1)]
      unfold putM
      rw [if_pos e]
      exact hm
  | some d =>
    have hd := nb_lt hc hs e
    obtain ⟨q0, q1⟩ := hm.2.2.2 s hs
    obtain ⟨K, L, k1, k2, k3⟩ := x20 hm.1 hm.2.1 hm.2.2.1 hc hs q0 q1 b n1 n2
    have s' : (s + 2) % 4 < 4 := by omega
    have ne : (s + 2) % 4 ≠ s := by omega
    obtain ⟨p0, p1⟩ := hm.2.2.2 ((s + 2) % 4) s'
    have hO2 : cO (am_pt (am_pt w fa (arL (up F s K))) wa (arL (up W s L))) m 7 [.ref fa, .ref wa] := cO_of hm.1 ((pt_n n3).trans (pt_n n1))
    have hF2 : cL (am_pt (am_pt w fa (arL (up F s K))) wa (arL (up W s L))) fa 4 (fun j => lN (up F s K j)) := (pt_n n2.symm).trans pt_s
    have hW2 : cL (am_pt (am_pt w fa (arL (up F s K))) wa (arL (up W s L))) wa 4 (fun j => lN (up W s L j)) := pt_s
    obtain ⟨K', L', g1, g2, g3⟩ := x20 hO2 hF2 hW2 hd s' (p := fun x => kno mp x ((s + 2) % 4) == 1) (q := fun x => kno mp x ((s + 2) % 4) == 2) (by rw [up_n ne]; exact p0) (by rw [up_n ne]; exact p1) b n1 n2
    have hw : am_pt (am_pt (am_pt (am_pt w fa (arL (up F s K))) wa (arL (up W s L))) fa (arL (up (up F s K) ((s + 2) % 4) K'))) wa (arL (up (up W s L) ((s + 2) % 4) L')) = am_pt (am_pt w fa (arL (up (up F s K) ((s + 2) % 4) K'))) wa (arL (up (up W s L) ((s + 2) % 4) L')) := by
      rw [pt_sw (w := am_pt w fa (arL (up F s K))) n2, pt_pt, pt_pt]
    rw [hw] at g1
    have hne : ¬ no (some d) = (-1 : Int32) := by
      show ¬ nI d = -1
      rw [nI_m1S (by omega)]
      exact id
    have hs2 : (nI s + nI 2) &&& nI 3 = nI ((s + 2) % 4) := by rw [nI_add, nI_and3 (by omega)]
    have g1' : am_x 20 [.ref m, .int (no (some d)), .int (nI ((s + 2) % 4)), .int (b2i b)] (am_pt (am_pt w fa (arL (up F s K))) wa (arL (up W s L))) = _ := g1
    refine ⟨up (up F s K) ((s + 2) % 4) K', up (up W s L) ((s + 2) % 4) L', ?_, ?_⟩
    · rw [if_neg hne]
      simp only [bk82_13, kfc hm.1, k1, bk82_20, kfc hO2, hs2, g1', bk82_32, Option.bind_some, bct_v, bct_t, otl_s, otl_n, List.cons_append, List.nil_append, List.getElem?_cons_zero, List.getElem?_cons_succ, ↓reduceIte]
    · refine ⟨cO_of hm.1 ((pt_n n3).trans (pt_n n1)), (pt_n n2.symm).trans pt_s, pt_s, fun t ht => ?_⟩
      obtain ⟨z0, z1⟩ := hm.2.2.2 t ht
      by_cases t1 : t = (s + 2) % 4
      · subst t1
        rw [up_s, up_s]
        refine ⟨bm_cg g2 fun x hx => ?_, bm_cg g3 fun x hx => ?_⟩
        · rw [kno_put hc hs hx s' e]
          by_cases h : x = d
          · rw [if_pos h, if_pos (Or.inr ⟨h, rfl⟩)]; cases b <;> rfl
          · rw [if_neg h, if_neg]
            rintro (⟨-, q⟩ | ⟨q, -⟩)
            · exact ne q
            · exact h q
        · rw [kno_put hc hs hx s' e]
          by_cases h : x = d
          · rw [if_pos h, if_pos (Or.inr ⟨h, rfl⟩)]; cases b <;> rfl
          · rw [if_neg h, if_neg]
            rintro (⟨-, q⟩ | ⟨q, -⟩)
            · exact ne q
            · exact h q
      · rw [up_n t1, up_n t1]
        by_cases t2 : t = s
        · subst t2
          rw [up_s, up_s]
          refine ⟨bm_cg k2 fun x hx => ?_, bm_cg k3 fun x hx => ?_⟩
          · rw [kno_put hc hs hx ht e]
            by_cases h : x = c
            · rw [if_pos h, if_pos (Or.inl ⟨h, rfl⟩)]; cases b <;> rfl
            · rw [if_neg h, if_neg]
              rintro (⟨q, -⟩ | ⟨-, q⟩)
              · exact h q
              · exact t1 q
          · rw [kno_put hc hs hx ht e]
            by_cases h : x = c
            · rw [if_pos h, if_pos (Or.inl ⟨h, rfl⟩)]; cases b <;> rfl
            · rw [if_neg h, if_neg]
              rintro (⟨q, -⟩ | ⟨-, q⟩)
              · exact h q
              · exact t1 q
        · rw [up_n t2, up_n t2]
          have hk : ∀ x, x < 36 → kno (putM mp c s b) x t = kno mp x t := fun x hx => by
            rw [kno_put hc hs hx ht e, if_neg]
            rintro (⟨-, q⟩ | ⟨-, q⟩)
            · exact t2 q
            · exact t1 q
          exact ⟨bm_cg z0 fun x hx => by rw [hk x hx], bm_cg z1 fun x hx => by rw [hk x hx]⟩
/-- one step on, by what is free -/
def freeM (mp : Nat → Nat) (p : Nat → Bool) (s c : Nat) : Bool := p c && kno mp c s == 1
def stepR (mp : Nat → Nat) (p : Nat → Bool) (d : Nat) : Bool := p d || mvd (freeM mp p 0) 0 d || mvd (freeM mp p 1) 1 d || mvd (freeM mp p 2) 2 d || mvd (freeM mp p 3) 3 d
theorem free_out {mp : Nat → Nat} {p : Nat → Bool} {s c : Nat} (h : nb c s = none) : freeM mp p s c = false := by
  unfold freeM kno
  rw [h]
  exact Bool.and_false _
theorem x23 (hm : Mv w m fa wa F W mp) {A : Nat} {p : Nat → Bool} (hA : bm A p) : ∃ K, am_x 23 [.ref m, .long (lN A)] w = some (.inl (some (.long (lN K))), w) ∧ bm K (stepR mp p) := by
  have r0 := rlc hm.2.1 (i := 0) (by decide) (by decide)
  have r1 := rlc hm.2.1 (i := 1) (by decide) (by decide)
  have r2 := rlc hm.2.1 (i := 2) (by decide) (by decide)
  have r3 := rlc hm.2.1 (i := 3) (by decide) (by decide)
  have f : ∀ s, s < 4 → bm (A &&& F s) (freeM mp p s) := fun s hs => bm_and hA (hm.2.2.2 s hs).1
  have a : ∀ s, s < 4 → lN A &&& lN (F s) = lN (A &&& F s) := fun s hs => wb_and (bm_lt hA) (bm_lt (hm.2.2.2 s hs).1)
  have g0 := mv0 (f 0 (by decide))
  have g1 := mv1 (f 1 (by decide)) fun c _ h => free_out h
  have g2 := mv2 (f 2 (by decide)) fun c _ h => free_out h
  have g3 := mv3 (f 3 (by decide)) fun c _ h => free_out h
  have s0 : bj_lushr (lN (A &&& F 0)) (nI 6) = lN ((A &&& F 0) / 2 ^ 6) := lN_sh (bm_lt (f 0 (by decide))) (by decide)
  have s1 : bj_lshl (lN (A &&& F 1)) (nI 1) = lN ((A &&& F 1) * 2 ^ 1) := lN_sl (by decide)
  have s2 : bj_lshl (lN (A &&& F 2)) (nI 6) = lN ((A &&& F 2) * 2 ^ 6) := lN_sl (by decide)
  have s3 : bj_lushr (lN (A &&& F 3)) (nI 1) = lN ((A &&& F 3) / 2 ^ 1) := lN_sh (bm_lt (f 3 (by decide))) (by decide)
  have o0 := bm_or hA g0
  have o1 := bm_or o0 g1
  have o2 := bm_or o1 g2
  have o3 := bm_or o2 g3
  have e0 := wb_or (bm_lt hA) (bm_lt g0)
  have e1 := wb_or (bm_lt o0) (bm_lt g1)
  have e2 := wb_or (bm_lt o1) (bm_lt g2)
  have e3 := wb_or (bm_lt o2) (bm_lt g3)
  refine ⟨_, ?_, bm_cg o3 fun c _ => rfl⟩
  simp only [bk23_0, bk23_5, bk23_7, bk23_17, bk23_19, bk23_29, bk23_31, bk23_42, bk23_44, bx23, gfc hm.1, r0, r1, r2, r3, a 0 (by decide), a 1 (by decide), a 2 (by decide), a 3 (by decide), s0, s1, s2, s3, e0, e1, e2, e3, Option.bind_some, bct_v, bct_t, otl_s, otl_n, List.cons_append, List.nil_append, List.getElem?_cons_zero, List.getElem?_cons_succ, ↓reduceIte, nI_add, nI_leS, nI_ltS, nI_eqS, nI_m1S, Nat.reduceAdd, Nat.reduceLT, Nat.reduceLeDiff, Nat.reduceMul, Nat.reduceEqDiff, not_true_eq_false, not_false_eq_true]
def rch (mp : Nat → Nat) (f : Nat) : Nat → Nat → Bool
  | 0 => fun d => decide (d = f)
  | k + 1 => stepR mp (rch mp f k)
/-- the way: how many steps -/
def wayS (mp : Nat → Nat) (f t : Nat) : Option Nat := fst1 36 fun k => rch mp f k t
theorem scanE {α β : Type} {n : Nat} {p : Nat → Bool} {Q : Nat → β → α} {R : Nat → α} {E : α} {I : Nat → β → Prop} {b : β} (h0 : I 0 b) (h1 : ∀ k b, k < n → I k b → p k = true → Q k b = R k) (h2 : ∀ k b, k < n → I k b → p k = false → ∃ b', I (k + 1) b' ∧ Q k b = Q (k + 1) b') (h3 : ∀ b, I n b → Q n b = E) : Q 0 b = (match fst1 n p with | some k => R k | none => E) := by
  have go : ∀ k, k ≤ n → (∀ j, j < k → p j = false) → ∃ b', I k b' ∧ Q 0 b = Q k b' := by
    intro k
    induction k with
    | zero => exact fun _ _ => ⟨b, h0, rfl⟩
    | succ k ih =>
      intro hk hj
      obtain ⟨b1, i1, e1⟩ := ih (by omega) fun j h => hj j (by omega)
      obtain ⟨b2, i2, e2⟩ := h2 k b1 (by omega) i1 (hj k (by omega))
      exact ⟨b2, i2, e1.trans e2⟩
  cases e : fst1 n p with
  | none =>
    obtain ⟨b1, i1, e1⟩ := go n (Nat.le_refl n) (fst1_none e)
    exact e1.trans (h3 b1 i1)
  | some k =>
    obtain ⟨a1, a2, a3⟩ := fst1_some e
    obtain ⟨b1, i1, e1⟩ := go k (by omega) a3
    exact e1.trans (h1 k b1 a1 i1 a2)
theorem x87 (hm : Mv w m fa wa F W mp) {f t : Nat} (hf : f < 36) (ht : t < 36) : am_x 87 [.ref m, .int (nI f), .int (nI t)] w = some (.inl (some (.int (no (wayS mp f t)))), w) := by
  rw [bx87, bk87_0, bit1 hf]
  have k := scanE (n := 36) (p := fun k => rch mp f k t) (Q := fun k A => am_run 87 7 [some (.ref m), none, some (.int (nI t)), some (.long (lN A)), none, some (.int (nI k))] [] w) (R := fun k => some (.inl (some (.int (nI k))), w)) (E := some (.inl (some (.int (-1))), w)) (I := fun k A => bm A (rch mp f k)) (b := 2 ^ f) (bm_bit hf)
    (fun k A hk hA hp => by
      try dsimp only at hA hp ⊢
      have h1 := has (w := w) (bm_lt hA) ht
      rw [hA.2 t ht, hp] at h1
      rw [bk87_7, if_neg (by rw [nI_leS (by omega) (by omega)]; omega)]
      simp only [bk87_14, h1, bk87_19, b2i_0, reduceCtorEq, bk87_22, Option.bind_some, bct_v, bct_t, otl_s, otl_n, List.cons_append, List.nil_append, List.getElem?_cons_zero, List.getElem?_cons_succ, ↓reduceIte])
    (fun k A hk hA hp => by
      try dsimp only at hA hp ⊢
      have h1 := has (w := w) (bm_lt hA) ht
      rw [hA.2 t ht, hp] at h1
      obtain ⟨K, k1, k2⟩ := x23 hm hA
      refine ⟨K, k2, ?_⟩
      rw [bk87_7, if_neg (by rw [nI_leS (by omega) (by omega)]; omega)]
      simp only [bk87_14, h1, bk87_19, b2i_0, bk87_25, kfc hm.1, k1, bk87_30, nI_add, Option.bind_some, bct_v, bct_t, otl_s, otl_n, List.cons_append, List.nil_append, List.getElem?_cons_zero, List.getElem?_cons_succ, ↓reduceIte])
    (fun A hA => by
      try dsimp only
      rw [bk87_7, if_pos (by rw [nI_leS (by decide) (by decide)]; decide), bk87_37])
  refine Eq.trans k ?_
  unfold wayS
  cases fst1 36 fun k => rch mp f k t <;> rfl
theorem x88 {A : Nat} {p : Nat → Bool} (hA : bm A p) : am_x 88 [.long (lN A)] w = some (.inl (some (.int (no (fst1 36 p)))), w) := by
  rw [bx88, bk88_0]
  have k := scan (n := 36) (p := p) (Q := fun k => am_run 88 2 [some (.long (lN A)), none, some (.int (nI k))] [] w) (R := fun k => some (.inl (some (.int (nI k))), w)) (E := some (.inl (some (.int (-1))), w))
    (fun k hk hp => by
      try dsimp only
      have h1 := has (w := w) (bm_lt hA) hk
      rw [hA.2 k hk, hp] at h1
      rw [bk88_2, if_neg (by rw [nI_leS (by omega) (by omega)]; omega)]
      simp only [bk88_8, h1, bk88_13, b2i_0, reduceCtorEq, bk88_16, Option.bind_some, bct_v, bct_t, otl_s, otl_n, List.cons_append, List.nil_append, List.getElem?_cons_zero, List.getElem?_cons_succ, ↓reduceIte])
    (fun k hk hp => by
      try dsimp only
      have h1 := has (w := w) (bm_lt hA) hk
      rw [hA.2 k hk, hp] at h1
      rw [bk88_2, if_neg (by rw [nI_leS (by omega) (by omega)]; omega)]
      simp only [bk88_8, h1, bk88_13, b2i_0, bk88_18, nI_add, Option.bind_some, bct_v, bct_t, otl_s, otl_n, List.cons_append, List.nil_append, List.getElem?_cons_zero, List.getElem?_cons_succ, ↓reduceIte])
    (by
      try dsimp only
      rw [bk88_2, if_pos (by rw [nI_leS (by decide) (by decide)]; decide), bk88_24])
  refine Eq.trans k ?_
  cases fst1 36 p <;> rfl
def unkA (mp : Nat → Nat) (c : Nat) : Bool := unkP mp 0 c || unkP mp 1 c || unkP mp 2 c || unkP mp 3 c
def goalS (mp : Nat → Nat) (f : Nat) : Option Nat := match fst1 36 (fun k => (fst1 36 fun c => rch mp f k c && unkA mp c).isSome) with
  | none => none
  | some k => fst1 36 fun c => rch mp f k c && unkA mp c
theorem no_m1 {o : Option Nat} (h : ∀ c, o = some c → c < 36) : (no o = (-1 : Int32)) = (o.isSome = false) := by
  cases o with
  | none => exact propext ⟨fun _ => rfl, fun _ => rfl⟩
  | some c =>
    have := h c rfl
    show (nI c = (-1 : Int32)) = _
    rw [nI_m1S (by omega)]
    exact propext ⟨False.elim, fun h => nomatch h⟩
theorem x132 (hm : Mv w m fa wa F W mp) (ho : ∀ k, mp k ≤ 2) {f : Nat} (hf : f < 36) : am_x 132 [.ref m, .int (nI f)] w = some (.inl (some (.int (no (goalS mp f)))), w) := by
  obtain ⟨K0, a0, b0⟩ := x22 hm ho (s := 0) (by decide)
  obtain ⟨K1, a1, b1⟩ := x22 hm ho (s := 1) (by decide)
  obtain ⟨K2, a2, b2⟩ := x22 hm ho (s := 2) (by decide)
  obtain ⟨K3, a3, b3⟩ := x22 hm ho (s := 3) (by decide)
  have o0 := wb_or (show (0 : Nat) < 2 ^ 64 by decide) (bm_lt b0)
  have o1 := wb_or (bm_lt (bm_or bm_0 b0)) (bm_lt b1)
  have o2 := wb_or (bm_lt (bm_or (bm_or bm_0 b0) b1)) (bm_lt b2)
  have o3 := wb_or (bm_lt (bm_or (bm_or (bm_or bm_0 b0) b1) b2)) (bm_lt b3)
  have hU : bm (0 ||| K0 ||| K1 ||| K2 ||| K3) (unkA mp) := bm_cg (bm_or (bm_or (bm_or (bm_or bm_0 b0) b1) b2) b3) fun c _ => rfl
  generalize 0 ||| K0 ||| K1 ||| K2 ||| K3 = U at hU o3
  have e : am_x 132 [.ref m, .int (nI f)] w = am_run 132 34 [some (.ref m), none, some (.long (lN U)), none, some (.long (lN (2 ^ f))), none, some (.int (nI 0)), none] [] w := by
    simp only [bk132_0, bk132_5, bk132_26, bk132_11, bk132_18, bk132_73, bk132_41, bk132_48, bk132_59, bk132_56, bk132_65, bx132, kfc hm.1, a0, a1, a2, a3, o0, o1, o2, o3, bit1 hf, Option.bind_some, bct_v, bct_t, otl_s, otl_n, List.cons_append, List.nil_append, List.getElem?_cons_zero, List.getElem?_cons_succ, ↓reduceIte, nI_add, nI_leS, nI_ltS, nI_eqS, nI_m1S, Nat.reduceAdd, Nat.reduceLT, Nat.reduceLeDiff, Nat.reduceMul, Nat.reduceEqDiff, not_true_eq_false, not_false_eq_true]
  rw [e]
  have hfl : ∀ k c, (fst1 36 fun c => rch mp f k c && unkA mp c) = some c → c < 36 := fun k c h => (fst1_some h).1
  have k := scanE (n := 36) (p := fun k => (fst1 36 fun c => rch mp f k c && unkA mp c).isSome) (Q := fun k A => am_run 132 34 [some (.ref m), none, some (.long (lN U)), none, some (.long (lN A)), none, some (.int (nI k)), none] [] w) (R := fun k => some (.inl (some (.int (no (fst1 36 fun c => rch mp f k c && unkA mp c)))), w)) (E := some (.inl (some (.int (-1))), w)) (I := fun k A => bm A (rch mp f k)) (b := 2 ^ f) (bm_bit hf)
    (fun k A hk hA hp => by
      try dsimp only at hA hp ⊢
      have an := wb_and (bm_lt hA) (bm_lt hU)
      have h1 := x88 (w := w) (bm_and hA hU)
      rw [bk132_34, if_neg (by rw [nI_leS (by omega) (by omega)]; omega)]
      simp only [bk132_41, an, h1, bk132_48, no_m1 (hfl k), hp, reduceCtorEq, bk132_56, Option.bind_some, bct_v, bct_t, otl_s, otl_n, List.cons_append, List.nil_append, List.getElem?_cons_zero, List.getElem?_cons_succ, ↓reduceIte])
    (fun k A hk hA hp => by
      try dsimp only at hA hp ⊢
      have an := wb_and (bm_lt hA) (bm_lt hU)
      have h1 := x88 (w := w) (bm_and hA hU)
      obtain ⟨K, k1, k2⟩ := x23 hm hA
      refine ⟨K, k2, ?_⟩
      rw [bk132_34, if_neg (by rw [nI_leS (by omega) (by omega)]; omega)]
      simp only [bk132_41, an, h1, bk132_48, no_m1 (hfl k), hp, bk132_59, kfc hm.1, k1, bk132_65, nI_add, Option.bind_some, bct_v, bct_t, otl_s, otl_n, List.cons_append, List.nil_append, List.getElem?_cons_zero, List.getElem?_cons_succ, ↓reduceIte])
    (fun A hA => by
      try dsimp only
      rw [bk132_34, if_pos (by rw [nI_leS (by decide) (by decide)]; decide), bk132_73])
  refine Eq.trans k ?_
  unfold goalS
  cases fst1 36 (fun k => (fst1 36 fun c => rch mp f k c && unkA mp c).isSome) <;> rfl
theorem x83 (hm : Mv w m fa wa F W mp) : am_x 83 [.ref m] w = some (.inl (some (.int (nI (cnt 36 (fun c => kno mp c 1 == 1) + cnt 36 (fun c => kno mp c 2 == 1))))), w) := by
  have r1 := rlc hm.2.1 (i := 1) (by decide) (by decide)
  have r2 := rlc hm.2.1 (i := 2) (by decide) (by decide)
  have c1 := bc_36 (hm.2.2.2 1 (by decide)).1 w
  have c2 := bc_36 (hm.2.2.2 2 (by decide)).1 w
  simp only [bk83_0, bk83_4, bk83_6, bk83_9, bk83_13, bk83_15, bk83_18, bx83, gfc hm.1, r1, r2, c1, c2, Option.bind_some, bct_v, bct_t, otl_s, otl_n, List.cons_append, List.nil_append, List.getElem?_cons_zero, List.getElem?_cons_succ, ↓reduceIte, nI_add]
theorem x84 (hm : Mv w m fa wa F W mp) : am_x 84 [.ref m] w = some (.inl (some (.int (nI (cnt 36 (fun c => kno mp c 1 == 2) + cnt 36 (fun c => kno mp c 2 == 2)) - nI 12))), w) := by
  have r1 := rlc hm.2.2.1 (i := 1) (by decide) (by decide)
  have r2 := rlc hm.2.2.1 (i := 2) (by decide) (by decide)
  have c1 := bc_36 (hm.2.2.2 1 (by decide)).2 w
  have c2 := bc_36 (hm.2.2.2 2 (by decide)).2 w
  simp only [bk84_0, bk84_4, bk84_6, bk84_9, bk84_13, bk84_15, bk84_18, bx84, gfc hm.1, r1, r2, c1, c2, Option.bind_some, bct_v, bct_t, otl_s, otl_n, List.cons_append, List.nil_append, List.getElem?_cons_zero, List.getElem?_cons_succ, ↓reduceIte, nI_add]
theorem x85 (hm : Mv w m fa wa F W mp) (ho : ∀ k, mp k ≤ 2) : am_x 85 [.ref m] w = some (.inl (some (.int (nI (cnt 36 (unkP mp 1) + cnt 36 (unkP mp 2))))), w) := by
  obtain ⟨K1, a1, b1⟩ := x22 hm ho (s := 1) (by decide)
  obtain ⟨K2, a2, b2⟩ := x22 hm ho (s := 2) (by decide)
  have c1 := bc_36 b1 w
  have c2 := bc_36 b2 w
  simp only [bk85_0, bk85_5, bk85_8, bk85_13, bk85_16, bx85, kfc hm.1, a1, a2, c1, c2, Option.bind_some, bct_v, bct_t, otl_s, otl_n, List.cons_append, List.nil_append, List.getElem?_cons_zero, List.getElem?_cons_succ, ↓reduceIte, nI_add]
/-- disputes, side by side -/
def dspP (mp mq : Nat → Nat) (s : Nat) : Nat := cnt 36 (fun c => kno mp c s == 1 && kno mq c s == 2) + cnt 36 (fun c => kno mp c s == 2 && kno mq c s == 1)
theorem x86 {m' fa' wa' : Nat} {F' W' mq : Nat → Nat} (hm : Mv w m fa wa F W mp) (hn : Mv w m' fa' wa' F' W' mq) : am_x 86 [.ref m, .ref m'] w = some (.inl (some (.int (nI (dspP mp mq 1 + dspP mp mq 2)))), w) := by
  have p1 := rlc hm.2.1 (i := 1) (by decide) (by decide)
  have p2 := rlc hm.2.1 (i := 2) (by decide) (by decide)
  have q1 := rlc hm.2.2.1 (i := 1) (by decide) (by decide)
  have q2 := rlc hm.2.2.1 (i := 2) (by decide) (by decide)
  have s1 := rlc hn.2.1 (i := 1) (by decide) (by decide)
  have s2 := rlc hn.2.1 (i := 2) (by decide) (by decide)
  have t1 := rlc hn.2.2.1 (i := 1) (by decide) (by decide)
  have t2 := rlc hn.2.2.1 (i := 2) (by decide) (by decide)
  obtain ⟨u1, v1⟩ := hm.2.2.2 1 (by decide)
  obtain ⟨u2, v2⟩ := hm.2.2.2 2 (by decide)
  obtain ⟨x1, y1⟩ := hn.2.2.2 1 (by decide)
  obtain ⟨x2, y2⟩ := hn.2.2.2 2 (by decide)
  have a1 := wb_and (bm_lt u1) (bm_lt y1)
  have a2 := wb_and (bm_lt u2) (bm_lt y2)
  have b1 := wb_and (bm_lt v1) (bm_lt x1)
  have b2 := wb_and (bm_lt v2) (bm_lt x2)
  have c1 := bc_36 (bm_and u1 y1) w
  have c2 := bc_36 (bm_and u2 y2) w
  have d1 := bc_36 (bm_and v1 x1) w
  have d2 := bc_36 (bm_and v2 x2) w
  simp only [bk86_0, bk86_4, bk86_53, bk86_9, bk86_14, bk86_16, bk86_20, bk86_22, bk86_26, bk86_33, bk86_35, bk86_39, bk86_41, bk86_45, bx86, gfc hm.1, gfc hn.1, p1, p2, q1, q2, s1, s2, t1, t2, a1, a2, b1, b2, c1, c2, d1, d2, Option.bind_some, bct_v, bct_t, otl_s, otl_n, List.cons_append, List.nil_append, List.getElem?_cons_zero, List.getElem?_cons_succ, ↓reduceIte, nI_add, nI_leS, nI_ltS, nI_eqS, nI_m1S, Nat.reduceAdd, Nat.reduceLT, Nat.reduceLeDiff, Nat.reduceMul, Nat.reduceEqDiff, not_true_eq_false, not_false_eq_true]
  unfold dspP
  rw [Nat.zero_add]
  simp only [Nat.add_assoc]
/-- what is joined -/
def mrg (mp mq : Nat → Nat) (k : Nat) : Nat := if mp k = 0 then mq k else mp k
theorem kno_mrg (mp mq : Nat → Nat) (c s : Nat) : kno (mrg mp mq) c s = if kno mp c s = 0 then kno mq c s else kno mp c s := by
  unfold kno
  cases nb c s <;> rfl
theorem mrg_le {mp mq : Nat → Nat} (h : ∀ k, mp k ≤ 2) (h' : ∀ k, mq k ≤ 2) (k : Nat) : mrg mp mq k ≤ 2 := by
  unfold mrg
  split
  · exact h' k
  · exact h k
theorem x22s (hO : cO w m 7 [.ref fa, .ref wa]) {s : Nat} (hs : s < 4) (hF : cL w fa 4 (fun j => lN (F j))) (hW : cL w wa 4 (fun j => lN (W j))) (q0 : bm (F s) (fun c => kno mp c s == 1)) (q1 : bm (W s) (fun c => kno mp c s == 2)) (ho : ∀ k, mp k ≤ 2) : ∃ K, am_x 22 [.ref m, .int (nI s)] w = some (.inl (some (.long (lN K))), w) ∧ bm K (unkP mp s) := by
  have r0 := rlc hF (i := s) hs (by decide)
  have r1 := rlc hW (i := s) hs (by decide)
  obtain ⟨K, h1, h2⟩ := lN_anot bm_all q0
  obtain ⟨L, h3, h4⟩ := lN_anot h2 q1
  refine ⟨L, ?_, bm_cg h4 fun c hc => ?_⟩
  · simp only [bk22_0, bk22_7, bk22_9, bk22_18, bk22_20, bx22, gfc hO, r0, r1, h1, h3, Option.bind_some, bct_v, bct_t, otl_s, otl_n, List.cons_append, List.nil_append, List.getElem?_cons_zero, List.getElem?_cons_succ, ↓reduceIte, nI_add, nI_leS, nI_ltS, nI_eqS, nI_m1S, Nat.reduceAdd, Nat.reduceLT, Nat.reduceLeDiff, Nat.reduceMul, Nat.reduceEqDiff, not_true_eq_false, not_false_eq_true]
  · have k := kno_le ho c s
    unfold unkP
    rcases (show kno mp c s = 0 ∨ kno mp c s = 1 ∨ kno mp c s = 2 by omega) with e | e | e <;> rw [e] <;> rfl
/-- two rows written -/
def two (w : am_Wd) (a b : Nat) (e e' : am_En) : am_Wd := am_pt (am_pt w a e) b e'
theorem two_1 {a b : Nat} {e e' d : am_En} (h : a ≠ b) : am_pt (two w a b e e') a d = two w a b d e' := by
  unfold two
  rw [← pt_sw h.symm.symm, pt_pt, pt_sw h]
theorem two_2 {a b : Nat} {e e' d : am_En} : am_pt (two w a b e e') b d = two w a b e d := by
  unfold two
  rw [pt_pt]
theorem two_n {a b x : Nat} {e e' : am_En} (h1 : x ≠ a) (h2 : x ≠ b) : (two w a b e e').1 x = w.1 x := (pt_n h2).trans (pt_n h1)
theorem two_a {a b : Nat} {e e' : am_En} (h : a ≠ b) : (two w a b e e').1 a = some e := (pt_n h).trans pt_s
theorem two_b {a b : Nat} {e e' : am_En} : (two w a b e e').1 b = some e' := pt_s
theorem two_0 {a b : Nat} {e e' : am_En} (h1 : w.1 a = some e) (h2 : w.1 b = some e') : two w a b e e' = w := by
  unfold two
  rw [pt_id h1, pt_id h2]
theorem four2 {P P' : Nat → Nat → Bool} {Q : Nat → am_Wd → am_Rs} (hF : cL w fa 4 (fun j => lN (F j))) (hW : cL w wa 4 (fun j => lN (W j))) (st : ∀ (s : Nat) (F' W' : Nat → Nat), s < 4 → (∀ j, s ≤ j → F' j = F j) → (∀ j, s ≤ j → W' j = W j) → ∃ K L, bm K (P s) ∧ bm L (P' s) ∧ Q s (two w fa wa (arL F') (arL W')) = Q (s + 1) (two w fa wa (arL (up F' s K)) (arL (up W' s L)))) :
    ∃ F' W', (∀ s, s < 4 → bm (F' s) (P s)) ∧ (∀ s, s < 4 → bm (W' s) (P' s)) ∧ Q 0 w = Q 4 (two w fa wa (arL F') (arL W')) := by
  have go : ∀ s, s ≤ 4 → ∃ F' W', (∀ j, j < s → bm (F' j) (P j)) ∧ (∀ j, j < s → bm (W' j) (P' j)) ∧ (∀ j, s ≤ j → F' j = F j) ∧ (∀ j, s ≤ j → W' j = W j) ∧ Q 0 w = Q s (two w fa wa (arL F') (arL W')) := by
    intro s
    induction s with
    | zero => exact fun _ => ⟨F, W, fun j hj => absurd hj (by omega), fun j hj => absurd hj (by omega), fun _ _ => rfl, fun _ _ => rfl, by rw [two_0 (show w.1 fa = some (arL F) from hF) (show w.1 wa = some (arL W) from hW)]⟩
    | succ s ih =>
      intro hs
      obtain ⟨F', W', h1, h1', h2, h2', h3⟩ := ih (by omega)
      obtain ⟨K, L, k1, k1', k2⟩ := st s F' W' (by omega) h2 h2'
      refine ⟨up F' s K, up W' s L, fun j hj => ?_, fun j hj => ?_, fun j hj => ?_, fun j hj => ?_, h3.trans k2⟩
      · by_cases e : j = s
        · subst e; rw [up_s]; exact k1
        · rw [up_n e]; exact h1 j (by omega)
      · by_cases e : j = s
        · subst e; rw [up_s]; exact k1'
        · rw [up_n e]; exact h1' j (by omega)
      · rw [up_n (by omega)]; exact h2 j (by omega)
      · rw [up_n (by omega)]; exact h2' j (by omega)
  obtain ⟨F', W', h1, h1', -, -, h3⟩ := go 4 (by decide)
  exact ⟨F', W', h1, h1', h3⟩
theorem x131 {m' fa' wa' : Nat} {F2 W2 mq : Nat → Nat} (hm : Mv w m fa wa F W mp) (hn : Mv w m' fa' wa' F2 W2 mq) (ho : ∀ k, mp k ≤ 2) (hq : ∀ k, mq k ≤ 2) (n1 : m ≠ fa) (n2 : m ≠ wa) (n3 : fa ≠ wa) (n4 : m' ≠ fa) (n5 : m' ≠ wa) (n6 : fa' ≠ fa) (n7 : fa' ≠ wa) (n8 : wa' ≠ fa) (n9 : wa' ≠ wa) :
    ∃ F' W', am_x 131 [.ref m, .ref m'] w = some (.inl (some (.int (nI (cnt 36 (unkP mp 1) + cnt 36 (unkP mp 2)) - nI (cnt 36 (unkP (mrg mp mq) 1) + cnt 36 (unkP (mrg mp mq) 2))))), two w fa wa (arL F') (arL W')) ∧ Mv (two w fa wa (arL F') (arL W')) m fa wa F' W' (mrg mp mq) := by
  have u0 := x85 hm ho
  obtain ⟨F', W', k1, k1', k2⟩ := four2 (w := w) (fa := fa) (wa := wa) (F := F) (W := W) (P := fun s c => kno (mrg mp mq) c s == 1) (P' := fun s c => kno (mrg mp mq) c s == 2) (Q := fun s w => am_run 131 7 [some (.ref m), some (.ref m'), some (.int (nI (cnt 36 (unkP mp 1) + cnt 36 (unkP mp 2)))), some (.int (nI s)), none, none] [] w) hm.2.1 hm.2.2.1 (fun s F' W' hs hF' hW' => by
    obtain ⟨q0, q1⟩ := hm.2.2.2 s hs
    obtain ⟨p0, p1⟩ := hn.2.2.2 s hs
    rw [← hF' s (Nat.le_refl s)] at q0
    rw [← hW' s (Nat.le_refl s)] at q1
    have hO : ∀ e e', cO (two w fa wa e e') m 7 [.ref fa, .ref wa] := fun e e' => cO_of hm.1 (two_n n1 n2)
    have hN : ∀ e e', Mv (two w fa wa e e') m' fa' wa' F2 W2 mq := fun e e' => hn.of (two_n n4 n5) (two_n n6 n7) (two_n n8 n9)
    have hF1 : ∀ (M : Nat → Nat) (e' : am_En), cL (two w fa wa (arL M) e') fa 4 (fun j => lN (M j)) := fun M e' => two_a n3
    have hW1 : ∀ (e : am_En) (M : Nat → Nat), cL (two w fa wa e (arL M)) wa 4 (fun j => lN (M j)) := fun e M => two_b
    obtain ⟨U, u1, u2⟩ := x22s (hO (arL F') (arL W')) hs (hF1 F' (arL W')) (hW1 (arL F') W') q0 q1 ho
    have a1 := wb_and (bm_lt u2) (bm_lt p0)
    have a2 := wb_or (bm_lt q0) (bm_lt (bm_and u2 p0))
    have b1 := wb_and (bm_lt u2) (bm_lt p1)
    have b2 := wb_or (bm_lt q1) (bm_lt (bm_and u2 p1))
    have r0 := rlc (hF1 F' (arL W')) (i := s) hs (by decide)
    have r1 := rlc (hN (arL F') (arL W')).2.1 (i := s) hs (by decide)
    have w1 : am_wl (two w fa wa (arL F') (arL W')) fa (nI s) (lN (F' s ||| U &&& F2 s)) = some (two w fa wa (arL (up F' s (F' s ||| U &&& F2 s))) (arL W')) := by
      rw [wlc (hF1 F' (arL W')) hs (by decide), upL]
      exact congrArg some (two_1 n3)
    have r2 := rlc (hW1 (arL (up F' s (F' s ||| U &&& F2 s))) W') (i := s) hs (by decide)
    have r3 := rlc (hN (arL (up F' s (F' s ||| U &&& F2 s))) (arL W')).2.2.1 (i := s) hs (by decide)
    have w2 : am_wl (two w fa wa (arL (up F' s (F' s ||| U &&& F2 s))) (arL W')) wa (nI s) (lN (W' s ||| U &&& W2 s)) = some (two w fa wa (arL (up F' s (F' s ||| U &&& F2 s))) (arL (up W' s (W' s ||| U &&& W2 s)))) := by
      rw [wlc (hW1 (arL (up F' s (F' s ||| U &&& F2 s))) W') hs (by decide), upL]
      exact congrArg some two_2
    refine ⟨F' s ||| U &&& F2 s, W' s ||| U &&& W2 s, bm_cg (bm_or q0 (bm_and u2 p0)) fun c hc => ?_, bm_cg (bm_or q1 (bm_and u2 p1)) fun c hc => ?_, ?_⟩
    · rw [kno_mrg]
      unfold unkP
      have k := kno_le ho c s
      rcases (show kno mp c s = 0 ∨ kno mp c s = 1 ∨ kno mp c s = 2 by omega) with e | e | e <;> rw [e] <;> simp
    · rw [kno_mrg]
      unfold unkP
      have k := kno_le ho c s
      rcases (show kno mp c s = 0 ∨ kno mp c s = 1 ∨ kno mp c s = 2 by omega) with e | e | e <;> rw [e] <;> simp
    · rw [bk131_7, if_neg (by rw [nI_leS (by omega) (by omega)]; omega)]
      simp only [bk131_0, bk131_4, bk131_61, bk131_12, bk131_66, bk131_17, bk131_23, bk131_26, bk131_32, bk131_34, bk131_37, bk131_41, bk131_44, bk131_50, bk131_52, bk131_55, bx131, kfc (hO _ _), gfc (hO _ _), gfc (hN _ _).1, u1, r0, r1, r2, r3, a1, a2, b1, b2, w1, w2, Option.bind_some, bct_v, bct_t, otl_s, otl_n, List.cons_append, List.nil_append, List.getElem?_cons_zero, List.getElem?_cons_succ, ↓reduceIte, nI_add])
  have hM : Mv (two w fa wa (arL F') (arL W')) m fa wa F' W' (mrg mp mq) := ⟨cO_of hm.1 (two_n n1 n2), two_a n3, two_b, fun s hs => ⟨k1 s hs, k1' s hs⟩⟩
  refine ⟨F', W', ?_, hM⟩
  have u1 := x85 hM (mrg_le ho hq)
  rw [bx131]
  simp only [bk131_0, kfc hm.1, u0, bk131_4, Option.bind_some, bct_v, bct_t, otl_s, otl_n, List.cons_append, List.nil_append, List.getElem?_cons_zero, List.getElem?_cons_succ, ↓reduceIte]
  refine Eq.trans k2 ?_
  rw [bk131_7, if_pos (by rw [nI_leS (by decide) (by decide)]; decide)]
  simp only [bk131_61, kfc hM.1, u1, bk131_66, Option.bind_some, bct_v, bct_t, otl_s, otl_n, List.cons_append, List.nil_append, List.getElem?_cons_zero, List.getElem?_cons_succ, ↓reduceIte]
end MAPS
