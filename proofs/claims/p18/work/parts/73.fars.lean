/-! THE REFERENCE: how far each cell is; the way home; safety. Mine. -/
section FAR2
variable {w : am_Wd} {g : Nat → Nat} {i a ho po ch : Nat} {lo ac bu sl : Int32} {may : Nat → Bool} {mp : Nat → Nat}
theorem na_nwr {w : am_Wd} {t n : Nat} (hn : n ≤ 4096) (ht : am_in t = .inl (fun _ => 0)) : am_na w t (nI n) = some (nwr w t n (fun _ => 0)) := by
  rw [nac hn, nwr_0 ht]
theorem cell208 (hJ : gJ w g) (hp : mpo mp) (h : Mkv w g i a (ho, po, ch, lo, ac, bu, sl, may, mp)) {f far c : Nat} (hc : c < 36) (hfar : far < 36) {M : Nat → Int32} (hM : okD M (Dj mp f far (4 * c))) :
    ∃ M', okD M' (Dj mp f far (4 * (c + 1))) ∧ am_run 208 49 [none, some (.ref a), none, some (.ref w.2.1), some (.int (nI far)), some (.int (nI c)), none] [] (nwr w 0 36 M) = am_run 208 49 [none, some (.ref a), none, some (.ref w.2.1), some (.int (nI far)), some (.int (nI (c + 1))), none] [] (nwr w 0 36 M') := by
  rw [bk208_49, if_neg (by rw [nI_leS (by omega) (by omega)]; omega), bk208_56]
  have same : ∀ j d, j ≤ 4 → fst1 (far + 1) (fun k => rch mp f k c) ≠ some far → Dj mp f far (4 * c + j) d = Dj mp f far (4 * c) d := by
    intro j d hj hn
    unfold Dj
    have e : cov mp f far (4 * c + j) d = cov mp f far (4 * c) d := by
      apply Bool.eq_iff_iff.mpr
      rw [cov_iff, cov_iff]
      constructor
      · rintro ⟨q, hq, hl⟩
        refine ⟨q, ?_, hl⟩
        rcases Nat.lt_or_ge q (4 * c) with z | z
        · exact z
        · exfalso
          rw [show q / 4 = c by omega] at hl
          unfold lnk at hl
          simp only [Bool.and_eq_true, beq_iff_eq] at hl
          exact hn hl.1.1
      · rintro ⟨q, hq, hl⟩
        exact ⟨q, by omega, hl⟩
    rw [e]
  by_cases q : Dj mp f far (4 * c) c = some far
  · have keep : ∀ j, j ≤ 4 → Dj mp f far (4 * c + j) c = some far := fun j _ => by
      rw [Dj_far] at q ⊢
      exact q
    obtain ⟨M1, m1, e1⟩ := it208 hJ hp h (s := 0) hc (by decide) hfar hM (keep 0 (by decide))
    obtain ⟨M2, m2, e2⟩ := it208 hJ hp h (s := 1) hc (by decide) hfar m1 (keep 1 (by decide))
    obtain ⟨M3, m3, e3⟩ := it208 hJ hp h (s := 2) hc (by decide) hfar m2 (keep 2 (by decide))
    obtain ⟨M4, m4, e4⟩ := it208 hJ hp h (s := 3) hc (by decide) hfar m3 (keep 3 (by decide))
    refine ⟨M4, m4, ?_⟩
    rw [e1, e2, e3, e4, bk208_59, if_pos (by rw [nI_leS (by decide) (by decide)]; decide), bk208_118, nI_add]
  · refine ⟨M, fun d hd => ?_, ?_⟩
    · rw [hM d hd]
      exact congrArg no (same 4 d (by decide) (fun z => q (Dj_far.mpr z))).symm
    · have r := ric (nwr_at (w := w) (t := 0) (n := 36) (M := M)) (i := c) rfl hc (by decide)
      rw [hM c hc] at r
      have hne : ¬ no (Dj mp f far (4 * c) c) = nI far := by
        rw [no_eq (n := far + 1) (fun j hj => Dj_le hj) (by omega) (by omega)]
        exact q
      rw [bk208_59, if_neg (by rw [nI_leS (by decide) (by decide)]; decide)]
      simp only [bk208_65, r, bk208_69, hne, not_false_eq_true, bk208_118, nI_add, Option.bind_some, bct_v, bct_t, otl_s, otl_n, List.cons_append, List.nil_append, List.getElem?_cons_zero, List.getElem?_cons_succ, ↓reduceIte]
theorem round208 (hJ : gJ w g) (hp : mpo mp) (h : Mkv w g i a (ho, po, ch, lo, ac, bu, sl, may, mp)) {f far : Nat} (hfar : far < 36) {M : Nat → Int32} (hM : okD M (Dj mp f far 0)) :
    ∃ M', okD M' (Dj mp f far 144) ∧ am_run 208 39 [none, some (.ref a), none, some (.ref w.2.1), some (.int (nI far)), none, none] [] (nwr w 0 36 M) = am_run 208 39 [none, some (.ref a), none, some (.ref w.2.1), some (.int (nI (far + 1))), none, none] [] (nwr w 0 36 M') := by
  rw [bk208_39, if_neg (by rw [nI_leS (by omega) (by omega)]; omega), bk208_46]
  obtain ⟨M', m1, e⟩ := loopN (n := 36) (Q := fun c M => am_run 208 49 [none, some (.ref a), none, some (.ref w.2.1), some (.int (nI far)), some (.int (nI c)), none] [] (nwr w 0 36 M)) (I := fun c M => okD M (Dj mp f far (4 * c))) (b := M) hM (fun c M hc hI => cell208 hJ hp h hc hfar hI)
  refine ⟨M', m1, e.trans ?_⟩
  try dsimp only
  rw [bk208_49, if_pos (by rw [nI_leS (by decide) (by decide)]; decide), bk208_124, nI_add]
theorem x208 (hJ : gJ w g) (hp : mpo mp) (h : Mkv w g i a (ho, po, ch, lo, ac, bu, sl, may, mp)) {f x : Nat} (hf : f < 36) :
    ∃ M, (∀ c, c < 36 → M c = no (wayS mp f c)) ∧ am_x 208 [.ref x, .ref a, .int (nI f)] w = some (.inl (some (.ref w.2.1)), nwr w 0 36 M) := by
  have nl : ∀ c, c < 36 → am_wi 0 w 0 0 0 = am_wi 0 w 0 0 0 := fun _ _ => rfl
  obtain ⟨M, m1, e1⟩ := loopN (n := 36) (Q := fun c M => am_run 208 8 [none, some (.ref a), some (.int (nI f)), some (.ref w.2.1), some (.int (nI c)), none, none] [] (nwr w 0 36 M)) (I := fun c M => ∀ d, d < c → M d = no (Dj mp f 0 0 d)) (b := fun _ => 0) (fun d hd => absurd hd (by omega)) (fun c M hc hI => by
    have e0 : ∀ d, Dj mp f 0 0 d = if d = f then some 0 else none := by
      intro d
      unfold Dj
      show (match (match fst1 0 (fun k => rch mp f k d) with | some c => some c | none => if decide (d = f) = true then some 0 else none) with | some k => some k | none => if false = true then _ else none) = _
      show (match (if decide (d = f) = true then some 0 else none : Option Nat) with | some k => some k | none => if false = true then _ else none) = _
      by_cases q : d = f
      · rw [if_pos (decide_eq_true q), if_pos q]
      · rw [if_neg (by rw [decide_eq_false q]; decide), if_neg q]; rfl
    refine ⟨upd M c (no (Dj mp f 0 0 c)), fun d hd => ?_, ?_⟩
    · by_cases q : d = c
      · subst q; rw [pk_us]
      · rw [pk_un q]; exact hI d (by omega)
    · try dsimp only
      rw [bk208_8, if_neg (by rw [nI_leS (by omega) (by omega)]; omega), bk208_15]
      by_cases q : c = f
      · have pw := nwr_put (w := w) (t := 0) (n := 36) (k := c) (M := M) (v := nI 0) hc (by decide)
        rw [if_neg (fun z => z (congrArg nI q)), bk208_24, bk208_29]
        simp only [pw, bk208_30, nI_add, Option.bind_some, bct_v, bct_t, otl_s, otl_n, List.cons_append, List.nil_append, List.getElem?_cons_zero, List.getElem?_cons_succ, ↓reduceIte]
        rw [e0 c, if_pos q]
        rfl
      · have pw := nwr_put (w := w) (t := 0) (n := 36) (k := c) (M := M) (v := (-1 : Int32)) hc (by decide)
        rw [if_pos (fun z => q (by rw [nI_eqS (by omega) (by omega)] at z; exact z)), bk208_28, bk208_29]
        simp only [pw, bk208_30, nI_add, Option.bind_some, bct_v, bct_t, otl_s, otl_n, List.cons_append, List.nil_append, List.getElem?_cons_zero, List.getElem?_cons_succ, ↓reduceIte]
        rw [e0 c, if_neg q]
        rfl)
  obtain ⟨M', m2, e2⟩ := loopN (n := 36) (Q := fun far M => am_run 208 39 [none, some (.ref a), none, some (.ref w.2.1), some (.int (nI far)), none, none] [] (nwr w 0 36 M)) (I := fun far M => okD M (Dj mp f far 0)) (b := M) m1 (fun far M hfar hI => by
    obtain ⟨M', k1, k2⟩ := round208 hJ hp h hfar hI
    exact ⟨M', fun d hd => (k1 d hd).trans (congrArg no (Dj_next hd)), k2⟩)
  refine ⟨M', fun c hc => ?_, ?_⟩
  · rw [m2 c hc, ← Dj_next hc, Dj_way hf hc]
  · rw [bx208, bk208_0, na_nwr (by decide) rfl]
    try dsimp only at e1 e2
    show am_run 208 4 _ _ (nwr w 0 36 (fun _ => 0)) = _
    rw [bk208_4, e1, bk208_8, if_pos (by rw [nI_leS (by decide) (by decide)]; decide), bk208_36, e2, bk208_39, if_pos (by rw [nI_leS (by decide) (by decide)]; decide), bk208_130]
end FAR2
