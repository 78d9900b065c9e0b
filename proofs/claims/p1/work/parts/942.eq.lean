/-! TEXTS COMPARED: two texts of the same characters, as String.equals and StringLatin1.equals have them. Mine. -/
section EQ
variable {w : am_Wd} {a b k : Nat} {T : Nat → Int32}
theorem x267 {f h : Nat → Int32} (ha : cI w a 3 k f) (hb : cI w b 3 k h) (hk : k ≤ 16) (e : ∀ j, j < k → f j = h j) : am_x 267 [.ref a, .ref b] w = some (.inl (some (.int (nI 1))), w) := by
  have go : ∀ n j, n + j = k → am_run 267 9 [some (.ref a), some (.ref b), some (.int (nI j))] [] w = some (.inl (some (.int (nI 1))), w) := by
    intro n
    induction n with
    | zero =>
      intro j hj
      have q : (nI k ≤ nI j) = True := by rw [nI_leS (by omega) (by omega)]; exact eq_true (by omega)
      simp only [bk267_9, lenI ha (by decide), bk267_12, q, bk267_32, Option.bind_some, bct_v, bct_t, otl_s, otl_n, List.cons_append, List.nil_append, List.getElem?_cons_zero, List.getElem?_cons_succ, ↓reduceIte]
    | succ n ih =>
      intro j hj
      have q : (nI k ≤ nI j) = False := by rw [nI_leS (by omega) (by omega)]; exact eq_false (by omega)
      have r1 : am_ri 3 w a (nI j) = some (f j) := ric ha rfl (by omega) (by omega)
      have r2 : am_ri 3 w b (nI j) = some (f j) := by rw [e j (by omega)]; exact ric hb rfl (by omega) (by omega)
      rw [bk267_9]
      simp only [lenI ha (by decide), bk267_12, q, bk267_15, r1, bk267_18, r2, bk267_21, bk267_26, nI_add, Option.bind_some, bct_v, bct_t, otl_s, otl_n, List.cons_append, List.nil_append, List.getElem?_cons_zero, List.getElem?_cons_succ, ↓reduceIte]
      exact ih (j + 1) (by omega)
  simp only [bx267, bk267_0, lenI ha (by decide), bk267_2, lenI hb (by decide), bk267_4, not_true_eq_false, bk267_7, Option.bind_some, bct_v, bct_t, otl_s, otl_n, List.cons_append, List.nil_append, List.getElem?_cons_zero, List.getElem?_cons_succ, ↓reduceIte]
  exact go k 0 (by omega)
theorem kf_tS {lo s : Nat} (h : tS w lo s k T) : am_kf w s 0 = some () := by
  obtain ⟨v, f, a1, -⟩ := h
  exact kfc a1
theorem eq_tS {lo1 lo2 s1 s2 : Nat} (h1 : tS w lo1 s1 k T) (h2 : tS w lo2 s2 k T) (hk : k ≤ 16) : am_x 268 [.ref s1, .ref s2] w = some (.inl (some (.int (nI 1))), w) := by
  obtain ⟨v1, f1, a1, b1, c1, -⟩ := h1
  obtain ⟨v2, f2, a2, b2, c2, -⟩ := h2
  have x := x267 (a := v1) (b := v2) b1 b2 hk (fun j hj => (c1 j hj).trans (c2 j hj).symm)
  by_cases e : s1 = s2
  · simp only [bx268, bk268_0, e, not_true_eq_false, bk268_5, Option.bind_some, bct_v, bct_t, otl_s, otl_n, List.cons_append, List.nil_append, List.getElem?_cons_zero, List.getElem?_cons_succ, ↓reduceIte]
  · have q : (s1 = s2) = False := eq_false e
    have g10 : am_gf w s1 0 0 = some (.ref v1) := gfc a1
    have g11 : am_gf w s1 0 1 = some (.int (nI 0)) := gfc a1
    have g20 : am_gf w s2 0 0 = some (.ref v2) := gfc a2
    have g21 : am_gf w s2 0 1 = some (.int (nI 0)) := gfc a2
    have z := bk268_55 (w := w) (s0 := nI 1) rfl
    simp only [bx268, bk268_0, q, not_false_eq_true, bk268_7, kfc a2, bk268_11, n10, bk268_14, bk268_18, bk268_25, g11, bk268_29, g21, bk268_33, not_true_eq_false, bk268_36, g10, bk268_40, g20, bk268_44, x, bk268_47, bk268_50, z, Option.bind_some, bct_v, bct_t, otl_s, otl_n, List.cons_append, List.nil_append, List.getElem?_cons_zero, List.getElem?_cons_succ, ↓reduceIte]
end EQ
