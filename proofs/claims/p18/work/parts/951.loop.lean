/-! THE LAW'S LOOP. Laid by wip/gen/lawc.py. Mine. -/
section LP
variable {w : am_Wd} {g : Nat → Nat} {x m u b L : Nat} {xs : Nat → Int32} {S : sS} {k s : Nat}
theorem sub5 {L i : Nat} (hL : L ≤ 2560) (hi : i ≤ 2565) : (nI L - nI 5 < nI i) = (L < i + 5) := by
  by_cases h : 5 ≤ L
  · rw [nI_subS h, nI_ltS (by omega) (by omega)]
    exact propext ⟨fun q => by omega, fun q => by omega⟩
  · have z : nI 0 ≤ nI i := by rw [nI_leS (by decide) (by omega)]; exact Nat.zero_le i
    refine propext ⟨fun _ => by omega, fun _ => ?_⟩
    have y : ∀ j : Fin 5, nI j.val - nI 5 < nI 0 := by decide +kernel
    exact Int32.lt_of_lt_of_le (y ⟨L, by omega⟩) z
set_option maxHeartbeats 1000000 in
theorem lc_all (h : LI b L xs x m u S w g k s) {i : Nat} (hi : i + 4 < L) : ∃ (S' : sS) (w' : am_Wd) (g' : Nat → Nat), am_run 269 27 [some (.ref b), some (.ref x), some (.ref m), some (.ref u), some (.int (nI i)), none, none, none] [] w = am_run 269 27 [some (.ref b), some (.ref x), some (.ref m), some (.ref u), some (.int (nI (i + 5))), none, none, none] [] w' ∧ LI b L xs x m u S' w' g' (k + 600) (s + 13200) := by
  have hb := h.2.2.2.2.2.1
  have r0 := rd hb (i := i) (by omega)
  have ln := lenI hb.1 (by decide)
  have hL := hb.2.2.2
  have q5 : (nI L - nI 5 < nI i) = False := by rw [sub5 hL (by omega)]; exact eq_false (by omega)
  have st : am_run 269 27 [some (.ref b), some (.ref x), some (.ref m), some (.ref u), some (.int (nI i)), none, none, none] [] w = am_run 269 40 [some (.ref b), some (.ref x), some (.ref m), some (.ref u), some (.int (nI i)), none, none, none] [.int (xs i)] w := by
    simp only [bk269_27, bk269_31, bk269_36, ln, q5, r0, Option.bind_some, bct_v, bct_t, otl_s, otl_n, List.cons_append, List.nil_append, List.getElem?_cons_zero, List.getElem?_cons_succ, ↓reduceIte]
  rw [st, bk269_40]
  by_cases c0 : (xs i &&& nI 31) = nI 0
  · rw [if_pos c0]; exact lc_edge h hi
  rw [if_neg c0]
  by_cases c1 : (xs i &&& nI 31) = nI 1
  · rw [if_pos c1]; exact lc_lay h hi
  rw [if_neg c1]
  by_cases c2 : (xs i &&& nI 31) = nI 2
  · rw [if_pos c2]; exact lc_cell h hi
  rw [if_neg c2]
  by_cases c3 : (xs i &&& nI 31) = nI 3
  · rw [if_pos c3]; exact lc_walker h hi
  rw [if_neg c3]
  by_cases c4 : (xs i &&& nI 31) = nI 4
  · rw [if_pos c4]; exact lc_forward h hi
  rw [if_neg c4]
  by_cases c5 : (xs i &&& nI 31) = nI 5
  · rw [if_pos c5]; exact lc_turn h hi
  rw [if_neg c5]
  by_cases c6 : (xs i &&& nI 31) = nI 6
  · rw [if_pos c6]; exact lc_feel h hi
  rw [if_neg c6]
  by_cases c7 : (xs i &&& nI 31) = nI 7
  · rw [if_pos c7]; exact lc_listen h hi
  rw [if_neg c7]
  by_cases c8 : (xs i &&& nI 31) = nI 8
  · rw [if_pos c8]; exact lc_charge h hi
  rw [if_neg c8]
  by_cases c9 : (xs i &&& nI 31) = nI 9
  · rw [if_pos c9]; exact lc_tellPose h hi
  rw [if_neg c9]
  by_cases c10 : (xs i &&& nI 31) = nI 10
  · rw [if_pos c10]; exact lc_meet h hi
  rw [if_neg c10]
  by_cases c11 : (xs i &&& nI 31) = nI 11
  · rw [if_pos c11]; exact lc_pass h hi
  rw [if_neg c11]
  by_cases c12 : (xs i &&& nI 31) = nI 12
  · rw [if_pos c12]; exact lc_call h hi
  rw [if_neg c12]
  by_cases c13 : (xs i &&& nI 31) = nI 13
  · rw [if_pos c13]; exact lc_ofEdge h hi
  rw [if_neg c13]
  by_cases c14 : (xs i &&& nI 31) = nI 14
  · rw [if_pos c14]; exact lc_ofWalker h hi
  rw [if_neg c14]
  by_cases c15 : (xs i &&& nI 31) = nI 15
  · rw [if_pos c15]; exact lc_house h hi
  rw [if_neg c15]
  by_cases c16 : (xs i &&& nI 31) = nI 16
  · rw [if_pos c16]; exact lc_row h hi
  rw [if_neg c16]
  by_cases c17 : (xs i &&& nI 31) = nI 17
  · rw [if_pos c17]; exact lc_map h hi
  rw [if_neg c17]
  by_cases c18 : (xs i &&& nI 31) = nI 18
  · rw [if_pos c18]; exact lc_may h hi
  rw [if_neg c18]
  by_cases c19 : (xs i &&& nI 31) = nI 19
  · rw [if_pos c19]; exact lc_where h hi
  rw [if_neg c19]
  by_cases c20 : (xs i &&& nI 31) = nI 20
  · rw [if_pos c20]; exact lc_way h hi
  rw [if_neg c20]
  by_cases c21 : (xs i &&& nI 31) = nI 21
  · rw [if_pos c21]; exact lc_safety h hi
  rw [if_neg c21]
  by_cases c22 : (xs i &&& nI 31) = nI 22
  · rw [if_pos c22]; exact lc_doubt h hi
  rw [if_neg c22]
  by_cases c23 : (xs i &&& nI 31) = nI 23
  · rw [if_pos c23]; exact lc_worst h hi
  rw [if_neg c23]
  by_cases c24 : (xs i &&& nI 31) = nI 24
  · rw [if_pos c24]; exact lc_best h hi
  rw [if_neg c24]
  by_cases c25 : (xs i &&& nI 31) = nI 25
  · rw [if_pos c25]; exact lc_wouldFeel h hi
  rw [if_neg c25]
  by_cases c26 : (xs i &&& nI 31) = nI 26
  · rw [if_pos c26]; exact lc_wouldBe h hi
  rw [if_neg c26]
  by_cases c27 : (xs i &&& nI 31) = nI 27
  · rw [if_pos c27]; exact lc_isSound h hi
  rw [if_neg c27]
  by_cases c28 : (xs i &&& nI 31) = nI 28
  · rw [if_pos c28]; exact lc_digest h hi
  rw [if_neg c28]
  refine ⟨S, w, g, ?_, li_wk h (by omega) (by omega)⟩
  simp only [bk269_1439, bk269_1433, nI_add, Option.bind_some, bct_v, bct_t, otl_s, otl_n, List.cons_append, List.nil_append, List.getElem?_cons_zero, List.getElem?_cons_succ, ↓reduceIte]
theorem law_go : ∀ (f i : Nat) (S : sS) (w : am_Wd) (g : Nat → Nat) (k s : Nat), L < i + 5 * f + 5 → i ≤ 2560 → LI b L xs x m u S w g k s → ∃ w', am_run 269 27 [some (.ref b), some (.ref x), some (.ref m), some (.ref u), some (.int (nI i)), none, none, none] [] w = some (.inl (some (.int (nI 1))), w') ∧ w'.2.1 ≤ k + 600 * f ∧ w'.2.2.1 ≤ s + 13200 * f := by
  have stop : ∀ (i : Nat) (S : sS) (w : am_Wd) (g : Nat → Nat) (k s : Nat), L < i + 5 → i ≤ 2560 → LI b L xs x m u S w g k s → am_run 269 27 [some (.ref b), some (.ref x), some (.ref m), some (.ref u), some (.int (nI i)), none, none, none] [] w = some (.inl (some (.int (nI 1))), w) := by
    intro i S w g k s hL hi h
    have hb := h.2.2.2.2.2.1
    have ln := lenI hb.1 (by decide)
    have q5 : (nI L - nI 5 < nI i) = True := by rw [sub5 hb.2.2.2 (by omega)]; exact eq_true hL
    simp only [bk269_27, bk269_31, bk269_36, bk269_1439, ln, q5, Option.bind_some, bct_v, bct_t, otl_s, otl_n, List.cons_append, List.nil_append, List.getElem?_cons_zero, List.getElem?_cons_succ, ↓reduceIte]
  intro f
  induction f with
  | zero =>
    intro i S w g k s hL hi h
    exact ⟨w, stop i S w g k s (by omega) hi h, by have := h.2.2.2.2.2.2.2.2.1; omega, by have := h.2.2.2.2.2.2.2.2.2; omega⟩
  | succ f ih =>
    intro i S w g k s hL hi h
    by_cases q : L < i + 5
    · exact ⟨w, stop i S w g k s q hi h, by have := h.2.2.2.2.2.2.2.2.1; omega, by have := h.2.2.2.2.2.2.2.2.2; omega⟩
    · have hb := h.2.2.2.2.2.1
      obtain ⟨S', w', g', t, h'⟩ := lc_all h (i := i) (by omega)
      obtain ⟨w2, t2, l1, l2⟩ := ih (i + 5) S' w' g' _ _ (by omega) (by have := hb.2.2.2; omega) h'
      exact ⟨w2, t.trans t2, by omega, by omega⟩
end LP
