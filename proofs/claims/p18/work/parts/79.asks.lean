/-! THE REFERENCE: what is asked of it: sums. Mine. -/
def rtP (kd hr mp : Nat → Nat) (h : Nat) (k : Nat) : Bool := !(mp k == 0) && ((mp k == 2) == clE (kd k) (hr k) h)
section ASK
variable {w : am_Wd} {g : Nat → Nat} {m kq hq ca ba wl ed : Nat} {wad : Nat → Nat} {kd hr : Nat → Nat} {cp br : Nat → Bool} {n : Nat} {ws : Nat → sW} {th mi nd : Nat} {dr me di re : Int32}
variable {i ho po ch : Nat} {lo ac bu sl : Int32} {may : Nat → Bool} {mp : Nat → Nat}
theorem cnt_s {n : Nat} {p : Nat → Bool} {b : Bool} (h : p n = b) : cnt (n + 1) p = cnt n p + (if b = true then 1 else 0) := by
  subst h
  rfl
theorem it146 (R : RMx w g m kq hq ca ba wl ed wad kd hr cp br n ws th mi nd dr me di re) (hk : kdok kd) (hh : hrok hr) (hm : mi ≤ 3000) (hi : i < n) (hy : ws i = (ho, po, ch, lo, ac, bu, sl, may, mp)) (hp : mpo mp) {c j : Nat} (hc : c < 36) (hj : j < 2) (q : Int32) :
    am_run 146 21 [some (.ref m), some (.ref (wad i)), some (.int q), some (.int (nI (cnt (2 * c + j) (fun k => mp k == 1)))), some (.int (nI (cnt (2 * c + j) (fun k => mp k == 2)))), some (.int (nI (cnt (2 * c + j) (rtP kd hr mp (mi / 60 % 24))))), some (.int (nI c)), some (.int (nI j)), none] [] w =
    am_run 146 21 [some (.ref m), some (.ref (wad i)), some (.int q), some (.int (nI (cnt (2 * c + j + 1) (fun k => mp k == 1)))), some (.int (nI (cnt (2 * c + j + 1) (fun k => mp k == 2)))), some (.int (nI (cnt (2 * c + j + 1) (rtP kd hr mp (mi / 60 % 24))))), some (.int (nI c)), some (.int (nI (j + 1))), none] [] w := by
  obtain ⟨ma, mq, h1, h2, h3, -⟩ := rm_get R hi hy
  have r0 := h3.row hc
  have r1 := h3.at hc hj
  have z := x101 R hk hh hm hc hj
  have hp := hp (2 * c + j)
  rw [bk146_21, if_neg (by rw [nI_leS (by decide) (by omega)]; omega)]
  rcases (show mp (2 * c + j) = 0 ∨ mp (2 * c + j) = 1 ∨ mp (2 * c + j) = 2 by omega) with e | e | e
  · rw [e] at r1
    rw [cnt_s (p := fun k => mp k == 1) (b := false) (by show (mp (2 * c + j) == 1) = false; rw [e]; rfl), cnt_s (p := fun k => mp k == 2) (b := false) (by show (mp (2 * c + j) == 2) = false; rw [e]; rfl), cnt_s (p := rtP kd hr mp (mi / 60 % 24)) (b := false) (by unfold rtP; rw [e]; rfl)]
    simp only [bk146_122, bk146_128, bk146_27, bk146_129, bk146_31, bk146_135, bk146_34, bk146_136, bk146_37, bk146_142, bk146_50, bk146_46, bk146_143, bk146_51, bk146_149, bk146_65, bk146_61, bk146_150, bk146_66, bk146_156, bk146_102, bk146_76, bk146_164, bk146_160, bk146_103, bk146_86, bk146_82, bk146_165, bk146_87, bk146_166, bk146_95, bk146_170, bk146_98, bk146_176, bk146_182, bk146_193, bk146_200, bk146_201, bk146_208, bk146_209, bk146_216, bk146_217, bk146_224, bk146_225, bk146_231, bx146, gfc h1, oK_0, oK_1, oK_2, oK_3, oK_4, oK_5, oK_6, oK_7, oK_8, r0, r1, Option.bind_some, bct_v, bct_t, otl_s, otl_n, List.cons_append, List.nil_append, List.getElem?_cons_zero, List.getElem?_cons_succ, ↓reduceIte, nI_add, nI_leS, nI_ltS, nI_eqS, nI_m1S, Nat.reduceAdd, Nat.reduceLT, Nat.reduceLeDiff, Nat.reduceMul, Nat.reduceEqDiff, not_true_eq_false, not_false_eq_true]
    rfl
  · rw [e] at r1
    cases q : clE (kd (2 * c + j)) (hr (2 * c + j)) (mi / 60 % 24) with
    | true =>
      rw [q] at z
      rw [cnt_s (p := fun k => mp k == 1) (b := true) (by show (mp (2 * c + j) == 1) = true; rw [e]; rfl), cnt_s (p := fun k => mp k == 2) (b := false) (by show (mp (2 * c + j) == 2) = false; rw [e]; rfl), cnt_s (p := rtP kd hr mp (mi / 60 % 24)) (b := false) (by unfold rtP; rw [e, q]; rfl)]
      simp only [bk146_122, bk146_128, bk146_27, bk146_129, bk146_31, bk146_135, bk146_34, bk146_136, bk146_37, bk146_142, bk146_50, bk146_46, bk146_143, bk146_51, bk146_149, bk146_65, bk146_61, bk146_150, bk146_66, bk146_156, bk146_102, bk146_76, bk146_164, bk146_160, bk146_103, bk146_86, bk146_82, bk146_165, bk146_87, bk146_166, bk146_95, bk146_170, bk146_98, bk146_176, bk146_182, bk146_193, bk146_200, bk146_201, bk146_208, bk146_209, bk146_216, bk146_217, bk146_224, bk146_225, bk146_231, bx146, gfc h1, oK_0, oK_1, oK_2, oK_3, oK_4, oK_5, oK_6, oK_7, oK_8, r0, r1, rm_kf R, z, b2i_t, Option.bind_some, bct_v, bct_t, otl_s, otl_n, List.cons_append, List.nil_append, List.getElem?_cons_zero, List.getElem?_cons_succ, ↓reduceIte, nI_add, nI_leS, nI_ltS, nI_eqS, nI_m1S, Nat.reduceAdd, Nat.reduceLT, Nat.reduceLeDiff, Nat.reduceMul, Nat.reduceEqDiff, not_true_eq_false, not_false_eq_true]
      rfl
    | false =>
      rw [q] at z
      rw [cnt_s (p := fun k => mp k == 1) (b := true) (by show (mp (2 * c + j) == 1) = true; rw [e]; rfl), cnt_s (p := fun k => mp k == 2) (b := false) (by show (mp (2 * c + j) == 2) = false; rw [e]; rfl), cnt_s (p := rtP kd hr mp (mi / 60 % 24)) (b := true) (by unfold rtP; rw [e, q]; rfl)]
      simp only [bk146_122, bk146_128, bk146_27, bk146_129, bk146_31, bk146_135, bk146_34, bk146_136, bk146_37, bk146_142, bk146_50, bk146_46, bk146_143, bk146_51, bk146_149, bk146_65, bk146_61, bk146_150, bk146_66, bk146_156, bk146_102, bk146_76, bk146_164, bk146_160, bk146_103, bk146_86, bk146_82, bk146_165, bk146_87, bk146_166, bk146_95, bk146_170, bk146_98, bk146_176, bk146_182, bk146_193, bk146_200, bk146_201, bk146_208, bk146_209, bk146_216, bk146_217, bk146_224, bk146_225, bk146_231, bx146, gfc h1, oK_0, oK_1, oK_2, oK_3, oK_4, oK_5, oK_6, oK_7, oK_8, r0, r1, rm_kf R, z, b2i_f, Option.bind_some, bct_v, bct_t, otl_s, otl_n, List.cons_append, List.nil_append, List.getElem?_cons_zero, List.getElem?_cons_succ, ↓reduceIte, nI_add, nI_leS, nI_ltS, nI_eqS, nI_m1S, Nat.reduceAdd, Nat.reduceLT, Nat.reduceLeDiff, Nat.reduceMul, Nat.reduceEqDiff, not_true_eq_false, not_false_eq_true]
      rfl
  · rw [e] at r1
    cases q : clE (kd (2 * c + j)) (hr (2 * c + j)) (mi / 60 % 24) with
    | true =>
      rw [q] at z
      rw [cnt_s (p := fun k => mp k == 1) (b := false) (by show (mp (2 * c + j) == 1) = false; rw [e]; rfl), cnt_s (p := fun k => mp k == 2) (b := true) (by show (mp (2 * c + j) == 2) = true; rw [e]; rfl), cnt_s (p := rtP kd hr mp (mi / 60 % 24)) (b := true) (by unfold rtP; rw [e, q]; rfl)]
      simp only [bk146_122, bk146_128, bk146_27, bk146_129, bk146_31, bk146_135, bk146_34, bk146_136, bk146_37, bk146_142, bk146_50, bk146_46, bk146_143, bk146_51, bk146_149, bk146_65, bk146_61, bk146_150, bk146_66, bk146_156, bk146_102, bk146_76, bk146_164, bk146_160, bk146_103, bk146_86, bk146_82, bk146_165, bk146_87, bk146_166, bk146_95, bk146_170, bk146_98, bk146_176, bk146_182, bk146_193, bk146_200, bk146_201, bk146_208, bk146_209, bk146_216, bk146_217, bk146_224, bk146_225, bk146_231, bx146, gfc h1, oK_0, oK_1, oK_2, oK_3, oK_4, oK_5, oK_6, oK_7, oK_8, r0, r1, rm_kf R, z, b2i_t, Option.bind_some, bct_v, bct_t, otl_s, otl_n, List.cons_append, List.nil_append, List.getElem?_cons_zero, List.getElem?_cons_succ, ↓reduceIte, nI_add, nI_leS, nI_ltS, nI_eqS, nI_m1S, Nat.reduceAdd, Nat.reduceLT, Nat.reduceLeDiff, Nat.reduceMul, Nat.reduceEqDiff, not_true_eq_false, not_false_eq_true]
      rfl
    | false =>
      rw [q] at z
      rw [cnt_s (p := fun k => mp k == 1) (b := false) (by show (mp (2 * c + j) == 1) = false; rw [e]; rfl), cnt_s (p := fun k => mp k == 2) (b := true) (by show (mp (2 * c + j) == 2) = true; rw [e]; rfl), cnt_s (p := rtP kd hr mp (mi / 60 % 24)) (b := false) (by unfold rtP; rw [e, q]; rfl)]
      simp only [bk146_122, bk146_128, bk146_27, bk146_129, bk146_31, bk146_135, bk146_34, bk146_136, bk146_37, bk146_142, bk146_50, bk146_46, bk146_143, bk146_51, bk146_149, bk146_65, bk146_61, bk146_150, bk146_66, bk146_156, bk146_102, bk146_76, bk146_164, bk146_160, bk146_103, bk146_86, bk146_82, bk146_165, bk146_87, bk146_166, bk146_95, bk146_170, bk146_98, bk146_176, bk146_182, bk146_193, bk146_200, bk146_201, bk146_208, bk146_209, bk146_216, bk146_217, bk146_224, bk146_225, bk146_231, bx146, gfc h1, oK_0, oK_1, oK_2, oK_3, oK_4, oK_5, oK_6, oK_7, oK_8, r0, r1, rm_kf R, z, b2i_f, Option.bind_some, bct_v, bct_t, otl_s, otl_n, List.cons_append, List.nil_append, List.getElem?_cons_zero, List.getElem?_cons_succ, ↓reduceIte, nI_add, nI_leS, nI_ltS, nI_eqS, nI_m1S, Nat.reduceAdd, Nat.reduceLT, Nat.reduceLeDiff, Nat.reduceMul, Nat.reduceEqDiff, not_true_eq_false, not_false_eq_true]
      rfl
/-- what is asked of a walker, as the reference sums it -/
def ofwR (kd hr : Nat → Nat) (h : Nat) (y : sW) (k : Nat) : Int32 := match y with
  | (ho, po, ch, lo, ac, bu, sl, may, mp) => match k with
    | 0 => nI po
    | 1 => nI ho
    | 2 => nI ch
    | 3 => nI (cnt 144 may)
    | 4 => if cnt 144 may = 1 then nI 1 else nI 0
    | 5 => nI (cnt 72 (fun k => mp k == 1))
    | 6 => nI (cnt 72 (fun k => mp k == 2))
    | 7 => nI (cnt 72 (rtP kd hr mp h))
    | 8 => nI (cnt 72 (fun k => mp k == 1)) + nI (cnt 72 (fun k => mp k == 2)) - nI (cnt 72 (rtP kd hr mp h))
    | 9 => lo
    | 10 => ac
    | 11 => bu
    | _ => sl
theorem x146 (R : RMx w g m kq hq ca ba wl ed wad kd hr cp br n ws th mi nd dr me di re) (hJ : gJ w g) (hk : kdok kd) (hh : hrok hr) (hm : mi ≤ 3000) (hi : i < n) (hy : ws i = (ho, po, ch, lo, ac, bu, sl, may, mp)) (hp : mpo mp) {k : Nat} (hq : k ≤ 12) :
    ∃ w', am_x 146 [.ref m, .ref (wad i), .int (nI k)] w = some (.inl (some (.int (ofwR kd hr (mi / 60 % 24) (ws i) k))), w') ∧ ext w w' 1 13 := by
  have h := rm_get R hi hy
  have hX : ∀ M, Mkv (nwr w 0 13 M) g i (wad i) (ho, po, ch, lo, ac, bu, sl, may, mp) := fun M => h.ext hJ nwr_ext
  have z : ∀ M, am_x 37 [.ref (wad i)] (nwr w 0 13 M) = some (.inl (some (.int (nI (cnt 144 may)))), nwr w 0 13 M) := fun M => x37 (hX M)
  have kf : ∀ M, am_kf (nwr w 0 13 M) (wad i) 10 = some () := fun M => mk_kf (hX M)
  have hl := cnt_le may 144
  have e0 : (nI (cnt 144 may) = nI 1) = (cnt 144 may = 1) := nI_eqS (by omega) (by decide)
  obtain ⟨ma, mq, h1, h2, h3, g1, g2, g3⟩ := h
  have c1 : ∀ M, cO (nwr w 0 13 M) (wad i) 10 (oK po ho ch ma mq lo ac bu sl) := fun M => cO_of h1 (nwr_ext.1 _ (lt_J hJ g1 (by omega)))
  have gf : ∀ M k, am_gf (nwr w 0 13 M) (wad i) 10 k = (oK po ho ch ma mq lo ac bu sl)[k]? := fun M k => gfc (c1 M)
  have na : am_na w 0 (nI 13) = some (nwr w 0 13 (fun _ => 0)) := na_nwr (by decide) rfl
  have rd : ∀ M, am_ri 0 (nwr w 0 13 M) w.2.1 (nI k) = some (M k) := fun M => ric (nwr_at (w := w) (t := 0) (n := 13) (M := M)) (i := k) rfl (by omega) (by decide)
  have cell : ∀ c, c < 36 → am_run 146 11 [some (.ref m), some (.ref (wad i)), some (.int (nI k)), some (.int (nI (cnt (2 * c) (fun k => mp k == 1)))), some (.int (nI (cnt (2 * c) (fun k => mp k == 2)))), some (.int (nI (cnt (2 * c) (rtP kd hr mp (mi / 60 % 24))))), some (.int (nI c)), none, none] [] w = am_run 146 11 [some (.ref m), some (.ref (wad i)), some (.int (nI k)), some (.int (nI (cnt (2 * (c + 1)) (fun k => mp k == 1)))), some (.int (nI (cnt (2 * (c + 1)) (fun k => mp k == 2)))), some (.int (nI (cnt (2 * (c + 1)) (rtP kd hr mp (mi / 60 % 24))))), some (.int (nI (c + 1))), none, none] [] w := by
    intro c hc
    rw [bk146_11, if_neg (by rw [nI_leS (by decide) (by omega)]; omega), bk146_18]
    have s0 := it146 R hk hh hm hi hy hp (c := c) (j := 0) hc (by decide) (nI k)
    have s1 := it146 R hk hh hm hi hy hp (c := c) (j := 1) hc (by decide) (nI k)
    refine Eq.trans s0 (Eq.trans s1 ?_)
    rw [bk146_21, if_pos (by rw [nI_leS (by decide) (by decide)]; decide), bk146_112, nI_add]
    rfl
  have go : ∀ c, c ≤ 36 → am_run 146 11 [some (.ref m), some (.ref (wad i)), some (.int (nI k)), some (.int (nI 0)), some (.int (nI 0)), some (.int (nI 0)), some (.int (nI 0)), none, none] [] w = am_run 146 11 [some (.ref m), some (.ref (wad i)), some (.int (nI k)), some (.int (nI (cnt (2 * c) (fun k => mp k == 1)))), some (.int (nI (cnt (2 * c) (fun k => mp k == 2)))), some (.int (nI (cnt (2 * c) (rtP kd hr mp (mi / 60 % 24))))), some (.int (nI c)), none, none] [] w := by
    intro c
    induction c with
    | zero => exact fun _ => rfl
    | succ c ih => exact fun hc => (ih (by omega)).trans (cell c (by omega))
  rw [bx146, bk146_0, go 36 (Nat.le_refl 36), bk146_11, if_pos (by rw [nI_leS (by decide) (by decide)]; decide)]
  show ∃ w', am_run 146 118 [none, some (.ref (wad i)), some (.int (nI k)), some (.int (nI (cnt 72 (fun k => mp k == 1)))), some (.int (nI (cnt 72 (fun k => mp k == 2)))), some (.int (nI (cnt 72 (rtP kd hr mp (mi / 60 % 24))))), none, none, none] [] w = _ ∧ _
  have tail : ∀ A B C : Int32, ∃ M : Nat → Int32, (∀ x, x ≤ 12 → M x = (match x with | 0 => nI po | 1 => nI ho | 2 => nI ch | 3 => nI (cnt 144 may) | 4 => (if cnt 144 may = 1 then nI 1 else nI 0) | 5 => A | 6 => B | 7 => C | 8 => A + B - C | 9 => lo | 10 => ac | 11 => bu | _ => sl : Int32)) ∧ am_run 146 118 [none, some (.ref (wad i)), some (.int (nI k)), some (.int A), some (.int B), some (.int C), none, none, none] [] w = some (.inl (some (.int (M k))), nwr w 0 13 M) := by
    intro A B C
    by_cases e : cnt 144 may = 1
    · simp only [if_pos e]
      refine ⟨upd (upd (upd (upd (upd (upd (upd (upd (upd (upd (upd (upd (upd (fun _ => 0) 0 (nI po)) 1 (nI ho)) 2 (nI ch)) 3 (nI (cnt 144 may))) 4 (nI 1)) 5 A) 6 B) 7 C) 8 (A + B - C)) 9 lo) 10 ac) 11 bu) 12 sl, ?_, ?_⟩
      · intro x hx
        rcases (show x = 0 ∨ x = 1 ∨ x = 2 ∨ x = 3 ∨ x = 4 ∨ x = 5 ∨ x = 6 ∨ x = 7 ∨ x = 8 ∨ x = 9 ∨ x = 10 ∨ x = 11 ∨ x = 12 by omega) with rfl | rfl | rfl | rfl | rfl | rfl | rfl | rfl | rfl | rfl | rfl | rfl | rfl <;> rfl
      · simp only [bk146_118, na, bk146_122, gf, oK_0, oK_1, oK_2, oK_3, oK_4, oK_5, oK_6, oK_7, oK_8, bk146_128, nwr_put, bk146_129, bk146_135, bk146_136, bk146_142, bk146_143, kf, z, bk146_149, bk146_150, bk146_156, e0, e, bk146_160, bk146_165, bk146_166, bk146_170, bk146_176, bk146_182, bk146_193, bk146_200, bk146_201, bk146_208, bk146_209, bk146_216, bk146_217, bk146_224, bk146_225, rd, bk146_231, Option.bind_some, bct_v, bct_t, otl_s, otl_n, List.cons_append, List.nil_append, List.getElem?_cons_zero, List.getElem?_cons_succ, ↓reduceIte, nI_add, nI_leS, nI_ltS, nI_eqS, nI_m1S, Nat.reduceAdd, Nat.reduceLT, Nat.reduceLeDiff, Nat.reduceMul, Nat.reduceEqDiff, not_true_eq_false, not_false_eq_true]
    · simp only [if_neg e]
      refine ⟨upd (upd (upd (upd (upd (upd (upd (upd (upd (upd (upd (upd (upd (fun _ => 0) 0 (nI po)) 1 (nI ho)) 2 (nI ch)) 3 (nI (cnt 144 may))) 4 (nI 0)) 5 A) 6 B) 7 C) 8 (A + B - C)) 9 lo) 10 ac) 11 bu) 12 sl, ?_, ?_⟩
      · intro x hx
        rcases (show x = 0 ∨ x = 1 ∨ x = 2 ∨ x = 3 ∨ x = 4 ∨ x = 5 ∨ x = 6 ∨ x = 7 ∨ x = 8 ∨ x = 9 ∨ x = 10 ∨ x = 11 ∨ x = 12 by omega) with rfl | rfl | rfl | rfl | rfl | rfl | rfl | rfl | rfl | rfl | rfl | rfl | rfl <;> rfl
      · simp only [bk146_118, na, bk146_122, gf, oK_0, oK_1, oK_2, oK_3, oK_4, oK_5, oK_6, oK_7, oK_8, bk146_128, nwr_put, bk146_129, bk146_135, bk146_136, bk146_142, bk146_143, kf, z, bk146_149, bk146_150, bk146_156, e0, e, bk146_164, bk146_165, bk146_166, bk146_170, bk146_176, bk146_182, bk146_193, bk146_200, bk146_201, bk146_208, bk146_209, bk146_216, bk146_217, bk146_224, bk146_225, rd, bk146_231, Option.bind_some, bct_v, bct_t, otl_s, otl_n, List.cons_append, List.nil_append, List.getElem?_cons_zero, List.getElem?_cons_succ, ↓reduceIte, nI_add, nI_leS, nI_ltS, nI_eqS, nI_m1S, Nat.reduceAdd, Nat.reduceLT, Nat.reduceLeDiff, Nat.reduceMul, Nat.reduceEqDiff, not_true_eq_false, not_false_eq_true]
  obtain ⟨M, m1, m2⟩ := tail (nI (cnt 72 (fun k => mp k == 1))) (nI (cnt 72 (fun k => mp k == 2))) (nI (cnt 72 (rtP kd hr mp (mi / 60 % 24))))
  refine ⟨nwr w 0 13 M, m2.trans ?_, nwr_ext⟩
  rw [m1 k hq, hy]
  rfl
end ASK
