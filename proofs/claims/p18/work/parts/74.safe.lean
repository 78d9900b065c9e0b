/-! THE REFERENCE: the way home, what it costs, safety, refusals, the goal. Mine. -/
section SAFE
variable {w : am_Wd} {g : Nat → Nat} {m kq hq ca ba wl ed : Nat} {wad : Nat → Nat} {kd hr : Nat → Nat} {cp br : Nat → Bool} {n : Nat} {ws : Nat → sW} {th mi nd : Nat} {dr me di re : Int32}
variable {i ho po ch : Nat} {lo ac bu sl : Int32} {may : Nat → Bool} {mp : Nat → Nat}
theorem rm_get (R : RMx w g m kq hq ca ba wl ed wad kd hr cp br n ws th mi nd dr me di re) (hi : i < n) (hy : ws i = (ho, po, ch, lo, ac, bu, sl, may, mp)) : Mkv w g i (wad i) (ho, po, ch, lo, ac, bu, sl, may, mp) := hy ▸ R.2.2.2.2.2.2.1 i hi
theorem x226 (R : RMx w g m kq hq ca ba wl ed wad kd hr cp br n ws th mi nd dr me di re) (hJ : gJ w g) (hi : i < n) (hy : ws i = (ho, po, ch, lo, ac, bu, sl, may, mp)) (hp : mpo mp) (hho : ho < 36) : ∃ w', am_x 226 [.ref m, .ref (wad i)] w = some (.inl (some (.int (wayW may mp ho))), w') ∧ ext w w' 1 36 := by
  have h := rm_get R hi hy
  have z := x95 h
  have kf := mk_kf h
  simp only [bx226, bk226_0, kf, z, bk226_4, sure_no, Option.bind_some, bct_v, bct_t, otl_s, otl_n, List.cons_append, List.nil_append, List.getElem?_cons_zero, List.getElem?_cons_succ, ↓reduceIte]
  unfold wayW
  cases e : sureP may with
  | none =>
    refine ⟨w, ?_, ext_wk ext_rf (by decide) (by decide)⟩
    rw [if_neg (fun q => q rfl), bk226_8, bk226_29]
  | some p =>
    have hp1 := (sure_lt e).1
    rw [e] at z
    have z' : am_x 95 [.ref (wad i)] w = some (.inl (some (.int (nI p))), w) := z
    obtain ⟨M, k1, k2⟩ := x208 hJ hp h (f := p / 4) (x := m) (by omega)
    have h' := h.ext hJ (nwr_ext (w := w) (t := 0) (n := 36) (M := M))
    obtain ⟨ma, mq, h1, -⟩ := h'
    have r := ric (nwr_at (w := w) (t := 0) (n := 36) (M := M)) (i := ho) rfl hho (by decide)
    rw [k1 ho hho] at r
    refine ⟨nwr w 0 36 M, ?_, nwr_ext⟩
    rw [if_pos (fun q => nomatch q)]
    simp only [bk226_13, kf, z', bk226_19, rm_kf R, nI_divS (show p < 2147483648 by omega) (show 0 < 4 by decide) (show 4 < 2147483648 by decide), k2, bk226_24, gfc h1, oK_0, oK_1, oK_2, oK_3, oK_4, oK_5, oK_6, oK_7, oK_8, bk226_28, r, bk226_29, Option.bind_some, bct_v, bct_t, otl_s, otl_n, List.cons_append, List.nil_append, List.getElem?_cons_zero, List.getElem?_cons_succ, ↓reduceIte]
theorem x245 (R : RMx w g m kq hq ca ba wl ed wad kd hr cp br n ws th mi nd dr me di re) (hn : n ≤ 3) (hJ : gJ w g) (hi : i < n) (hy : ws i = (ho, po, ch, lo, ac, bu, sl, may, mp)) (hp : mpo mp) (hho : ho < 36) : ∃ w', am_x 245 [.ref m, .ref (wad i)] w = some (.inl (some (.int (costI (wayW may mp ho)))), w') ∧ ext w w' 2 72 := by
  obtain ⟨w1, a1, e1⟩ := x226 R hJ hi hy hp hho
  have R1 := rm_ext R hn hJ e1
  obtain ⟨w2, a2, e2⟩ := x226 R1 (gJ_ext hJ e1) hi hy hp hho
  refine ⟨w2, ?_, ext_tr e1 e2⟩
  simp only [bx245, bk245_0, rm_kf R, a1, bk245_5, Option.bind_some, bct_v, bct_t, otl_s, otl_n, List.cons_append, List.nil_append, List.getElem?_cons_zero, List.getElem?_cons_succ, ↓reduceIte]
  unfold costI
  by_cases q : nI 0 ≤ wayW may mp ho
  · rw [if_pos q, if_pos q]
    simp only [bk245_16, rm_kf R1, a2, bk245_22, bk245_25, Option.bind_some, bct_v, bct_t, otl_s, otl_n, List.cons_append, List.nil_append, List.getElem?_cons_zero, List.getElem?_cons_succ, ↓reduceIte]
  · rw [if_neg q, if_neg q]
    simp only [bk245_8, rm_kf R1, a2, bk245_13, bk245_25, Option.bind_some, bct_v, bct_t, otl_s, otl_n, List.cons_append, List.nil_append, List.getElem?_cons_zero, List.getElem?_cons_succ, ↓reduceIte]
theorem x251 (R : RMx w g m kq hq ca ba wl ed wad kd hr cp br n ws th mi nd dr me di re) (hn : n ≤ 3) (hJ : gJ w g) (hi : i < n) (hy : ws i = (ho, po, ch, lo, ac, bu, sl, may, mp)) (hp : mpo mp) (hho : ho < 36) : ∃ w', am_x 251 [.ref m, .ref (wad i)] w = some (.inl (some (.int (b2i (safeB ch (costI (wayW may mp ho)))))), w') ∧ ext w w' 4 144 := by
  obtain ⟨w1, a1, e1⟩ := x245 R hn hJ hi hy hp hho
  have R1 := rm_ext R hn hJ e1
  have hJ1 := gJ_ext hJ e1
  have h1 := rm_get R1 hi hy
  obtain ⟨ma, mq, c1, -⟩ := h1
  unfold safeB
  by_cases q : nI 0 ≤ costI (wayW may mp ho)
  · obtain ⟨w2, a2, e2⟩ := x245 R1 hn hJ1 hi hy hp hho
    refine ⟨w2, ?_, ext_tr e1 e2⟩
    rw [if_pos q]
    simp only [bx251, bk251_0, rm_kf R, a1, bk251_5, if_pos q, bk251_25, gfc c1, oK_0, oK_1, oK_2, oK_3, oK_4, oK_5, oK_6, oK_7, oK_8, bk251_29, rm_kf R1, a2, bk251_36, Option.bind_some, bct_v, bct_t, otl_s, otl_n, List.cons_append, List.nil_append, List.getElem?_cons_zero, List.getElem?_cons_succ, ↓reduceIte]
    by_cases y : nI ch - nI 1 < costI (wayW may mp ho)
    · rw [if_pos y, bk251_43, bk251_44 (by rfl), decide_eq_false (fun z => z y)]; rfl
    · rw [if_neg y, bk251_39, bk251_44 (by rfl), decide_eq_true y]; rfl
  · refine ⟨w1, ?_, ext_wk e1 (by decide) (by decide)⟩
    rw [if_neg q]
    simp only [bx251, bk251_0, rm_kf R, a1, bk251_5, if_neg q, bk251_8, gfc c1, oK_0, oK_1, oK_2, oK_3, oK_4, oK_5, oK_6, oK_7, oK_8, bk251_12, Option.bind_some, bct_v, bct_t, otl_s, otl_n, List.cons_append, List.nil_append, List.getElem?_cons_zero, List.getElem?_cons_succ, ↓reduceIte]
    by_cases y : nI ch ≤ nI 20
    · rw [if_pos y, bk251_21, bk251_44 (by rfl), decide_eq_false (fun z => z y)]; rfl
    · rw [if_neg y, bk251_17, bk251_44 (by rfl), decide_eq_true y]; rfl
theorem x258 (R : RMx w g m kq hq ca ba wl ed wad kd hr cp br n ws th mi nd dr me di re) (hn : n ≤ 3) (hJ : gJ w g) (hm : mi ≤ 3000) (hi : i < n) (hy : ws i = (ho, po, ch, lo, ac, bu, sl, may, mp)) (hp : mpo mp) (hho : ho < 36) (hc : ch ≤ 500) (f : Bool) : ∃ w', am_x 258 [.ref m, .ref (wad i), .int (b2i f)] w = some (.inl (some (.int (b2i (refW mi (ho, po, ch, lo, ac, bu, sl, may, mp) f)))), w') ∧ ext w w' 4 144 := by
  have h1 := rm_get R hi hy
  obtain ⟨ma, mq, c1, -⟩ := h1
  unfold refW
  dsimp only
  have e0 : (nI ch = nI 0) = (ch = 0) := nI_eqS (by omega) (by decide)
  have em : (nI mi = nI 3000) = (mi = 3000) := nI_eqS (by omega) (by decide)
  have la : ∀ w', am_gf w' m 11 1 = some (.int (nI mi)) → am_run 258 19 [some (.ref m), none, none] [] w' = some (.inl (some (.int (b2i (decide (3000 ≤ mi))))), w') := by
    intro w' hw
    rw [bk258_19, hw]
    show am_run 258 23 [none, none, none] [.int (nI mi)] w' = _
    rw [bk258_23]
    simp only [em]
    by_cases q : mi = 3000
    · rw [if_neg (fun z => z q), bk258_29, bk258_34 (by rfl), decide_eq_true (by omega)]; rfl
    · rw [if_pos q, bk258_33, bk258_34 (by rfl), decide_eq_false (by omega)]; rfl
  by_cases q : ch = 0
  · refine ⟨w, ?_, ext_wk ext_rf (by decide) (by decide)⟩
    rw [decide_eq_true q, Bool.true_or, Bool.true_or]
    simp only [bx258, bk258_0, gfc c1, oK_0, oK_1, oK_2, oK_3, oK_4, oK_5, oK_6, oK_7, oK_8, bk258_4, e0, if_pos q, bk258_29, Option.bind_some, bct_v, bct_t, otl_s, otl_n, List.cons_append, List.nil_append, List.getElem?_cons_zero, List.getElem?_cons_succ, ↓reduceIte]
    exact bk258_34 (by rfl)
  · rw [decide_eq_false q, Bool.false_or]
    cases f with
    | true =>
      refine ⟨w, ?_, ext_wk ext_rf (by decide) (by decide)⟩
      simp only [bx258, bk258_0, gfc c1, oK_0, oK_1, oK_2, oK_3, oK_4, oK_5, oK_6, oK_7, oK_8, bk258_4, e0, if_neg q, bk258_7, b2i_0, reduceCtorEq, not_false_eq_true, Option.bind_some, bct_v, bct_t, otl_s, otl_n, List.cons_append, List.nil_append, List.getElem?_cons_zero, List.getElem?_cons_succ, ↓reduceIte]
      rw [la w (gfc R.1)]
      rfl
    | false =>
      obtain ⟨w1, a1, e1⟩ := x251 R hn hJ hi hy hp hho
      have R1 := rm_ext R hn hJ e1
      refine ⟨w1, ?_, e1⟩
      simp only [bx258, bk258_0, gfc c1, oK_0, oK_1, oK_2, oK_3, oK_4, oK_5, oK_6, oK_7, oK_8, bk258_4, e0, if_neg q, bk258_7, b2i_0, not_true_eq_false, bk258_11, rm_kf R, a1, bk258_16, Option.bind_some, bct_v, bct_t, otl_s, otl_n, List.cons_append, List.nil_append, List.getElem?_cons_zero, List.getElem?_cons_succ, ↓reduceIte]
      cases safeB ch (costI (wayW may mp ho)) with
      | true =>
        rw [if_neg (fun z => nomatch z), la w1 (gfc R1.1)]
        rfl
      | false =>
        rw [if_pos rfl, bk258_29, bk258_34 (by rfl)]
        rfl
end SAFE
