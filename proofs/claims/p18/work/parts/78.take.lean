/-! THE REFERENCE: what may be is taken; an act done. Mine. -/
section TAKE
variable {w : am_Wd} {g : Nat → Nat} {m kq hq ca ba wl ed : Nat} {wad : Nat → Nat} {kd hr : Nat → Nat} {cp br : Nat → Bool} {n : Nat} {ws : Nat → sW} {th mi nd : Nat} {dr me di re : Int32}
variable {i a ho po ch : Nat} {lo ac bu sl : Int32} {may : Nat → Bool} {mp : Nat → Nat}
theorem up_g {g : Nat → Nat} {b t : Nat} (h : g b = 0) : ∀ c, g c ≠ 0 → up g b t c = g c := fun c hc => up_n (fun e => hc (by rw [e]; exact h))
theorem x102 (h : Mkv w g i a (ho, po, ch, lo, ac, bu, sl, may, mp)) (hi : i < 3) {b : Nat} {q : Nat → Bool} (hb : mR w b q) (gb : g b = 0) :
    ∃ w', am_x 102 [.ref a, .ref b] w = some (.inl none, w') ∧ Mkv w' (up g b (111 + 10 * i)) i a (ho, po, ch, anewL lo q, ac, bu, sl, anewM q, mp) ∧ frm (up g b (111 + 10 * i)) (110 + 10 * i) (112 + 10 * i) w w' := by
  have hh := h.g (up_g (t := 111 + 10 * i) gb)
  generalize hG : up g b (111 + 10 * i) = G at hh
  have Gb : G b = 111 + 10 * i := by rw [← hG]; exact up_s
  obtain ⟨ma, mq, h1, h2, h3, g1, g2, g3⟩ := hh
  have pf : am_pf w a 10 3 (.ref b) = some (am_pt w a (.inr (10, oK po ho ch b mq lo ac bu sl))) := pfc h1 (by show 3 < 9; decide) (by decide)
  obtain ⟨k1, k2⟩ := Mkv_fld (ho' := ho) (po' := po) (ch' := ch) (lo' := lo) (ac' := ac) (bu' := bu) (sl' := sl) hb h3 hi g1 Gb g3
  have z := x37 k1
  have kf := mk_kf k1
  have hl := cnt_le q 144
  unfold anewL anewM
  simp only [bx102, bk102_0, pf, bk102_5, kf, z, bk102_9, Option.bind_some, bct_v, bct_t, otl_s, otl_n, List.cons_append, List.nil_append, List.getElem?_cons_zero, List.getElem?_cons_succ, ↓reduceIte]
  by_cases e : cnt 144 q = 0
  · obtain ⟨w2, a1, a2, a3⟩ := x45 k1
    obtain ⟨ma', mq', c1, c2, c3, d1, d2, d3⟩ := a2
    have pf2 : am_pf w2 a 10 5 (.int (lo + nI 1)) = some (am_pt w2 a (.inr (10, oK po ho ch ma' mq' (lo + nI 1) ac bu sl))) := pfc c1 (by show 5 < 9; decide) (by decide)
    obtain ⟨r1, r2⟩ := Mkv_fld (ho' := ho) (po' := po) (ch' := ch) (lo' := lo + nI 1) (ac' := ac) (bu' := bu) (sl' := sl) c2 c3 hi d1 d2 d3
    rw [if_pos e, if_pos e, if_pos (by rw [nI_leS (by omega) (by omega)]; omega)]
    refine ⟨am_pt w2 a (.inr (10, oK po ho ch ma' mq' (lo + nI 1) ac bu sl)), ?_, r1, frm_tr (frm_wk k2 (by omega) (by omega)) (frm_tr (frm_wk a3 (by omega) (by omega)) (frm_wk r2 (by omega) (by omega)))⟩
    simp only [bk102_13, a1, bk102_17, gfc c1, oK_0, oK_1, oK_2, oK_3, oK_4, oK_5, oK_6, oK_7, oK_8, bk102_22, pf2, bk102_27, Option.bind_some, bct_v, bct_t, otl_s, otl_n, List.cons_append, List.nil_append, List.getElem?_cons_zero, List.getElem?_cons_succ, ↓reduceIte]
  · rw [if_neg e, if_neg e, if_neg (by rw [nI_leS (by omega) (by omega)]; omega)]
    refine ⟨am_pt w a (.inr (10, oK po ho ch b mq lo ac bu sl)), ?_, k1, frm_wk k2 (by omega) (by omega)⟩
    rw [bk102_12]
/-- the reference's world may change at its own tags -/
theorem rm_wk2 (R : RMx w g m kq hq ca ba wl ed wad kd hr cp br n ws th mi nd dr me di re) (hn : n ≤ 3) {w' : am_Wd} {y : sW} (hi : i < n) (h : Mkv w' g i (wad i) y) (f : frm g (110 + 10 * i) (113 + 10 * i) w w') : RMx w' g m kq hq ca ba wl ed wad kd hr cp br n (up ws i y) th mi nd dr me di re :=
  rm_wk R hn hi h (fun b z1 _ => f.1 b (by omega)) (by rw [f.2])
theorem rm_g (R : RMx w g m kq hq ca ba wl ed wad kd hr cp br n ws th mi nd dr me di re) {g' : Nat → Nat} (hg : ∀ b, g b ≠ 0 → g' b = g b) : RMx w g' m kq hq ca ba wl ed wad kd hr cp br n ws th mi nd dr me di re := by
  obtain ⟨h1, k1, k2, k3, k4, k5, k6, g1, g2, g3, g4, g5, g6⟩ := R
  refine ⟨h1, k1.g (by decide) hg, k2.g (by decide) hg, k3, k4, ⟨k5.1, ?_⟩, fun i hi => (k6 i hi).g hg, (hg _ (by omega)).trans g1, (hg _ (by omega)).trans g2, (hg _ (by omega)).trans g3, (hg _ (by omega)).trans g4, (hg _ (by omega)).trans g5, (hg _ (by omega)).trans g6⟩
  rcases k5.2 with ⟨z1, z2, z3, z4⟩ | ⟨z1, z2⟩
  · exact Or.inl ⟨z1, z2, z3, (hg _ (by omega)).trans z4⟩
  · exact Or.inr ⟨z1, (hg _ (by omega)).trans z2⟩
theorem x46 (R : RMx w g m kq hq ca ba wl ed wad kd hr cp br n ws th mi nd dr me di re) (hn : n ≤ 3) (hi : i < n) (hy : ws i = (ho, po, ch, lo, ac, bu, sl, may, mp)) (hc : 1 ≤ ch) :
    ∃ w', am_x 46 [.ref m, .ref (wad i)] w = some (.inl none, w') ∧ RMx w' g m kq hq ca ba wl ed wad kd hr cp br n (up ws i (ho, po, ch - 1, lo, ac + nI 1, bu, sl, may, mp)) th (mi + 1) nd dr me di re ∧ frm g 100 141 w w' := by
  have h := rm_get R hi hy
  obtain ⟨ma, mq, h1, h2, h3, g1, g2, g3⟩ := h
  have p1 : am_pf w (wad i) 10 6 (.int (ac + nI 1)) = some (am_pt w (wad i) (.inr (10, oK po ho ch ma mq lo (ac + nI 1) bu sl))) := pfc h1 (by show 6 < 9; decide) (by decide)
  have q1 : cO (am_pt w (wad i) (.inr (10, oK po ho ch ma mq lo (ac + nI 1) bu sl))) (wad i) 10 (oK po ho ch ma mq lo (ac + nI 1) bu sl) := pt_s
  have p2 : am_pf (am_pt w (wad i) (.inr (10, oK po ho ch ma mq lo (ac + nI 1) bu sl))) (wad i) 10 2 (.int (nI (ch - 1))) = some (am_pt w (wad i) (.inr (10, oK po ho (ch - 1) ma mq lo (ac + nI 1) bu sl))) := by
    rw [pfc q1 (by show 2 < 9; decide) (by decide), pt_pt]
    rfl
  obtain ⟨k1, k2⟩ := Mkv_fld (ho' := ho) (po' := po) (ch' := ch - 1) (lo' := lo) (ac' := ac + nI 1) (bu' := bu) (sl' := sl) h2 h3 (by omega) g1 g2 g3
  have R1 := rm_wk2 R hn hi k1 (frm_wk k2 (by omega) (by omega))
  have p3 : am_pf (am_pt w (wad i) (.inr (10, oK po ho (ch - 1) ma mq lo (ac + nI 1) bu sl))) m 11 1 (.int (nI (mi + 1))) = some (am_pt (am_pt w (wad i) (.inr (10, oK po ho (ch - 1) ma mq lo (ac + nI 1) bu sl))) m (.inr (11, oM th (mi + 1) nd dr me di re kq hq ca ba wl))) := pfc R1.1 (by show 1 < 12; decide) (by decide)
  obtain ⟨r1, r2⟩ := rm_m (th' := th) (mi' := mi + 1) (nd' := nd) (dr' := dr) (me' := me) (di' := di) (re' := re) R1 hn
  refine ⟨_, ?_, r1, frm_tr (frm_wk k2 (by omega) (by omega)) (frm_wk r2 (by omega) (by omega))⟩
  simp only [bk46_0, bk46_5, bk46_10, bk46_15, bk46_20, bk46_25, bk46_30, bx46, gfc h1, gfc q1, oK_0, oK_1, oK_2, oK_3, oK_4, oK_5, oK_6, oK_7, oK_8, p1, nI_subS hc, p2, gfc R1.1, oM_0, oM_1, oM_2, oM_3, oM_4, oM_5, oM_6, oM_7, oM_8, oM_9, oM_10, oM_11, nI_add, p3, Option.bind_some, bct_v, bct_t, otl_s, otl_n, List.cons_append, List.nil_append, List.getElem?_cons_zero, List.getElem?_cons_succ, ↓reduceIte]
end TAKE
