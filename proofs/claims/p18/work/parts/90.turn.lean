/-! THE REFERENCE'S CALLS: turn. Mine. -/
theorem refW_f {mi ho po ch : Nat} {lo ac bu sl : Int32} {may : Nat → Bool} {mp : Nat → Nat} {f : Bool} (h : refW mi (ho, po, ch, lo, ac, bu, sl, may, mp) f = false) : 1 ≤ ch ∧ mi < 3000 := by
  have h : (decide (ch = 0) || (!f && !(safeB ch (costI (wayW may mp ho)))) || decide (3000 ≤ mi)) = false := h
  rw [Bool.or_eq_false_iff, Bool.or_eq_false_iff] at h
  have h1 := of_decide_eq_false h.1.1
  have h2 := of_decide_eq_false h.2
  omega
section CF
variable {w : am_Wd} {g : Nat → Nat} {m kq hq ca ba wl ed : Nat} {wad : Nat → Nat} {kd hr : Nat → Nat} {cp br : Nat → Bool} {n : Nat} {ws : Nat → sW} {th mi nd : Nat} {dr me di re : Int32}
variable {i a ho po ch : Nat} {lo ac bu sl : Int32} {may : Nat → Bool} {mp : Nat → Nat}
theorem took (R : RMx w g m kq hq ca ba wl ed wad kd hr cp br n ws th mi nd dr me di re) (hn : n ≤ 3) (hJ : gJ w g) (hi : i < n) (hy : ws i = (ho, po, ch, lo, ac, bu, sl, may, mp)) {F : Nat → Int32} {q : Nat → Bool} (hF : mR2 F q) :
    ∃ w', am_x 102 [.ref (wad i), .ref w.2.1] (nwr w 2 144 F) = some (.inl none, w') ∧ RMx w' (up g w.2.1 (111 + 10 * i)) m kq hq ca ba wl ed wad kd hr cp br n (up ws i (ho, po, ch, anewL lo q, ac, bu, sl, anewM q, mp)) th mi nd dr me di re ∧ stp 100 800 g (up g w.2.1 (111 + 10 * i)) 1 144 w w' := by
  have e1 : ext w (nwr w 2 144 F) 1 144 := nwr_ext
  have gb : g w.2.1 = 0 := hJ _ (Nat.le_refl _)
  have R1 := rm_ext R hn hJ e1
  obtain ⟨w', a1, a2, a3⟩ := x102 (rm_get R1 hi hy) (by omega) (nwr_mR hF) gb
  have R2 := rm_wk2 (rm_g R1 (up_g (t := 111 + 10 * i) gb)) hn hi a2 (frm_wk a3 (by omega) (by omega))
  exact ⟨w', a1, R2, stp_new hJ e1 (Nat.le_refl _) (Nat.lt_succ_self _) a3 (by omega) (by omega) (by omega) (by omega)⟩
/-- a walker's fields written -/
theorem rm_fld (R : RMx w g m kq hq ca ba wl ed wad kd hr cp br n ws th mi nd dr me di re) (hn : n ≤ 3) (hi : i < n) (hy : ws i = (ho, po, ch, lo, ac, bu, sl, may, mp)) (ho' po' ch' : Nat) (lo' ac' bu' sl' : Int32) : ∃ ma mq, cO w (wad i) 10 (oK po ho ch ma mq lo ac bu sl) ∧ RMx (am_pt w (wad i) (.inr (10, oK po' ho' ch' ma mq lo' ac' bu' sl'))) g m kq hq ca ba wl ed wad kd hr cp br n (up ws i (ho', po', ch', lo', ac', bu', sl', may, mp)) th mi nd dr me di re ∧ frm g (110 + 10 * i) (111 + 10 * i) w (am_pt w (wad i) (.inr (10, oK po' ho' ch' ma mq lo' ac' bu' sl'))) := by
  obtain ⟨ma, mq, h1, h2, h3, g1, g2, g3⟩ := rm_get R hi hy
  obtain ⟨k1, k2⟩ := Mkv_fld (ho' := ho') (po' := po') (ch' := ch') (lo' := lo') (ac' := ac') (bu' := bu') (sl' := sl') h2 h3 (by omega) g1 g2 g3
  exact ⟨ma, mq, h1, rm_wk2 R hn hi k1 (frm_wk k2 (by omega) (by omega)), k2⟩
theorem it261 (hJ : gJ w g) (h : Mkv w g i a (ho, po, ch, lo, ac, bu, sl, may, mp)) {by_ k x : Nat} (hb : by_ < 4) (hk : k < 144) {F : Nat → Int32} (hF : ∀ p, p < k → F (p / 4 * 4 + (p + by_) % 4) = b2i (may p)) :
    ∃ F', (∀ p, p < k + 1 → F' (p / 4 * 4 + (p + by_) % 4) = b2i (may p)) ∧ am_run 261 88 [some (.ref x), none, none, none, some (.ref a), some (.int (nI by_)), some (.ref w.2.1), some (.int (nI k))] [] (nwr w 2 144 F) = am_run 261 88 [some (.ref x), none, none, none, some (.ref a), some (.int (nI by_)), some (.ref w.2.1), some (.int (nI (k + 1)))] [] (nwr w 2 144 F') := by
  have h' := h.ext hJ (nwr_ext (w := w) (t := 2) (n := 144) (M := F))
  obtain ⟨ma, mq, h1, h2, -⟩ := h'
  have r := h2.at hk
  have w1 := nwr_put (w := w) (t := 2) (n := 144) (k := k / 4 * 4 + (k + by_) % 4) (M := F) (v := b2i (may k)) (by omega) (by decide)
  refine ⟨upd F (k / 4 * 4 + (k + by_) % 4) (b2i (may k)), fun p hp => ?_, ?_⟩
  · by_cases e : p = k
    · subst e; rw [pk_us]
    · rw [pk_un (by omega)]
      exact hF p (by omega)
  · rw [bk261_88, if_neg (by rw [nI_leS (by decide) (by omega)]; omega)]
    simp only [bk261_96, x43 hk hb, bk261_105, gfc h1, oK_0, oK_1, oK_2, oK_3, oK_4, oK_5, oK_6, oK_7, oK_8, bk261_110, r, bk261_113, nar_b, w1, bk261_114, nI_add, Option.bind_some, bct_v, bct_t, otl_s, otl_n, List.cons_append, List.nil_append, List.getElem?_cons_zero, List.getElem?_cons_succ, ↓reduceIte]
/-- turn -/
theorem y261 (R : RMx w g m kq hq ca ba wl ed wad kd hr cp br n ws th mi nd dr me di re) (hn : n ≤ 3) (hJ : gJ w g) (hm : mi ≤ 3000) (hi : i < n) (hy : ws i = (ho, po, ch, lo, ac, bu, sl, may, mp)) (hp : po < 144) (hc : ch ≤ 500) (hho : ho < 36) (hmp : mpo mp) (hcn : 1 ≤ cnt 144 may) (b f : Bool) (hr0 : refW mi (ws i) f = false) :
    ∃ w' g', am_x 261 [.ref m, .int (nI i), .int (b2i b), .int (b2i f)] w = some (.inl (some (.int (nI (cnt 144 may)))), w') ∧ RM w' g' m kd hr cp br n (up ws i (turnY b (ws i))) 0 (mi + 1) nd dr me di re ∧ stp 100 800 g g' 5 288 w w' := by
  have hch : 1 ≤ ch := (refW_f (hy ▸ hr0)).1
  have z1 := x99 R (nI i)
  rw [nwk_f hn hi] at z1
  obtain ⟨w1, a1, R1, f1⟩ := x96 R hn false (c := 1) (by decide)
  have s1 := stp_frm (lo := 100) (hi := 800) hJ f1 (by decide) (by decide)
  have v1 := x150 (rm_L R1) hn hi
  have k1 := mk_kf (rm_get R1 hi hy)
  obtain ⟨w2, a2, e2⟩ := x258 R1 hn (stp_J s1) hm hi hy hmp hho hc f
  rw [← hy, hr0] at a2
  have R2 := rm_ext R1 hn (stp_J s1) e2
  have s2 := stp_tr s1 (stp_ext (stp_J s1) e2)
  obtain ⟨w3, a3, R3, f3⟩ := x40 R2 hn false (c := 2) (by decide)
  have a3' : am_x 40 [.ref m, .int (nI 0), .int (nI 2)] w2 = _ := a3
  have s3 := stp_tr s2 (stp_frm (lo := 100) (hi := 800) (stp_J s2) f3 (by decide) (by decide))
  have v3 := x150 (rm_L R3) hn hi
  have k3 := mk_kf (rm_get R3 hi hy)
  obtain ⟨ma, mq, c3, R4, f4⟩ := rm_fld R3 hn hi hy ho (turnW po b) ch lo ac bu sl
  have pf : am_pf w3 (wad i) 10 0 (.int (nI (turnW po b))) = some (am_pt w3 (wad i) (.inr (10, oK (turnW po b) ho ch ma mq lo ac bu sl))) := pfc c3 (by show 0 < 9; decide) (by decide)
  generalize am_pt w3 (wad i) (.inr (10, oK (turnW po b) ho ch ma mq lo ac bu sl)) = w4 at R4 f4 pf
  have s4 := stp_tr s3 (stp_frm (lo := 100) (hi := 800) (stp_J s3) f4 (by omega) (by omega))
  have na : am_na w4 2 (nI 144) = some (nwr w4 2 144 (fun _ => 0)) := na_nwr (by decide) rfl
  have hy4 : up ws i (ho, turnW po b, ch, lo, ac, bu, sl, may, mp) i = (ho, turnW po b, ch, lo, ac, bu, sl, may, mp) := up_s
  have h4 := rm_get R4 hi hy4
  obtain ⟨F, hF, eF⟩ := loopN (n := 144) (Q := fun k F => am_run 261 88 [some (.ref m), none, none, none, some (.ref (wad i)), some (.int (nI (if b = true then 1 else 3))), some (.ref w4.2.1), some (.int (nI k))] [] (nwr w4 2 144 F)) (I := fun k F => ∀ p, p < k → F (p / 4 * 4 + (p + (if b = true then 1 else 3)) % 4) = b2i (may p)) (b := fun _ => 0) (fun p hp => absurd hp (by omega)) (fun k F hk hI => it261 (stp_J s4) h4 (by cases b <;> decide) hk hI)
  have hF2 : mR2 F (rotP may (if b = true then 3 else 1)) := fun q hq => by
    unfold rotP
    cases b with
    | true =>
      have := hF (4 * (q / 4) + (q % 4 + 3) % 4) (by omega)
      rw [if_pos rfl, show (4 * (q / 4) + (q % 4 + 3) % 4) / 4 * 4 + (4 * (q / 4) + (q % 4 + 3) % 4 + 1) % 4 = q by omega] at this
      exact this
    | false =>
      have := hF (4 * (q / 4) + (q % 4 + 1) % 4) (by omega)
      rw [if_neg (by decide), show (4 * (q / 4) + (q % 4 + 1) % 4) / 4 * 4 + (4 * (q / 4) + (q % 4 + 1) % 4 + 3) % 4 = q by omega] at this
      exact this
  obtain ⟨w5, a5, R5, s5⟩ := took R4 hn (stp_J s4) hi hy4 hF2
  have cr := rot_cnt may b
  have eM : anewM (rotP may (if b = true then 3 else 1)) = rotP may (if b = true then 3 else 1) := if_neg (by omega)
  have eL : anewL lo (rotP may (if b = true then 3 else 1)) = lo := if_neg (by omega)
  rw [eM, eL, up_up] at R5
  obtain ⟨w6, a6, R6, f6⟩ := x46 R5 hn hi up_s hch
  have s6 := stp_tr (stp_tr s4 s5) (stp_frm (lo := 100) (hi := 800) (stp_J s5) f6 (by decide) (by decide))
  rw [up_up] at R6
  have h6 := rm_get R6 hi up_s
  have z37 := x37 h6
  rw [cr] at z37
  refine ⟨w6, _, ?_, ⟨_, _, _, _, _, _, _, by rw [hy]; exact R6⟩, stp_wk s6 (by omega) (by omega)⟩
  have st : am_x 261 [.ref m, .int (nI i), .int (b2i b), .int (b2i f)] w = am_run 261 88 [some (.ref m), none, none, none, some (.ref (wad i)), some (.int (nI (if b = true then 1 else 3))), some (.ref w4.2.1), some (.int (nI 0))] [] (nwr w4 2 144 (fun _ => 0)) := by
    have et : ∀ k, k = (if b = true then 1 else 3) → am_x 43 [.int (nI po), .int (nI k)] w3 = some (.inl (some (.int (nI (turnW po b)))), w3) := by
      intro k hk
      rw [x43 hp (by subst hk; cases b <;> decide)]
      unfold turnW
      subst hk
      rw [show (po + (if b = true then 1 else 3)) % 4 = (po % 4 + (if b = true then 1 else 3)) % 4 by omega]
    cases b with
    | true =>
      have et' := et 1 rfl
      simp only [bk261_0, bk261_6, bk261_10, bk261_37, bk261_13, bk261_19, bk261_23, bk261_26, bk261_30, bk261_34, bk261_39, bk261_43, bk261_47, bk261_50, bk261_60, bk261_56, bk261_61, bk261_70, bk261_75, bk261_78, bk261_83, bx261, rm_kf R, z1, a1, b2i_0, not_true_eq_false, gfc R1.1, gfc R3.1, oM_0, oM_1, oM_2, oM_3, oM_4, oM_5, oM_6, oM_7, oM_8, oM_9, oM_10, oM_11, rm_lk R1, rm_lk R3, v1, v3, k1, k3, rm_kf R1, a2, rm_kf R2, a3, gfc c3, oK_0, oK_1, oK_2, oK_3, oK_4, oK_5, oK_6, oK_7, oK_8, reduceCtorEq, et', pf, na, Option.bind_some, bct_v, bct_t, otl_s, otl_n, List.cons_append, List.nil_append, List.getElem?_cons_zero, List.getElem?_cons_succ, ↓reduceIte]
    | false =>
      have et' := et 3 rfl
      simp only [bk261_0, bk261_6, bk261_10, bk261_37, bk261_13, bk261_19, bk261_23, bk261_26, bk261_30, bk261_34, bk261_39, bk261_43, bk261_47, bk261_50, bk261_60, bk261_56, bk261_61, bk261_70, bk261_75, bk261_78, bk261_83, bx261, rm_kf R, z1, a1, b2i_0, not_true_eq_false, gfc R1.1, gfc R3.1, oM_0, oM_1, oM_2, oM_3, oM_4, oM_5, oM_6, oM_7, oM_8, oM_9, oM_10, oM_11, rm_lk R1, rm_lk R3, v1, v3, k1, k3, rm_kf R1, a2, rm_kf R2, a3, gfc c3, oK_0, oK_1, oK_2, oK_3, oK_4, oK_5, oK_6, oK_7, oK_8, et', pf, na, Option.bind_some, bct_v, bct_t, otl_s, otl_n, List.cons_append, List.nil_append, List.getElem?_cons_zero, List.getElem?_cons_succ, ↓reduceIte]
      rfl
  try dsimp only at eF
  rw [st, eF, bk261_88, if_pos (by rw [nI_leS (by decide) (by decide)]; decide)]
  simp only [bk261_120, a5, bk261_127, rm_kf R5, a6, bk261_133, mk_kf h6, z37, bk261_138, Option.bind_some, bct_v, bct_t, otl_s, otl_n, List.cons_append, List.nil_append, List.getElem?_cons_zero, List.getElem?_cons_succ, ↓reduceIte]
theorem y261r (R : RMx w g m kq hq ca ba wl ed wad kd hr cp br n ws th mi nd dr me di re) (hn : n ≤ 3) (hJ : gJ w g) (hm : mi ≤ 3000) (hi : i < n) (hy : ws i = (ho, po, ch, lo, ac, bu, sl, may, mp)) (hc : ch ≤ 500) (hho : ho < 36) (hmp : mpo mp) (f : Bool) {z : Int32} (hr0 : refW mi (ws i) f = true) :
    ∃ w', am_x 261 [.ref m, .int (nI i), .int z, .int (b2i f)] w = some (.inl (some (.int (nI 0))), w') ∧ RM w' g m kd hr cp br n ws 2 mi nd dr me di re ∧ stp 100 800 g g 4 144 w w' := by
  have z1 := x99 R (nI i)
  rw [nwk_f hn hi] at z1
  obtain ⟨w1, a1, R1, f1⟩ := x96 R hn false (c := 1) (by decide)
  have s1 := stp_frm (lo := 100) (hi := 800) hJ f1 (by decide) (by decide)
  have v1 := x150 (rm_L R1) hn hi
  have k1 := mk_kf (rm_get R1 hi hy)
  obtain ⟨w2, a2, e2⟩ := x258 R1 hn (stp_J s1) hm hi hy hmp hho hc f
  rw [← hy, hr0] at a2
  have R2 := rm_ext R1 hn (stp_J s1) e2
  have s2 := stp_tr s1 (stp_ext (stp_J s1) e2)
  obtain ⟨w3, a3, R3, f3⟩ := x40 R2 hn true (c := 2) (by decide)
  have s3 := stp_tr s2 (stp_frm (lo := 100) (hi := 800) (stp_J s2) f3 (by decide) (by decide))
  refine ⟨w3, ?_, ⟨_, _, _, _, _, _, _, R3⟩, stp_wk s3 (by omega) (by omega)⟩
  simp only [bk261_0, bk261_6, bk261_10, bk261_37, bk261_13, bk261_19, bk261_23, bk261_26, bk261_30, bk261_34, bk261_39, bk261_43, bk261_47, bk261_50, bk261_60, bk261_56, bk261_61, bk261_70, bk261_75, bk261_78, bk261_83, bx261, rm_kf R, z1, a1, b2i_0, not_true_eq_false, gfc R1.1, oM_0, oM_1, oM_2, oM_3, oM_4, oM_5, oM_6, oM_7, oM_8, oM_9, oM_10, oM_11, rm_lk R1, v1, k1, rm_kf R1, a2, rm_kf R2, a3, reduceCtorEq, Option.bind_some, bct_v, bct_t, otl_s, otl_n, List.cons_append, List.nil_append, List.getElem?_cons_zero, List.getElem?_cons_succ, ↓reduceIte]
theorem y261n (R : RMx w g m kq hq ca ba wl ed wad kd hr cp br n ws th mi nd dr me di re) (hn : n ≤ 3) (hJ : gJ w g) {z z2 z3 : Int32} (hz : z < nI 0 ∨ nI n ≤ z) : ∃ w', am_x 261 [.ref m, .int z, .int z2, .int z3] w = some (.inl (some (.int (nI 0))), w') ∧ RM w' g m kd hr cp br n ws 1 mi nd dr me di re ∧ stp 100 800 g g 0 0 w w' := by
  have z1 := x99 R z
  rw [nwk_t hn hz] at z1
  obtain ⟨w1, a1, R1, f1⟩ := x96 R hn true (c := 1) (by decide)
  refine ⟨w1, ?_, ⟨_, _, _, _, _, _, _, R1⟩, stp_frm hJ f1 (by decide) (by decide)⟩
  simp only [bk261_0, bk261_6, bk261_10, bk261_37, bk261_13, bk261_19, bk261_23, bk261_26, bk261_30, bk261_34, bk261_39, bk261_43, bk261_47, bk261_50, bk261_60, bk261_56, bk261_61, bk261_70, bk261_75, bk261_78, bk261_83, bx261, rm_kf R, z1, a1, b2i_0, reduceCtorEq, not_false_eq_true, Option.bind_some, bct_v, bct_t, otl_s, otl_n, List.cons_append, List.nil_append, List.getElem?_cons_zero, List.getElem?_cons_succ, ↓reduceIte]
end CF
