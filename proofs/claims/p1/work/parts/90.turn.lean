section
/-! THE REFERENCE'S CALLS: turn. Mine. -/
theorem refW_f {mi ho po ch : Nat} {lo ac bu sl : Int32} {may : Nat → Bool} {mp : Nat → Nat} {f : Bool} (h : refW mi (ho, po, ch, lo, ac, bu, sl, may, mp) f = false) : 1 ≤ ch ∧ mi < 3000 := by
  have h : (decide (ch = 0) || (!f && !(safeB ch (costI (wayW may mp ho)))) || decide (3000 ≤ mi)) = false := h
  rw [Bool.or_eq_false_iff, Bool.or_eq_false_iff] at h
  have h1 := of_decide_eq_false h.1.1
  have h2 := of_decide_eq_false h.2
  omega
section CF
variable {w : am_Wd} {g : Nat → Nat} {m kq hq ca ba wl ed : Nat} {wad : Nat → Nat} {kd hr : Nat → Nat} {cp br : Nat → Bool} {n : Nat} {ws : Nat → sW} {th mi nd : Nat} {dr me di re : Int32}
variable {i a ho po ch : Nat} {lo ac bu sl : Int32} {may : Nat → Bool} {mp : Nat → Nat}
theorem took (R : RMx w g m kq hq ca ba wl ed wad kd hr cp br n ws th mi nd dr me di re) (hn : n ≤ 3) (hJ : gJ w g) (hi : i < n) (hy : ws i = (ho, po, ch, lo, ac, bu, sl, may, mp)) {F : Nat → Int32} {q : Nat → Bool} (hF : mR2 F q) :
    ∃ w', am_x 102 [.ref (wad i), .ref w.2.1] (nwr w 2 144 F) = some (.inl none, w') ∧ RMx w' (up g w.2.1 (111 + 10 * i)) m kq hq ca ba wl ed wad kd hr cp br n (up ws i (ho, po, ch, anewL lo q, ac, bu, sl, anewM q, mp)) th mi nd dr me di re ∧ stp 100 800 g (up g w.2.1 (111 + 10 * i)) 1 144 w w' := by
  have e1 : ext w (nwr w 2 144 F) 1 144 := nwr_ext
  have gb : g w.2.1 = 0 := hJ _ (Nat.le_refl _)
  have R1 := rm_ext R hn hJ e1
  obtain ⟨w', a1, a2, a3⟩ := x102 (rm_get R1 hi hy) (by omega) (nwr_mR hF) gb
  have R2 := rm_wk2 (rm_g R1 (up_g (t := 111 + 10 * i) gb)) hn hi a2 (frm_wk a3 (by omega) (by omega))
  exact ⟨w', a1, R2, stp_new hJ e1 (Nat.le_refl _) (Nat.lt_succ_self _) a3 (by omega) (by omega) (by omega) (by omega)⟩
/-- a walker's fields written -/
theorem rm_fld (R : RMx w g m kq hq ca ba wl ed wad kd hr cp br n ws th mi nd dr me di re) (hn : n ≤ 3) (hi : i < n) (hy : ws i = (ho, po, ch, lo, ac, bu, sl, may, mp)) (ho' po' ch' : Nat) (lo' ac' bu' sl' : Int32) : ∃ ma mq, cO w (wad i) 10 (oK po ho ch ma mq lo ac bu sl) ∧ RMx (am_pt w (wad i) (.inr (10, oK po' ho' ch' ma mq lo' ac' bu' sl'))) g m kq hq ca ba wl ed wad kd hr cp br n (up ws i (ho', po', ch', lo', ac', bu', sl', may, mp)) th mi nd dr me di re ∧ frm g (110 + 10 * i) (111 + 10 * i) w (am_pt w (wad i) (.inr (10, oK po' ho' ch' ma mq lo' ac' bu' sl'))) := by
  obtain ⟨ma, mq, h1, h2, h3, g1, g2, g3⟩ := rm_get R hi hy
  obtain ⟨k1, k2⟩ := Mkv_fld (ho' := ho') (po' := po') (ch' := ch') (lo' := lo') (ac' := ac') (bu' := bu') (sl' := sl') h2 h3 (by omega) g1 g2 g3
  exact ⟨ma, mq, h1, rm_wk2 R hn hi k1 (frm_wk k2 (by omega) (by omega)), k2⟩
theorem it261 (hJ : gJ w g) (h : Mkv w g i a (ho, po, ch, lo, ac, bu, sl, may, mp)) {by_ k x : Nat} (hb : by_ < 4) (hk : k < 144) {F : Nat → Int32} (hF : ∀ p, p < k → F (p / 4 * 4 + (p + by_) % 4) = b2i (may p)) :
    ∃ F', (∀ p, p < k + 1 → F' (p / 4 * 4 + (p + by_) % 4) = b2i (may p)) ∧ am_run 261 88 [some (.ref x), none, none, none, some (.ref a), some (.int (nI by_)), some (.ref w.2.1), some (.int (nI k))] [] (nwr w 2 144 F) = am_run 261 88 [some (.ref x), none, none, none, some (.ref a), some (.int (nI by_)), some (.ref w.2.1), some (.int (nI (k + 1)))] [] (nwr w 2 144 F') := by
  have h' := h.ext hJ (nwr_ext (w := w) (t := 2) (n := 144) (M := F))
  obtain ⟨ma, mq, h1, h2, -⟩ := h'
  have r := h2.at hk
  have w1 := nwr_put (w := w) (t := 2) (n := 144) (k := k / 4 * 4 + (k + by_) % 4) (M := F) (v := b2i (may k)) (by omega) (by decide)
  refine ⟨upd F (k / 4 * 4 + (k + by_) % 4) (b2i (may k)), fun p hp => ?_, ?_⟩
  · by_cases e : p = k
    · subst e; rw [pk_us]
    · rw [pk_un (by omega)]
      exact hF p (by omega)
  · rw [bk261_88, if_neg (by rw [nI_leS (by decide) (by omega)]; omega)]
    simp only [bk261_96, x43 hk hb, bk261_105, gfc h1, oK_0, oK_1, oK_2, oK_3, oK_4, oK_5, oK_6, oK_7, oK_8, bk261_110, r, bk261_113, nar_b, w1, bk261_114, nI_add, Option.bind_some, bct_v, bct_t, otl_s, otl_n, List.cons_append, List.nil_append, List.getElem?_cons_zero, List.getElem?_cons_succ, ↓reduceIte]
/-- turn -/
theorem y261 (R : RMx w g m kq hq ca ba wl ed wad kd hr cp br n ws th mi nd dr me di re) (hn : n ≤ 3) (hJ : gJ w g) (hm : mi ≤ 3000) (hi : i < n) (hy : ws i = (ho, po, ch, lo, ac, bu, sl, may, mp)) (hp : po < 144) (hc : ch ≤ 500) (hho : ho < 36) (hmp : mpo mp) (hcn : 1 ≤ cnt 144 may) (b f : Bool) (hr0 : refW mi (ws i) f = false) :
    ∃ w' g', am_x 261 [.ref m, .int (nI i), .int (b2i b), .int (b2i f)] w = some (.inl (some (.int (nI (cnt 144 may)))), w') ∧ RM w' g' m kd hr cp br n (up ws i (turnY b (ws i))) 0 (mi + 1) nd dr me di re ∧ stp 100 800 g g' 5 288 w w' := by
  have hch : 1 ≤ ch := (refW_f (hy ▸ hr0)).1
  have z1 := x99 R (nI i)
  rw [nwk_f hn hi] at z1
  obtain ⟨w1, a1, R1, f1⟩ := x96 R hn false (c := 1) (by decide)
  have s1 := stp_frm (lo := 100) (hi := 800) hJ f1 (by decide) (by decide)
  have v1 := x150 (rm_L R1) hn hi
  have k1 := mk_kf (rm_get R1 hi hy)
  obtain ⟨w2, a2, e2⟩ := x258 R1 hn (stp_J s1) hm hi hy hmp hho hc f
  rw [← hy, hr0] at a2
  have R2 := rm_ext R1 hn (stp_J s1) e2
  have s2 := stp_tr s1 (stp_ext (stp_J s1) e2)
  obtain ⟨w3, a3, R3, f3⟩ := x40 R2 hn false (c := 2) (by decide)
  have a3' : am_x 40 [.ref m, .int (nI 0), .int (nI 2)] w2 = _ := a3
  have s3 := stp_tr s2 (stp_frm (lo := 100) (hi := 800) (stp_J s2) f3 (by decide) (by decide))
  have v3 := x150 (rm_L R3) hn hi
  have k3 := mk_kf (rm_get R3 hi hy)
  obtain ⟨ma, mq, c3, R4, f4⟩ := rm_fld R3 hn hi hy ho (turnW po b) ch lo ac bu sl
  have pf : am_pf w3 (wad i) 10 0 (.int (nI (turnW po b))) = some (am_pt w3 (wad i) (.inr (10, oK (turnW po b) ho ch ma mq lo ac bu sl))) := pfc c3 (by show 0 < 9; decide) (by decide)
  generalize am_pt w3 (wad i) (.inr (10, oK (turnW po b) ho ch ma mq lo ac bu sl)) = w4 at R4 f4 pf
  have s4 := stp_tr s3 (stp_frm (lo := 100) (hi := 800) (stp_J s3) f4 (by omega) (by omega))
  have na : am_na w4 2 (nI 144) = some (nwr w4 2 144 (fun _ => 0)) := na_nwr (by decide) rfl
  have hy4 : up ws i (ho, turnW po b, ch, lo, ac, bu, sl, may, mp) i = (ho, turnW po b, ch, lo, ac, bu, sl, may, mp) := up_s
  have h4 := rm_get R4 hi hy4
  obtain ⟨F, hF, eF⟩ := loopN (n := 144) (Q := fun k F => am_run 261 88 [some (.ref m), none, none, none, some (.ref (wad i)), some (.int (nI (if b = true then 1 else 3))), some (.ref w4.2.1), some (.int (nI k))] [] (nwr w4 2 144 F)) (I := fun k F => ∀ p, p < k → F (p / 4 * 4 + (p + (if b = true then 1 else 3)) % 4) = b2i (may p)) (b := fun _ => 0) (fun p hp => absurd hp (by omega)) (fun k F hk hI => it261 (stp_J s4) h4 (by cases b <;> decide) hk hI)
  have hF2 : mR2 F (rotP may (if b = true then 3 else 1)) := fun q hq => by
    unfold rotP
    cases b with
    | true =>
      have := hF (4 * (q / 4) + (q % 4 + 3) % 4) (by omega)
      rw [if_pos rfl, show (4 * (q / 4) + (q % 4 + 3) % 4) / 4 * 4 + (4 * (q / 4) + (q % 4 + 3) % 4 + 1) % 4 = q by omega] at this
      exact this
    | false =>
      have := hF (4 * (q / 4) + (q % 4 + 1) % 4) (by omega)
      rw [if_neg (by decide), show (4 * (q / 4) + (q % 4 + 1) % 4) / 4 * 4 + (4 * (q / 4) + (q % 4 + 1) % 4 + 3) % 4 = q by omega] at this
      exact this
  obtain ⟨w5, a5, R5, s5⟩ := took R4 hn (stp_J s4) hi hy4 hF2
  have cr := rot_cnt may b
  have eM : anewM (rotP may (if b = true then 3 else 1)) = rotP may (if b = true then 3 else 1) := if_neg (by omega)
  have eL : anewL lo (rotP may (if b = true then 3 else 1)) = lo := if_neg (by omega)
  rw [eM, eL, up_up] at R5
  obtain ⟨w6, a6, R6, f6⟩ := x46 R5 hn hi up_s hch
  have s6 := stp_tr (stp_tr s4 s5) (stp_frm (lo := 100) (hi := 800) (stp_J s5) f6 (by decide) (by decide))
  rw [up_up] at R6
  have h6 := rm_get R6 hi up_s
  have z37 := x37 h6
  rw [cr] at z37
  refine ⟨w6, _, ?_, ⟨_, _, _, _, _, _, _, by rw [hy]; exact R6⟩, stp_wk s6 (by omega) (by omega)⟩
  have st : am_x 261 [.ref m, .int (nI i), .int (b2i b), .int (b2i f)] w = am_run 261 88 [some (.ref m), none, none, none, some (.ref (wad i)), some (.int (nI (if b = true then 1 else 3))), some (.ref w4.2.1), some (.int (nI 0))] [] (nwr w4 2 144 (fun _ => 0)) := by
    have et : ∀ k, k = (if b = true then 1 else 3) → am_x 43 [.int (nI po), .int (nI k)] w3 = some (.inl (some (.int (nI (turnW po b)))), w3) := by
      intro k hk
      rw [x43 hp (by subst hk; cases b <;> decide)]
      unfold turnW
      subst hk
      rw [show (po + (if b = true then 1 else 3)) % 4 = (po % 4 + (if b = true then 1 else 3)) % 4 by omega]
    cases b with
    | true =>
      have et' := et 1 rfl
      simp only [bk261_0, bk261_6, bk261_10, bk261_37, bk261_13, bk261_19, bk261_23, bk261_26, bk261_30, bk261_34, bk261_39, bk261_43, bk261_47, bk261_50, bk261_60, bk261_56, bk261_61, bk261_70, bk261_75, bk261_78, bk261_83, bx261, rm_kf R, z1, a1, b2i_0, not_true_eq_false, gfc R1.1, gfc R3.1, oM_0, oM_1, oM_2, oM_3, oM_4, oM_5, oM_6, oM_7, oM_8, oM_9, oM_10, oM_11, rm_lk R1, rm_lk R3, v1, v3, k1, k3, rm_kf R1, a2, rm_kf R2, a3, gfc c3, oK_0, oK_1, oK_2, oK_3, oK_4, oK_5, oK_6, oK_7, oK_8, reduceCtorEq, et', pf, na, Option.bind_some, bct_v, bct_t, otl_s, otl_n, List.cons_append, List.nil_append, List.getElem?_cons_zero, List.getElem?_cons_succ, ↓reduceIte]
    | false =>
      have et' := et 3 rfl
      simp only [bk261_0, bk261_6, bk261_10, bk261_37, bk261_13, bk261_19, bk261_23, bk261_26, bk261_30, bk261_34, bk261_39, bk261_43, bk261_47, bk261_50, bk261_60, bk261_56, bk261_61, bk261_70, bk261_75, bk261_78, bk261_83, bx261, rm_kf R, z1, a1, b2i_0, not_true_eq_false, gfc R1.1, gfc R3.1, oM_0, oM_1, oM_2, oM_3, oM_4, oM_5, oM_6, oM_7, oM_8, oM_9, oM_10, oM_11, rm_lk R1, rm_lk R3, v1, v3, k1, k3, rm_kf R1, a2, rm_kf R2, a3, gfc c3, oK_0, oK_1, oK_2, oK_3, oK_4, oK_5, oK_6, oK_7, oK_8, et', pf, na, Option.bind_some, bct_v, bct_t, otl_s, otl_n, List.cons_append, List.nil_append, List.getElem?_cons_zero, List.getElem?_cons_succ, ↓reduceIte]
      rfl
  try dsimp only at eF
  rw [st, eF, bk261_88, if_pos (by rw [nI_leS (by decide) (by decide)]; decide)]
  simp only [bk261_120, a5, bk261_127, rm_kf R5, a6, bk261_133, mk_kf h6, z37, bk261_138, Option.bind_some, bct_v, bct_t, otl_s, otl_n, List.cons_append, List.nil_append, List.getElem?_cons_zero, List.getElem?_cons_succ, ↓reduceIte]
theorem y261r (R : RMx w g m kq hq ca ba wl ed wad kd hr cp br n ws th mi nd dr me di re) (hn : n ≤ 3) (hJ : gJ w g) (hm : mi ≤ 3000) (hi : i < n) (hy : ws i = (ho, po, ch, lo, ac, bu, sl, may, mp)) (hc : ch ≤ 500) (hho : ho < 36) (hmp : mpo mp) (f : Bool) {z : Int32} (hr0 : refW mi (ws i) f = true) :
    ∃ w', am_x 261 [.ref m, .int (nI i), .int z, .int (b2i f)] w = some (.inl (some (.int (nI 0))), w') ∧ RM w' g m kd hr cp br n ws 2 mi nd dr me di re ∧ stp 100 800 g g 4 144 w w' := by
  have z1 := x99 R (nI i)
  rw [nwk_f hn hi] at z1
  obtain ⟨w1, a1, R1, f1⟩ := x96 R hn false (c := 1) (by decide)
  have s1 := stp_frm (lo := 100) (hi := 800) hJ f1 (by decide) (by decide)
  have v1 := x150 (rm_L R1) hn hi
  have k1 := mk_kf (rm_get R1 hi hy)
  obtain ⟨w2, a2, e2⟩ := x258 R1 hn (stp_J s1) hm hi hy hmp hho hc f
  rw [← hy, hr0] at a2
  have R2 := rm_ext R1 hn (stp_J s1) e2
  have s2 := stp_tr s1 (stp_ext (stp_J s1) e2)
  obtain ⟨w3, a3, R3, f3⟩ := x40 R2 hn true (c := 2) (by decide)
  have s3 := stp_tr s2 (stp_frm (lo := 100) (hi := 800) (stp_J s2) f3 (by decide) (by decide))
  refine ⟨w3, ?_, ⟨_, _, _, _, _, _, _, R3⟩, stp_wk s3 (by omega) (by omega)⟩
  simp only [bk261_0, bk261_6, bk261_10, bk261_37, bk261_13, bk261_19, bk261_23, bk261_26, bk261_30, bk261_34, bk261_39, bk261_43, bk261_47, bk261_50, bk261_60, bk261_56, bk261_61, bk261_70, bk261_75, bk261_78, bk261_83, bx261, rm_kf R, z1, a1, b2i_0, not_true_eq_false, gfc R1.1, oM_0, oM_1, oM_2, oM_3, oM_4, oM_5, oM_6, oM_7, oM_8, oM_9, oM_10, oM_11, rm_lk R1, v1, k1, rm_kf R1, a2, rm_kf R2, a3, reduceCtorEq, Option.bind_some, bct_v, bct_t, otl_s, otl_n, List.cons_append, List.nil_append, List.getElem?_cons_zero, List.getElem?_cons_succ, ↓reduceIte]
theorem y261n (R : RMx w g m kq hq ca ba wl ed wad kd hr cp br n ws th mi nd dr me di re) (hn : n ≤ 3) (hJ : gJ w g) {z z2 z3 : Int32} (hz : z < nI 0 ∨ nI n ≤ z) : ∃ w', am_x 261 [.ref m, .int z, .int z2, .int z3] w = some (.inl (some (.int (nI 0))), w') ∧ RM w' g m kd hr cp br n ws 1 mi nd dr me di re ∧ stp 100 800 g g 0 0 w w' := by
  have z1 := x99 R z
  rw [nwk_t hn hz] at z1
  obtain ⟨w1, a1, R1, f1⟩ := x96 R hn true (c := 1) (by decide)
  refine ⟨w1, ?_, ⟨_, _, _, _, _, _, _, R1⟩, stp_frm hJ f1 (by decide) (by decide)⟩
  simp only [bk261_0, bk261_6, bk261_10, bk261_37, bk261_13, bk261_19, bk261_23, bk261_26, bk261_30, bk261_34, bk261_39, bk261_43, bk261_47, bk261_50, bk261_60, bk261_56, bk261_61, bk261_70, bk261_75, bk261_78, bk261_83, bx261, rm_kf R, z1, a1, b2i_0, reduceCtorEq, not_false_eq_true, Option.bind_some, bct_v, bct_t, otl_s, otl_n, List.cons_append, List.nil_append, List.getElem?_cons_zero, List.getElem?_cons_succ, ↓reduceIte]
end CF
end
section
/-! THE REFERENCE'S CALLS: forward. Mine. -/
theorem i_add0 (x : Int32) : x + nI 0 = x := Int32.add_zero x
section CG
variable {w : am_Wd} {g : Nat → Nat} {m kq hq ca ba wl ed : Nat} {wad : Nat → Nat} {kd hr : Nat → Nat} {cp br : Nat → Bool} {n : Nat} {ws : Nat → sW} {th mi nd : Nat} {dr me di re : Int32}
variable {i a ho po ch : Nat} {lo ac bu sl : Int32} {may : Nat → Bool} {mp : Nat → Nat}
theorem pre260 (R : RMx w g m kq hq ca ba wl ed wad kd hr cp br n ws th mi nd dr me di re) (hn : n ≤ 3) (hJ : gJ w g) (hm : mi ≤ 3000) (hi : i < n) (hy : ws i = (ho, po, ch, lo, ac, bu, sl, may, mp)) (hc : ch ≤ 500) (hho : ho < 36) (hmp : mpo mp) (f : Bool) :
    ∃ w', am_x 260 [.ref m, .int (nI i), .int (b2i f)] w = am_run 260 91 [some (.ref m), none, none, some (.ref (wad i)), some (.int (no (sureP may))), none, none, none, none, none] [.int (b2i (refW mi (ws i) f || barA may br))] w' ∧ RMx w' g m kq hq ca ba wl ed wad kd hr cp br n ws (if (refW mi (ws i) f || barA may br) = true then 2 else 0) mi nd dr me di re ∧ stp 100 800 g g 4 144 w w' := by
  have z1 := x99 R (nI i)
  rw [nwk_f hn hi] at z1
  obtain ⟨w1, a1, R1, f1⟩ := x96 R hn false (c := 1) (by decide)
  have s1 := stp_frm (lo := 100) (hi := 800) hJ f1 (by decide) (by decide)
  have v1 := x150 (rm_L R1) hn hi
  have h1 := rm_get R1 hi hy
  have k1 := mk_kf h1
  have z95 := x95 h1
  obtain ⟨w2, a2, e2⟩ := x258 R1 hn (stp_J s1) hm hi hy hmp hho hc f
  rw [← hy] at a2
  have R2 := rm_ext R1 hn (stp_J s1) e2
  have s2 := stp_tr s1 (stp_ext (stp_J s1) e2)
  obtain ⟨w3, a3, R3, f3⟩ := x40 R2 hn (refW mi (ws i) f || barA may br) (c := 2) (by decide)
  have s3 := stp_tr s2 (stp_frm (lo := 100) (hi := 800) (stp_J s2) f3 (by decide) (by decide))
  refine ⟨w3, ?_, R3, stp_wk s3 (by omega) (by omega)⟩
  -- to the refusal
  have fin : ∀ v, (refW mi (ws i) f || barA may br) = v → am_run 260 87 [some (.ref m), none, none, some (.ref (wad i)), some (.int (no (sureP may))), none, none, none, none, none] [.int (b2i v), .ref m] w2 = am_run 260 91 [some (.ref m), none, none, some (.ref (wad i)), some (.int (no (sureP may))), none, none, none, none, none] [.int (b2i v)] w3 := by
    intro v hv
    rw [hv] at a3
    simp only [bk260_87, rm_kf R2, a3, Option.bind_some, bct_v, bct_t, otl_s, otl_n, List.cons_append, List.nil_append, List.getElem?_cons_zero, List.getElem?_cons_succ, ↓reduceIte]
  have mid : ∀ t : Option Nat, (∀ d, t = some d → d < 36) → barA may br = (match t with | none => false | some d => br d) → am_run 260 54 [some (.ref m), none, some (.int (b2i f)), some (.ref (wad i)), some (.int (no (sureP may))), none, none, none, none, none] [.int (no t)] w1 = am_run 260 91 [some (.ref m), none, none, some (.ref (wad i)), some (.int (no (sureP may))), none, none, none, none, none] [.int (b2i (refW mi (ws i) f || barA may br))] w3 := by
    intro t ht hbt
    simp only [bk260_54, rm_kf R1, a2, bk260_63, b2i_0, Option.bind_some, bct_v, bct_t, otl_s, otl_n, List.cons_append, List.nil_append, List.getElem?_cons_zero, List.getElem?_cons_succ, ↓reduceIte]
    cases q : refW mi (ws i) f with
    | true =>
      rw [if_pos (fun x => nomatch x), bk260_82]
      exact fin true (by rw [q]; rfl)
    | false =>
      rw [if_neg (fun x => x rfl), bk260_66]
      cases t with
      | none =>
        rw [if_pos (show no none = (-1 : Int32) from rfl), bk260_86, hbt]
        exact fin false (by rw [q, hbt]; rfl)
      | some d =>
        have hd := ht d rfl
        rw [if_neg (no_hd hd)]
        have rb := ric R2.2.2.2.2.1 (i := d) rfl hd (by decide)
        have rb' : am_ri 2 w2 ba (nI d) = some (b2i (br d)) := rb
        simp only [no, bk260_72, gfc R2.1, oM_0, oM_1, oM_2, oM_3, oM_4, oM_5, oM_6, oM_7, oM_8, oM_9, oM_10, oM_11, bk260_76, rb', bk260_79, b2i_0, Option.bind_some, bct_v, bct_t, otl_s, otl_n, List.cons_append, List.nil_append, List.getElem?_cons_zero, List.getElem?_cons_succ, ↓reduceIte]
        cases y : br d with
        | true =>
          rw [if_neg (fun x => nomatch x), bk260_82, hbt]
          show _ = am_run 260 91 _ [.int (b2i (false || br d))] w3
          rw [y]
          exact fin true (by rw [q, hbt]; exact y)
        | false =>
          rw [if_pos rfl, bk260_86, hbt]
          show _ = am_run 260 91 _ [.int (b2i (false || br d))] w3
          rw [y]
          exact fin false (by rw [q, hbt]; exact y)
  cases es : sureP may with
  | none =>
    rw [es] at z95 mid
    have z95' : am_x 95 [.ref (wad i)] w1 = some (.inl (some (.int (-1))), w1) := z95
    have mid' := mid none (fun d h => nomatch h) (by unfold barA; rw [es])
    refine Eq.trans ?_ mid'
    simp only [bx260, bk260_0, rm_kf R, z1, bk260_6, a1, bk260_10, b2i_0, bk260_15, gfc R1.1, oM_0, oM_1, oM_2, oM_3, oM_4, oM_5, oM_6, oM_7, oM_8, oM_9, oM_10, oM_11, bk260_19, rm_lk R1, v1, bk260_23, k1, bk260_26, z95', bk260_31, not_true_eq_false, bk260_39, no, Option.bind_some, bct_v, bct_t, otl_s, otl_n, List.cons_append, List.nil_append, List.getElem?_cons_zero, List.getElem?_cons_succ, ↓reduceIte]
  | some p =>
    have hp := (sure_lt es).1
    rw [es] at z95 mid
    have z95' : am_x 95 [.ref (wad i)] w1 = some (.inl (some (.int (nI p))), w1) := z95
    have y := x100 (w := w1) (c := p / 4) (s := p % 4) (by omega) (by omega)
    have mid' := mid (nb (p / 4) (p % 4)) (fun d h => nb_lt (by omega) (by omega) h) (by unfold barA; rw [es]; rfl)
    refine Eq.trans ?_ mid'
    simp only [bx260, bk260_0, rm_kf R, z1, bk260_6, a1, bk260_10, b2i_0, bk260_15, gfc R1.1, oM_0, oM_1, oM_2, oM_3, oM_4, oM_5, oM_6, oM_7, oM_8, oM_9, oM_10, oM_11, bk260_19, rm_lk R1, v1, bk260_23, k1, bk260_26, z95', bk260_31, nI_m1S (show p < 2147483648 by omega), not_false_eq_true, bk260_43, nI_divS (show p < 2147483648 by omega) (show 0 < 4 by decide) (show 4 < 2147483648 by decide), nI_remS (show p < 2147483648 by omega) (show 0 < 4 by decide) (show 4 < 2147483648 by decide), y, Option.bind_some, bct_v, bct_t, otl_s, otl_n, List.cons_append, List.nil_append, List.getElem?_cons_zero, List.getElem?_cons_succ, ↓reduceIte]
    rfl
/-- a step, or a slip -/
theorem mid260 (R : RMx w g m kq hq ca ba wl ed wad kd hr cp br n ws th mi nd dr me di re) (hn : n ≤ 3) (hJ : gJ w g) (hd : nd < 127) (hi : i < n) (hy : ws i = (ho, po, ch, lo, ac, bu, sl, may, mp)) (hp : po < 144) (b : Bool) (hb : b = false → nb (po / 4) (po % 4) ≠ none) (q : Int32) :
    ∃ w', am_run 260 118 [some (.ref m), none, none, some (.ref (wad i)), some (.int q), none, some (.int (nI (po / 4))), some (.int (nI (po % 4))), none, none] [.int (b2i b)] w = am_run 260 221 [some (.ref m), none, none, some (.ref (wad i)), some (.int q), none, none, none, some (.int (b2i b)), none] [] w' ∧ RMx w' g m kq hq ca ba wl ed wad kd hr cp br n (up ws i (ho, (if b = true then po else if slipB cp nd po = true then po else stepW po), ch, lo, ac, bu, (if b = true then sl else if slipB cp nd po = true then sl + nI 1 else sl), may, mp)) th mi (if b = true then nd else if cp (po / 4) = true then (29 * nd + 13) % 127 else nd) (if b = true then dr else if cp (po / 4) = true then dr + nI 1 else dr) me di re ∧ frm g 100 141 w w' := by
  cases b with
  | true =>
    refine ⟨w, ?_, ?_, frm_rf⟩
    · rw [bk260_118, if_pos (by rw [b2i_0]; decide)]
    · rw [if_pos rfl, if_pos rfl, if_pos rfl, if_pos rfl, up_id hy]
      exact R
  | false =>
    simp only [Bool.false_eq_true, if_false]
    have hne := hb rfl
    obtain ⟨ma0, mq0, c0, -⟩ := rm_fld R hn hi hy ho po ch lo ac bu sl
    have rc := ric R.2.2.2.1 (i := po / 4) rfl (by omega) (by decide)
    have rc' : am_ri 2 w ca (nI (po / 4)) = some (b2i (cp (po / 4))) := rc
    obtain ⟨d, ed⟩ : ∃ d, nb (po / 4) (po % 4) = some d := by
      cases e : nb (po / 4) (po % 4) with
      | none => exact absurd e hne
      | some d => exact ⟨d, rfl⟩
    have hd36 := nb_lt (show po / 4 < 36 by omega) (show po % 4 < 4 by omega) ed
    have y := fun w => x100 (w := w) (c := po / 4) (s := po % 4) (by omega) (by omega)
    rw [ed] at y
    have y' : ∀ w, am_x 100 [.int (nI (po / 4)), .int (nI (po % 4))] w = some (.inl (some (.int (nI d))), w) := y
    have es : stepW po = 4 * d + po % 4 := by
      unfold stepW
      rw [ed]
      show d * 4 + po % 4 = _
      omega
    cases e : cp (po / 4) with
    | false =>
      rw [e] at rc'
      have hs : slipB cp nd po = false := by unfold slipB; rw [e]; rfl
      rw [hs]
      simp only [Bool.false_eq_true, if_false]
      -- slips as they were, then the step
      obtain ⟨ma, mq, c1, R1, f1⟩ := rm_fld R hn hi hy ho po ch lo ac bu sl
      have p1 : am_pf w (wad i) 10 8 (.int sl) = some (am_pt w (wad i) (.inr (10, oK po ho ch ma mq lo ac bu sl))) := pfc c1 (by show 8 < 9; decide) (by decide)
      obtain ⟨ma2, mq2, c2, R2, f2⟩ := rm_fld R1 hn hi up_s ho (stepW po) ch lo ac bu sl
      have p2 : am_pf (am_pt w (wad i) (.inr (10, oK po ho ch ma mq lo ac bu sl))) (wad i) 10 0 (.int (nI (stepW po))) = some (am_pt (am_pt w (wad i) (.inr (10, oK po ho ch ma mq lo ac bu sl))) (wad i) (.inr (10, oK (stepW po) ho ch ma2 mq2 lo ac bu sl))) := pfc c2 (by show 0 < 9; decide) (by decide)
      rw [up_up] at R2
      refine ⟨_, ?_, R2, frm_tr (frm_wk f1 (by omega) (by omega)) (frm_wk f2 (by omega) (by omega))⟩
      rw [bk260_118, if_neg (by rw [b2i_0]; decide)]
      simp only [bk260_125, gfc R.1, oM_0, oM_1, oM_2, oM_3, oM_4, oM_5, oM_6, oM_7, oM_8, oM_9, oM_10, oM_11, bk260_132, rc', bk260_135, b2i_0, bk260_181, gfc c1, oK_0, oK_1, oK_2, oK_3, oK_4, oK_5, oK_6, oK_7, oK_8, bk260_186, bk260_195, bk260_196, i_add0, p1, bk260_200, nI_eqS (show 0 < 2147483648 by decide) (show 0 < 2147483648 by decide), not_true_eq_false, bk260_205, y', bk260_214, nI_mulS, nI_add, ← es, p2, Option.bind_some, bct_v, bct_t, otl_s, otl_n, List.cons_append, List.nil_append, List.getElem?_cons_zero, List.getElem?_cons_succ, ↓reduceIte]
    | true =>
      rw [e] at rc'
      have e3 : bj_irem (nI nd) (nI 3) = nI (nd % 3) := nI_remS (by omega) (by decide) (by decide)
      have e0 : (nI (nd % 3) = nI 0) = (nd % 3 = 0) := nI_eqS (by omega) (by decide)
      have ez : bj_irem (nI 29 * nI nd + nI 13) (nI 127) = nI ((29 * nd + 13) % 127) := by rw [nI_mulS, nI_add, nI_remS (by omega) (by decide) (by decide)]
      have ez2 : bj_irem (nI (29 * nd + 13)) (nI 127) = nI ((29 * nd + 13) % 127) := nI_remS (by omega) (by decide) (by decide)
      obtain ⟨Ra, fa⟩ := rm_m (th' := th) (mi' := mi) (nd' := (29 * nd + 13) % 127) (dr' := dr) (me' := me) (di' := di) (re' := re) R hn
      have pa : am_pf w m 11 2 (.int (nI ((29 * nd + 13) % 127))) = some (am_pt w m (.inr (11, oM th mi ((29 * nd + 13) % 127) dr me di re kq hq ca ba wl))) := pfc R.1 (by show 2 < 12; decide) (by decide)
      generalize am_pt w m (.inr (11, oM th mi ((29 * nd + 13) % 127) dr me di re kq hq ca ba wl)) = wa at Ra fa pa
      obtain ⟨Rb, fb⟩ := rm_m (th' := th) (mi' := mi) (nd' := (29 * nd + 13) % 127) (dr' := dr + nI 1) (me' := me) (di' := di) (re' := re) Ra hn
      have pb : am_pf wa m 11 3 (.int (dr + nI 1)) = some (am_pt wa m (.inr (11, oM th mi ((29 * nd + 13) % 127) (dr + nI 1) me di re kq hq ca ba wl))) := pfc Ra.1 (by show 3 < 12; decide) (by decide)
      generalize am_pt wa m (.inr (11, oM th mi ((29 * nd + 13) % 127) (dr + nI 1) me di re kq hq ca ba wl)) = wb at Rb fb pb
      have fab : frm g 100 141 w wb := frm_tr (frm_wk fa (by decide) (by decide)) (frm_wk fb (by decide) (by decide))
      by_cases q3 : nd % 3 = 0
      · have hs : slipB cp nd po = true := by unfold slipB; rw [e, decide_eq_true q3]; rfl
        rw [hs]
        simp only [if_true]
        obtain ⟨ma, mq, c1, R1, f1⟩ := rm_fld Rb hn hi hy ho po ch lo ac bu (sl + nI 1)
        have p1 : am_pf wb (wad i) 10 8 (.int (sl + nI 1)) = some (am_pt wb (wad i) (.inr (10, oK po ho ch ma mq lo ac bu (sl + nI 1)))) := pfc c1 (by show 8 < 9; decide) (by decide)
        refine ⟨_, ?_, R1, frm_tr fab (frm_wk f1 (by omega) (by omega))⟩
        rw [bk260_118, if_neg (by rw [b2i_0]; decide)]
        simp only [bk260_125, gfc R.1, oM_0, oM_1, oM_2, oM_3, oM_4, oM_5, oM_6, oM_7, oM_8, oM_9, oM_10, oM_11, bk260_132, rc', bk260_135, b2i_0, reduceCtorEq, bk260_138, bk260_142, e3, e0, q3, not_true_eq_false, bk260_147, bk260_152, bk260_161, ez, pa, bk260_171, gfc Ra.1, bk260_176, pb, bk260_181, gfc c1, oK_0, oK_1, oK_2, oK_3, oK_4, oK_5, oK_6, oK_7, oK_8, bk260_186, nI_eqS (show 1 < 2147483648 by decide) (show 0 < 2147483648 by decide), show ¬ 1 = 0 from by decide, bk260_191, bk260_196, p1, bk260_200, not_false_eq_true, Option.bind_some, bct_v, bct_t, otl_s, otl_n, List.cons_append, List.nil_append, List.getElem?_cons_zero, List.getElem?_cons_succ, ↓reduceIte]
      · have hs : slipB cp nd po = false := by unfold slipB; rw [e, decide_eq_false q3]; rfl
        rw [hs]
        simp only [Bool.false_eq_true, if_false, if_true]
        obtain ⟨ma, mq, c1, R1, f1⟩ := rm_fld Rb hn hi hy ho po ch lo ac bu sl
        have p1 : am_pf wb (wad i) 10 8 (.int sl) = some (am_pt wb (wad i) (.inr (10, oK po ho ch ma mq lo ac bu sl))) := pfc c1 (by show 8 < 9; decide) (by decide)
        obtain ⟨ma2, mq2, c2, R2, f2⟩ := rm_fld R1 hn hi up_s ho (stepW po) ch lo ac bu sl
        have p2 : am_pf (am_pt wb (wad i) (.inr (10, oK po ho ch ma mq lo ac bu sl))) (wad i) 10 0 (.int (nI (stepW po))) = some (am_pt (am_pt wb (wad i) (.inr (10, oK po ho ch ma mq lo ac bu sl))) (wad i) (.inr (10, oK (stepW po) ho ch ma2 mq2 lo ac bu sl))) := pfc c2 (by show 0 < 9; decide) (by decide)
        rw [up_up] at R2
        refine ⟨_, ?_, R2, frm_tr fab (frm_tr (frm_wk f1 (by omega) (by omega)) (frm_wk f2 (by omega) (by omega)))⟩
        rw [bk260_118, if_neg (by rw [b2i_0]; decide)]
        simp only [bk260_125, gfc R.1, oM_0, oM_1, oM_2, oM_3, oM_4, oM_5, oM_6, oM_7, oM_8, oM_9, oM_10, oM_11, bk260_132, rc', bk260_135, b2i_0, reduceCtorEq, bk260_138, bk260_142, e3, e0, q3, not_false_eq_true, bk260_151, bk260_152, bk260_161, ez2, pa, bk260_171, gfc Ra.1, bk260_176, pb, bk260_181, gfc c1, oK_0, oK_1, oK_2, oK_3, oK_4, oK_5, oK_6, oK_7, oK_8, bk260_186, bk260_195, bk260_196, i_add0, p1, bk260_200, nI_eqS (show 0 < 2147483648 by decide) (show 0 < 2147483648 by decide), not_true_eq_false, bk260_205, y', bk260_214, nI_mulS, nI_add, ← es, p2, Option.bind_some, bct_v, bct_t, otl_s, otl_n, List.cons_append, List.nil_append, List.getElem?_cons_zero, List.getElem?_cons_succ, ↓reduceIte]
end CG
end
section
/-! THE REFERENCE'S CALLS: forward, on. Mine. -/
section CH
variable {w : am_Wd} {g : Nat → Nat} {m kq hq ca ba wl ed : Nat} {wad : Nat → Nat} {kd hr : Nat → Nat} {cp br : Nat → Bool} {n : Nat} {ws : Nat → sW} {th mi nd : Nat} {dr me di re : Int32}
variable {i a ho po ch : Nat} {lo ac bu sl : Int32} {may : Nat → Bool} {mp : Nat → Nat}
theorem rm_lrn (R : RMx w g m kq hq ca ba wl ed wad kd hr cp br n ws th mi nd dr me di re) (hn : n ≤ 3) (hi : i < n) (hy : ws i = (ho, po, ch, lo, ac, bu, sl, may, mp)) {c s : Nat} (hc : c < 36) (hs : s < 4) (b : Bool) : ∃ w', am_x 175 [.ref (wad i), .int (nI c), .int (nI s), .int (b2i b)] w = some (.inl none, w') ∧ RMx w' g m kq hq ca ba wl ed wad kd hr cp br n (up ws i (ho, po, ch, lo, ac, bu, sl, may, putM mp c s b)) th mi nd dr me di re ∧ frm g (400 + 100 * i) (436 + 100 * i) w w' := by
  obtain ⟨w', a1, a2, a3⟩ := x175 (rm_get R hi hy) (by omega) hc hs b
  exact ⟨w', a1, rm_wk R hn hi a2 (fun b _ z2 => a3.1 b z2) (by rw [a3.2]), a3⟩
theorem tail260 (R : RMx w g m kq hq ca ba wl ed wad kd hr cp br n ws th mi nd dr me di re) (hn : n ≤ 3) (hJ : gJ w g) (hi : i < n) (hy : ws i = (ho, po, ch, lo, ac, bu, sl, may, mp)) (hmp : mpo mp) (hch : 1 ≤ ch) (b : Bool) :
    ∃ w' g', am_run 260 221 [some (.ref m), none, none, some (.ref (wad i)), some (.int (no (sureP may))), none, none, none, some (.int (b2i b)), none] [] w = some (.inl (some (.int (b2i b))), w') ∧ RMx w' g' m kq hq ca ba wl ed wad kd hr cp br n (up ws i (ho, po, ch - 1, anewL lo (mayF may (putF may mp b) b), ac + nI 1, (if b = true then bu + nI 1 else bu), sl, anewM (mayF may (putF may mp b) b), putF may mp b)) th (mi + 1) nd dr me di re ∧ stp 100 800 g g' 1 144 w w' := by
  -- the bump
  obtain ⟨ma, mq, c1, R1, f1⟩ := rm_fld R hn hi hy ho po ch lo ac (if b = true then bu + nI 1 else bu) sl
  have p1 : am_pf w (wad i) 10 7 (.int (if b = true then bu + nI 1 else bu)) = some (am_pt w (wad i) (.inr (10, oK po ho ch ma mq lo ac (if b = true then bu + nI 1 else bu) sl))) := pfc c1 (by show 7 < 9; decide) (by decide)
  generalize am_pt w (wad i) (.inr (10, oK po ho ch ma mq lo ac (if b = true then bu + nI 1 else bu) sl)) = w1 at R1 f1 p1
  have s1 := stp_frm (lo := 100) (hi := 800) hJ f1 (by omega) (by omega)
  have e1 : am_run 260 221 [some (.ref m), none, none, some (.ref (wad i)), some (.int (no (sureP may))), none, none, none, some (.int (b2i b)), none] [] w = am_run 260 240 [some (.ref m), none, none, some (.ref (wad i)), some (.int (no (sureP may))), none, none, none, some (.int (b2i b)), none] [] w1 := by
    cases b with
    | true =>
      rw [if_pos rfl] at p1
      simp only [bk260_221, gfc c1, oK_0, oK_1, oK_2, oK_3, oK_4, oK_5, oK_6, oK_7, oK_8, bk260_226, b2i_0, reduceCtorEq, bk260_231, bk260_236, p1, Option.bind_some, bct_v, bct_t, otl_s, otl_n, List.cons_append, List.nil_append, List.getElem?_cons_zero, List.getElem?_cons_succ, ↓reduceIte]
    | false =>
      rw [if_neg (by decide)] at p1
      simp only [bk260_221, gfc c1, oK_0, oK_1, oK_2, oK_3, oK_4, oK_5, oK_6, oK_7, oK_8, bk260_226, b2i_0, bk260_235, bk260_236, i_add0, p1, Option.bind_some, bct_v, bct_t, otl_s, otl_n, List.cons_append, List.nil_append, List.getElem?_cons_zero, List.getElem?_cons_succ, ↓reduceIte]
  -- what is learned
  have lr : ∃ w2, am_run 260 240 [some (.ref m), none, none, some (.ref (wad i)), some (.int (no (sureP may))), none, none, none, some (.int (b2i b)), none] [] w1 = am_run 260 260 [some (.ref m), none, none, some (.ref (wad i)), none, none, none, none, some (.int (b2i b)), none] [] w2 ∧ RMx w2 g m kq hq ca ba wl ed wad kd hr cp br n (up ws i (ho, po, ch, lo, ac, (if b = true then bu + nI 1 else bu), sl, may, putF may mp b)) th mi nd dr me di re ∧ frm g 400 736 w1 w2 := by
    unfold putF
    cases es : sureP may with
    | none =>
      refine ⟨w1, ?_, R1, frm_rf⟩
      rw [bk260_240, if_pos (show no none = (-1 : Int32) from rfl)]
    | some p =>
      have hp := (sure_lt es).1
      obtain ⟨w2, a2, R2, f2⟩ := rm_lrn R1 hn hi up_s (c := p / 4) (s := p % 4) (by omega) (by omega) b
      rw [up_up] at R2
      refine ⟨w2, ?_, R2, frm_wk f2 (by omega) (by omega)⟩
      rw [bk260_240, if_neg (show ¬ no (some p) = (-1 : Int32) by show ¬ nI p = -1; rw [nI_m1S (by omega)]; exact id)]
      simp only [no, bk260_246, nI_divS (show p < 2147483648 by omega) (show 0 < 4 by decide) (show 4 < 2147483648 by decide), nI_remS (show p < 2147483648 by omega) (show 0 < 4 by decide) (show 4 < 2147483648 by decide), a2, Option.bind_some, bct_v, bct_t, otl_s, otl_n, List.cons_append, List.nil_append, List.getElem?_cons_zero, List.getElem?_cons_succ, ↓reduceIte]
  obtain ⟨w2, e2, R2, f2⟩ := lr
  have s2 := stp_tr s1 (stp_frm (lo := 100) (hi := 800) (stp_J s1) f2 (by decide) (by decide))
  have hm2 : mpo (putF may mp b) := by
    unfold putF
    cases sureP may with
    | none => exact hmp
    | some p => exact putM_ok hmp _ _ _
  obtain ⟨F, hF, a3⟩ := x209 (stp_J s2) hm2 (rm_get R2 hi up_s) b
  obtain ⟨w4, a4, R4, s4⟩ := took R2 hn (stp_J s2) hi up_s hF
  rw [up_up] at R4
  obtain ⟨w5, a5, R5, f5⟩ := x46 R4 hn hi up_s hch
  rw [up_up] at R5
  have s5 := stp_tr (stp_tr s2 s4) (stp_frm (lo := 100) (hi := 800) (stp_J s4) f5 (by decide) (by decide))
  refine ⟨w5, _, ?_, R5, stp_wk s5 (by omega) (by omega)⟩
  rw [e1, e2]
  simp only [bk260_260, a3, bk260_267, a4, bk260_270, rm_kf R4, a5, Option.bind_some, bct_v, bct_t, otl_s, otl_n, List.cons_append, List.nil_append, List.getElem?_cons_zero, List.getElem?_cons_succ, ↓reduceIte]
  exact bk260_275 (by cases b <;> rfl)
/-- forward -/
theorem y260 (R : RMx w g m kq hq ca ba wl ed wad kd hr cp br n ws th mi nd dr me di re) (hn : n ≤ 3) (hJ : gJ w g) (hk : kdok kd) (hh : hrok hr) (hd : nd < 127) (hm : mi ≤ 3000) (hi : i < n) (hy : ws i = (ho, po, ch, lo, ac, bu, sl, may, mp)) (hp : po < 144) (hc : ch ≤ 500) (hho : ho < 36) (hmp : mpo mp) (f : Bool) (hr0 : refW mi (ws i) f = false) (hb0 : barA may br = false) :
    ∃ w' g', am_x 260 [.ref m, .int (nI i), .int (b2i f)] w = some (.inl (some (.int (b2i (bmpB kd hr mi po)))), w') ∧ RM w' g' m kd hr cp br n (up ws i (fwdY kd hr cp mi nd (ws i))) 0 (mi + 1) (if bmpB kd hr mi po = true then nd else if cp (po / 4) = true then (29 * nd + 13) % 127 else nd) (if bmpB kd hr mi po = true then dr else if cp (po / 4) = true then dr + nI 1 else dr) me di re ∧ stp 100 800 g g' 5 288 w w' := by
  have hch : 1 ≤ ch := (refW_f (hy ▸ hr0)).1
  obtain ⟨w1, e1, R1, s1⟩ := pre260 R hn hJ hm hi hy hc hho hmp f
  rw [hr0, hb0] at e1 R1
  have e1' : am_x 260 [.ref m, .int (nI i), .int (b2i f)] w = am_run 260 91 [some (.ref m), none, none, some (.ref (wad i)), some (.int (no (sureP may))), none, none, none, none, none] [.int (nI 0)] w1 := e1
  have h1 := rm_get R1 hi hy
  have z173 := x173 R1 hk hh hm (c := po / 4) (s := po % 4) (by omega) (by omega)
  have kf1 := mk_kf h1
  obtain ⟨ma, mq, c1, -⟩ := h1
  have hbn : bmpB kd hr mi po = false → nb (po / 4) (po % 4) ≠ none := fun h q => by
    unfold bmpB clsS at h
    rw [q] at h
    cases h
  obtain ⟨w2, e2, R2, f2⟩ := mid260 R1 hn (stp_J s1) hd hi hy hp (bmpB kd hr mi po) hbn (no (sureP may))
  have s2 := stp_tr s1 (stp_frm (lo := 100) (hi := 800) (stp_J s1) f2 (by decide) (by decide))
  obtain ⟨w3, g3, e3, R3, s3⟩ := tail260 R2 hn (stp_J s2) hi up_s hmp hch (bmpB kd hr mi po)
  rw [up_up] at R3
  refine ⟨w3, g3, ?_, ⟨_, _, _, _, _, _, _, by rw [hy]; exact R3⟩, stp_wk (stp_tr s2 s3) (by omega) (by omega)⟩
  rw [e1']
  refine Eq.trans ?_ (e2.trans e3)
  have z' : am_x 173 [.ref m, .int (nI (po / 4)), .int (nI (po % 4))] w1 = some (.inl (some (.int (b2i (bmpB kd hr mi po)))), w1) := z173
  simp only [bk260_91, bk260_96, kf1, x38 c1 hp, bk260_100, gfc c1, oK_0, oK_1, oK_2, oK_3, oK_4, oK_5, oK_6, oK_7, oK_8, bk260_106, rm_kf R1, nI_remS (show po < 2147483648 by omega) (show 0 < 4 by decide) (show 4 < 2147483648 by decide), z', Option.bind_some, bct_v, bct_t, otl_s, otl_n, List.cons_append, List.nil_append, List.getElem?_cons_zero, List.getElem?_cons_succ, ↓reduceIte]
theorem y260r (R : RMx w g m kq hq ca ba wl ed wad kd hr cp br n ws th mi nd dr me di re) (hn : n ≤ 3) (hJ : gJ w g) (hm : mi ≤ 3000) (hi : i < n) (hy : ws i = (ho, po, ch, lo, ac, bu, sl, may, mp)) (hc : ch ≤ 500) (hho : ho < 36) (hmp : mpo mp) (f : Bool) (h0 : refW mi (ws i) f = true ∨ barA may br = true) :
    ∃ w', am_x 260 [.ref m, .int (nI i), .int (b2i f)] w = some (.inl (some (.int (nI 0))), w') ∧ RM w' g m kd hr cp br n ws 2 mi nd dr me di re ∧ stp 100 800 g g 4 144 w w' := by
  obtain ⟨w1, e1, R1, s1⟩ := pre260 R hn hJ hm hi hy hc hho hmp f
  have ev : (refW mi (ws i) f || barA may br) = true := by rw [Bool.or_eq_true]; exact h0
  rw [ev] at e1 R1
  refine ⟨w1, ?_, ⟨_, _, _, _, _, _, _, R1⟩, s1⟩
  rw [e1, bk260_91, if_neg (by rw [b2i_0]; decide), bk260_94]
theorem y260n (R : RMx w g m kq hq ca ba wl ed wad kd hr cp br n ws th mi nd dr me di re) (hn : n ≤ 3) (hJ : gJ w g) {z z2 : Int32} (hz : z < nI 0 ∨ nI n ≤ z) : ∃ w', am_x 260 [.ref m, .int z, .int z2] w = some (.inl (some (.int (nI 0))), w') ∧ RM w' g m kd hr cp br n ws 1 mi nd dr me di re ∧ stp 100 800 g g 0 0 w w' := by
  have z1 := x99 R z
  rw [nwk_t hn hz] at z1
  obtain ⟨w1, a1, R1, f1⟩ := x96 R hn true (c := 1) (by decide)
  refine ⟨w1, ?_, ⟨_, _, _, _, _, _, _, R1⟩, stp_frm hJ f1 (by decide) (by decide)⟩
  simp only [bx260, bk260_0, rm_kf R, z1, bk260_6, a1, bk260_10, b2i_0, reduceCtorEq, bk260_13, Option.bind_some, bct_v, bct_t, otl_s, otl_n, List.cons_append, List.nil_append, List.getElem?_cons_zero, List.getElem?_cons_succ, ↓reduceIte]
end CH
end
section
/-! THE REFERENCE'S CALLS: feel, listen. Mine. -/
theorem putL_ok {may : Nat → Bool} {mp : Nat → Nat} (h : mpo mp) (t : Nat) : mpo (putL may mp t) := by
  unfold putL
  cases sureP may with
  | none => exact h
  | some p => exact putM_ok (putM_ok (putM_ok h _ _ _) _ _ _) _ _ _
theorem flt_lt (kd hr : Nat → Nat) (h c s : Nat) : fltS kd hr h c s < 8 := flt3_lt _ _ _
section CI
variable {w : am_Wd} {g : Nat → Nat} {m kq hq ca ba wl ed : Nat} {wad : Nat → Nat} {kd hr : Nat → Nat} {cp br : Nat → Bool} {n : Nat} {ws : Nat → sW} {th mi nd : Nat} {dr me di re : Int32}
variable {i a ho po ch : Nat} {lo ac bu sl : Int32} {may : Nat → Bool} {mp : Nat → Nat}
/-- what refuses an act of feel or listen -/
theorem it262 (R : RMx w g m kq hq ca ba wl ed wad kd hr cp br n ws th mi nd dr me di re) (hn : n ≤ 3) (hJ : gJ w g) (hi : i < n) (hy : ws i = (ho, po, ch, lo, ac, bu, sl, may, mp)) {t p k : Nat} (ht : t < 8) (hp : p < 144) (hk : k < 3) :
    ∃ w', am_run 262 76 [some (.ref m), none, none, some (.ref (wad i)), some (.int (nI t)), some (.int (nI p)), some (.int (nI k))] [] w = am_run 262 76 [some (.ref m), none, none, some (.ref (wad i)), some (.int (nI t)), some (.int (nI p)), some (.int (nI (k + 1)))] [] w' ∧ RMx w' g m kq hq ca ba wl ed wad kd hr cp br n (up ws i (ho, po, ch, lo, ac, bu, sl, may, putM mp (p / 4) ((p % 4 + 3 + k) % 4) (t.testBit k))) th mi nd dr me di re ∧ frm g 400 736 w w' := by
  obtain ⟨w', a1, R1, f1⟩ := rm_lrn R hn hi hy (c := p / 4) (s := (p % 4 + 3 + k) % 4) (by omega) (by omega) (t.testBit k)
  refine ⟨w', ?_, R1, frm_wk f1 (by omega) (by omega)⟩
  have es : (p + 3 + k) % 4 = (p % 4 + 3 + k) % 4 := by omega
  rw [bk262_76, if_neg (by rw [nI_leS (by decide) (by omega)]; omega), bk262_82, if_neg (by rw [nI_m1S (by omega)]; exact id), bk262_88]
  simp only [told_b2 ht hk, nI_divS (show p < 2147483648 by omega) (show 0 < 4 by decide) (show 4 < 2147483648 by decide), nI_add, nI_remS (show p + 3 + k < 2147483648 by omega) (show 0 < 4 by decide) (show 4 < 2147483648 by decide), es]
  cases e : t.testBit k with
  | true =>
    rw [e] at a1
    have a1' : am_x 175 [.ref (wad i), .int (nI (p / 4)), .int (nI ((p % 4 + 3 + k) % 4)), .int (nI 1)] w = _ := a1
    rw [if_neg (fun q => q rfl)]
    simp only [bk262_113, bk262_118, a1', bk262_121, nI_add, Option.bind_some, bct_v, bct_t, otl_s, otl_n, List.cons_append, List.nil_append, List.getElem?_cons_zero, List.getElem?_cons_succ, ↓reduceIte]
  | false =>
    rw [e] at a1
    have a1' : am_x 175 [.ref (wad i), .int (nI (p / 4)), .int (nI ((p % 4 + 3 + k) % 4)), .int (nI 0)] w = _ := a1
    rw [if_pos (fun q => nomatch q)]
    simp only [bk262_117, bk262_118, a1', bk262_121, nI_add, Option.bind_some, bct_v, bct_t, otl_s, otl_n, List.cons_append, List.nil_append, List.getElem?_cons_zero, List.getElem?_cons_succ, ↓reduceIte]
/-- feel -/
theorem y262 (R : RMx w g m kq hq ca ba wl ed wad kd hr cp br n ws th mi nd dr me di re) (hn : n ≤ 3) (hJ : gJ w g) (hk : kdok kd) (hh : hrok hr) (hm : mi ≤ 3000) (hi : i < n) (hy : ws i = (ho, po, ch, lo, ac, bu, sl, may, mp)) (hp : po < 144) (hc : ch ≤ 500) (hho : ho < 36) (hmp : mpo mp) (f : Bool) (hr0 : refW mi (ws i) f = false) :
    ∃ w' g', am_x 262 [.ref m, .int (nI i), .int (b2i f)] w = some (.inl (some (.int (nI (feltN kd hr mi po)))), w') ∧ RM w' g' m kd hr cp br n (up ws i (feelY (feltN kd hr mi po) (ws i))) 0 (mi + 1) nd dr me di re ∧ stp 100 800 g g' 5 288 w w' := by
  have hch : 1 ≤ ch := (refW_f (hy ▸ hr0)).1
  have z1 := x99 R (nI i)
  rw [nwk_f hn hi] at z1
  obtain ⟨w1, a1, R1, f1⟩ := x96 R hn false (c := 1) (by decide)
  have s1 := stp_frm (lo := 100) (hi := 800) hJ f1 (by decide) (by decide)
  have v1 := x150 (rm_L R1) hn hi
  have k1 := mk_kf (rm_get R1 hi hy)
  obtain ⟨w2, a2, e2⟩ := x258 R1 hn (stp_J s1) hm hi hy hmp hho hc f
  rw [← hy, hr0] at a2
  have R2 := rm_ext R1 hn (stp_J s1) e2
  have s2 := stp_tr s1 (stp_ext (stp_J s1) e2)
  obtain ⟨w3, a3, R3, f3⟩ := x40 R2 hn false (c := 2) (by decide)
  have s3 := stp_tr s2 (stp_frm (lo := 100) (hi := 800) (stp_J s2) f3 (by decide) (by decide))
  have v3 := x150 (rm_L R3) hn hi
  have h3 := rm_get R3 hi hy
  have k3 := mk_kf h3
  have z95 := x95 h3
  have z210 := x210 R3 hk hh hm (c := po / 4) (s := po % 4) (by omega) (by omega)
  have z210' : am_x 210 [.ref m, .int (nI (po / 4)), .int (nI (po % 4))] w3 = some (.inl (some (.int (nI (feltN kd hr mi po)))), w3) := z210
  obtain ⟨ma, mq, c3, -⟩ := h3
  have ht : feltN kd hr mi po < 8 := flt_lt ..
  generalize feltN kd hr mi po = t at z210' ht
  -- what is learned
  have lr : ∃ w4, am_run 262 76 [some (.ref m), none, none, some (.ref (wad i)), some (.int (nI t)), some (.int (no (sureP may))), some (.int (nI 0))] [] w3 = am_run 262 127 [some (.ref m), none, none, some (.ref (wad i)), some (.int (nI t)), none, none] [] w4 ∧ RMx w4 g m kq hq ca ba wl ed wad kd hr cp br n (up ws i (ho, po, ch, lo, ac, bu, sl, may, putL may mp t)) 0 mi nd dr me di re ∧ frm g 400 736 w3 w4 := by
    unfold putL
    cases es : sureP may with
    | none =>
      refine ⟨w3, ?_, by rw [up_id hy]; exact R3, frm_rf⟩
      rw [bk262_76, if_neg (by rw [nI_leS (by decide) (by decide)]; decide), bk262_82, if_pos (show no none = (-1 : Int32) from rfl)]
    | some p =>
      have hp1 := (sure_lt es).1
      obtain ⟨wa, b1, Ra, fa⟩ := it262 R3 hn (stp_J s3) hi hy ht hp1 (k := 0) (by decide)
      have Ja : gJ wa g := stp_J (stp_frm (lo := 100) (hi := 800) (stp_J s3) fa (by decide) (by decide))
      obtain ⟨wb, b2, Rb, fb⟩ := it262 Ra hn Ja hi up_s ht hp1 (k := 1) (by decide)
      rw [up_up] at Rb
      have Jb : gJ wb g := stp_J (stp_frm (lo := 100) (hi := 800) Ja fb (by decide) (by decide))
      obtain ⟨wc, b3, Rc, fc⟩ := it262 Rb hn Jb hi up_s ht hp1 (k := 2) (by decide)
      rw [up_up] at Rc
      refine ⟨wc, ?_, Rc, frm_tr fa (frm_tr fb fc)⟩
      refine Eq.trans b1 (Eq.trans b2 (Eq.trans b3 ?_))
      rw [bk262_76, if_pos (by rw [nI_leS (by decide) (by decide)]; decide)]
  obtain ⟨w4, e4, R4, f4⟩ := lr
  have s4 := stp_tr s3 (stp_frm (lo := 100) (hi := 800) (stp_J s3) f4 (by decide) (by decide))
  obtain ⟨F, hF, a5⟩ := x211 (stp_J s4) (putL_ok hmp t) (rm_get R4 hi up_s) ht
  obtain ⟨w6, a6, R6, s6⟩ := took R4 hn (stp_J s4) hi up_s hF
  rw [up_up] at R6
  obtain ⟨w7, a7, R7, f7⟩ := x46 R6 hn hi up_s hch
  rw [up_up] at R7
  have s7 := stp_tr (stp_tr s4 s6) (stp_frm (lo := 100) (hi := 800) (stp_J s6) f7 (by decide) (by decide))
  refine ⟨w7, _, ?_, ⟨_, _, _, _, _, _, _, by rw [hy]; exact R7⟩, stp_wk s7 (by omega) (by omega)⟩
  have st : am_x 262 [.ref m, .int (nI i), .int (b2i f)] w = am_run 262 76 [some (.ref m), none, none, some (.ref (wad i)), some (.int (nI t)), some (.int (no (sureP may))), some (.int (nI 0))] [] w3 := by
    simp only [bk262_0, bk262_6, bk262_10, bk262_37, bk262_13, bk262_19, bk262_23, bk262_26, bk262_30, bk262_34, bk262_39, bk262_43, bk262_47, bk262_50, bk262_56, bk262_60, bk262_65, bk262_71, bx262, rm_kf R, z1, a1, b2i_0, not_true_eq_false, gfc R1.1, gfc R3.1, oM_0, oM_1, oM_2, oM_3, oM_4, oM_5, oM_6, oM_7, oM_8, oM_9, oM_10, oM_11, rm_lk R1, rm_lk R3, v1, v3, k1, k3, rm_kf R1, a2, rm_kf R2, a3, gfc c3, oK_0, oK_1, oK_2, oK_3, oK_4, oK_5, oK_6, oK_7, oK_8, x38 c3 hp, nI_remS (show po < 2147483648 by omega) (show 0 < 4 by decide) (show 4 < 2147483648 by decide), rm_kf R3, z210', z95, Option.bind_some, bct_v, bct_t, otl_s, otl_n, List.cons_append, List.nil_append, List.getElem?_cons_zero, List.getElem?_cons_succ, ↓reduceIte]
  rw [st, e4]
  simp only [bk262_127, a5, bk262_134, a6, bk262_137, rm_kf R6, a7, bk262_142, Option.bind_some, bct_v, bct_t, otl_s, otl_n, List.cons_append, List.nil_append, List.getElem?_cons_zero, List.getElem?_cons_succ, ↓reduceIte]
theorem y262r (R : RMx w g m kq hq ca ba wl ed wad kd hr cp br n ws th mi nd dr me di re) (hn : n ≤ 3) (hJ : gJ w g) (hm : mi ≤ 3000) (hi : i < n) (hy : ws i = (ho, po, ch, lo, ac, bu, sl, may, mp)) (hc : ch ≤ 500) (hho : ho < 36) (hmp : mpo mp) (f : Bool) (hr0 : refW mi (ws i) f = true) :
    ∃ w', am_x 262 [.ref m, .int (nI i), .int (b2i f)] w = some (.inl (some (.int (nI 0))), w') ∧ RM w' g m kd hr cp br n ws 2 mi nd dr me di re ∧ stp 100 800 g g 4 144 w w' := by
  have z1 := x99 R (nI i)
  rw [nwk_f hn hi] at z1
  obtain ⟨w1, a1, R1, f1⟩ := x96 R hn false (c := 1) (by decide)
  have s1 := stp_frm (lo := 100) (hi := 800) hJ f1 (by decide) (by decide)
  have v1 := x150 (rm_L R1) hn hi
  have k1 := mk_kf (rm_get R1 hi hy)
  obtain ⟨w2, a2, e2⟩ := x258 R1 hn (stp_J s1) hm hi hy hmp hho hc f
  rw [← hy, hr0] at a2
  have R2 := rm_ext R1 hn (stp_J s1) e2
  have s2 := stp_tr s1 (stp_ext (stp_J s1) e2)
  obtain ⟨w3, a3, R3, f3⟩ := x40 R2 hn true (c := 2) (by decide)
  have s3 := stp_tr s2 (stp_frm (lo := 100) (hi := 800) (stp_J s2) f3 (by decide) (by decide))
  refine ⟨w3, ?_, ⟨_, _, _, _, _, _, _, R3⟩, stp_wk s3 (by omega) (by omega)⟩
  simp only [bk262_0, bk262_6, bk262_10, bk262_37, bk262_13, bk262_19, bk262_23, bk262_26, bk262_30, bk262_34, bk262_39, bk262_43, bk262_47, bk262_50, bk262_56, bk262_60, bk262_65, bk262_71, bx262, rm_kf R, z1, a1, b2i_0, not_true_eq_false, gfc R1.1, oM_0, oM_1, oM_2, oM_3, oM_4, oM_5, oM_6, oM_7, oM_8, oM_9, oM_10, oM_11, rm_lk R1, v1, k1, rm_kf R1, a2, rm_kf R2, a3, reduceCtorEq, Option.bind_some, bct_v, bct_t, otl_s, otl_n, List.cons_append, List.nil_append, List.getElem?_cons_zero, List.getElem?_cons_succ, ↓reduceIte]
theorem y262n (R : RMx w g m kq hq ca ba wl ed wad kd hr cp br n ws th mi nd dr me di re) (hn : n ≤ 3) (hJ : gJ w g) {z z2 : Int32} (hz : z < nI 0 ∨ nI n ≤ z) : ∃ w', am_x 262 [.ref m, .int z, .int z2] w = some (.inl (some (.int (nI 0))), w') ∧ RM w' g m kd hr cp br n ws 1 mi nd dr me di re ∧ stp 100 800 g g 0 0 w w' := by
  have z1 := x99 R z
  rw [nwk_t hn hz] at z1
  obtain ⟨w1, a1, R1, f1⟩ := x96 R hn true (c := 1) (by decide)
  refine ⟨w1, ?_, ⟨_, _, _, _, _, _, _, R1⟩, stp_frm hJ f1 (by decide) (by decide)⟩
  simp only [bk262_0, bk262_6, bk262_10, bk262_37, bk262_13, bk262_19, bk262_23, bk262_26, bk262_30, bk262_34, bk262_39, bk262_43, bk262_47, bk262_50, bk262_56, bk262_60, bk262_65, bk262_71, bx262, rm_kf R, z1, a1, b2i_0, reduceCtorEq, not_false_eq_true, Option.bind_some, bct_v, bct_t, otl_s, otl_n, List.cons_append, List.nil_append, List.getElem?_cons_zero, List.getElem?_cons_succ, ↓reduceIte]
end CI
end
section
/-! THE REFERENCE'S CALLS: listen. Mine. -/
theorem near_c {c d : Nat} (hc : c < 36) (hd : d < 36) : (nI 2 < bj_abs (nI c / nI 6 - nI d / nI 6) + bj_abs (bj_irem (nI c) (nI 6) - bj_irem (nI d) (nI 6))) = (near d c = false) := by
  have k : ∀ c d : Fin 36, ((nI 2 < bj_abs (nI c.val / nI 6 - nI d.val / nI 6) + bj_abs (bj_irem (nI c.val) (nI 6) - bj_irem (nI d.val) (nI 6))) ↔ near d.val c.val = false) := by decide +kernel
  exact propext (k ⟨c, hc⟩ ⟨d, hd⟩)
section CJ
variable {w : am_Wd} {g : Nat → Nat} {m kq hq ca ba wl ed : Nat} {wad : Nat → Nat} {kd hr : Nat → Nat} {cp br : Nat → Bool} {n : Nat} {ws : Nat → sW} {th mi nd : Nat} {dr me di re : Int32}
variable {i a ho po ch : Nat} {lo ac bu sl : Int32} {may : Nat → Bool} {mp : Nat → Nat}
def nrP (ws : Nat → sW) (i j : Nat) : Bool := decide (j ≠ i) && near ((ws i).2.1 / 4) ((ws j).2.1 / 4)
theorem nrN {ws : Nat → sW} {n i : Nat} (hn : n ≤ 3) : nearN ws n i = cnt n (nrP ws i) := by
  unfold nearN
  have e : ∀ j, (decide (j ≠ i ∧ j < n) && near ((ws i).2.1 / 4) ((ws j).2.1 / 4)) = (decide (j < n) && nrP ws i j) := by
    intro j
    unfold nrP
    by_cases q : j < n
    · rw [decide_eq_true q, Bool.true_and]
      by_cases y : j = i
      · rw [decide_eq_false (show ¬ (j ≠ i ∧ j < n) from fun x => x.1 y), decide_eq_false (show ¬ j ≠ i from fun x => x y)]
      · rw [decide_eq_true (show j ≠ i ∧ j < n from ⟨y, q⟩), decide_eq_true (show j ≠ i from y)]
    · rw [decide_eq_false q, decide_eq_false (fun x => q x.2)]
      rfl
  simp only [e]
  have go : ∀ k, n ≤ k → cnt k (fun j => decide (j < n) && nrP ws i j) = cnt n (nrP ws i) := by
    intro k
    induction k with
    | zero =>
      intro h
      have : n = 0 := by omega
      subst this
      rfl
    | succ k ih =>
      intro h
      by_cases y : n = k + 1
      · rw [y]
        exact cnt_cg _ fun c hc => by
          rw [decide_eq_true hc]
          rfl
      · rw [cnt_s (p := fun j => decide (j < n) && nrP ws i j) (b := false) (by show (decide (k < n) && _) = false; rw [decide_eq_false (by omega)]; rfl), ih (by omega)]
        rfl
  exact go 3 hn
theorem it263 (R : RMx w g m kq hq ca ba wl ed wad kd hr cp br n ws th mi nd dr me di re) (hn : n ≤ 3) (hJ : gJ w g) (hi : i < n) (hpp : ∀ j, j < n → (ws j).2.1 < 144) {c it k s : Nat} {l : Int32} {w1 : am_Wd} (e : ext w w1 k s) (hit : w.2.1 ≤ it) (hi2 : it < w1.2.1) (hio : cO w1 it 2 (itO c l n wl)) (hc : c < n) :
    ∃ w2, ext w w2 k s ∧ it < w2.2.1 ∧ cO w2 it 2 (itO (c + 1) (nI c) n wl) ∧ am_run 263 63 [some (.ref m), none, none, some (.ref (wad i)), some (.int (nI (cnt c (nrP ws i)))), some (.ref it), none] [] w1 = am_run 263 63 [some (.ref m), none, none, some (.ref (wad i)), some (.int (nI (cnt (c + 1) (nrP ws i)))), some (.ref it), none] [] w2 := by
  have R1 := rm_ext R hn hJ e
  have n1 : wl ≠ it := fun q => by have := lt_J hJ R.2.2.2.2.2.2.2.2.2.2.2.2 (by decide); omega
  have n2 : ed ≠ it := fun q => by
    have : ed < w.2.1 := by
      rcases R.2.2.2.2.2.1.2 with ⟨-, -, -, z⟩ | ⟨-, z⟩
      · exact lt_J hJ z (by decide)
      · exact lt_J hJ z (by decide)
    omega
  have z52 := x52 hio R1.2.2.2.2.2.1 hn (by omega)
  have z103 := x103 hio R1.2.2.2.2.2.1 hn hc n1 n2
  have e2 : ext w (am_pt w1 it (.inr (2, itO (c + 1) (nI c) n wl))) k s := ext_pt e hit
  have q2 : cO (am_pt w1 it (.inr (2, itO (c + 1) (nI c) n wl))) it 2 (itO (c + 1) (nI c) n wl) := pt_s
  have l2 : it < (am_pt w1 it (.inr (2, itO (c + 1) (nI c) n wl))).2.1 := hi2
  generalize am_pt w1 it (.inr (2, itO (c + 1) (nI c) n wl)) = w2 at z103 e2 q2 l2
  have R2 := rm_ext R hn hJ e2
  have hc2 := rm_get R2 hc (sW_eta (ws c))
  have hi3 := rm_get R2 hi (sW_eta (ws i))
  have kc := mk_kf hc2
  have ki := mk_kf hi3
  have gi := hi3
  have gc := hc2
  obtain ⟨ma, mq, c1, -, -, ga, -⟩ := hc2
  obtain ⟨ma', mq', c1', -, -, ga', -⟩ := hi3
  have zc := x38 c1 (hpp c hc)
  have zi := x38 c1' (hpp i hi)
  refine ⟨w2, e2, l2, q2, ?_⟩
  have head : am_run 263 63 [some (.ref m), none, none, some (.ref (wad i)), some (.int (nI (cnt c (nrP ws i)))), some (.ref it), none] [] w1 = am_run 263 83 [some (.ref m), none, none, some (.ref (wad i)), some (.int (nI (cnt c (nrP ws i)))), some (.ref it), none] [.ref (wad c)] w2 := by
    simp only [bk263_63, kfc hio, z52, decide_eq_true hc, bk263_70, b2i_0, reduceCtorEq, bk263_73, z103, bk263_80, kc, Option.bind_some, bct_v, bct_t, otl_s, otl_n, List.cons_append, List.nil_append, List.getElem?_cons_zero, List.getElem?_cons_succ, ↓reduceIte]
  rw [head, bk263_83]
  by_cases q : c = i
  · subst q
    rw [cnt_s (p := nrP ws c) (b := false) (by unfold nrP; rw [decide_eq_false (fun x => x rfl)]; rfl), if_pos rfl, bk263_140, bk263_141, nI_add]
    rfl
  · have ne : ¬ wad c = wad i := fun x => by rw [x] at ga; omega
    have hp1 := hpp c hc
    have hp2 := hpp i hi
    have e0 := near_c (c := (ws c).2.1 / 4) (d := (ws i).2.1 / 4) (by omega) (by omega)
    rw [if_neg ne]
    simp only [bk263_93, kc, zc, bk263_98, ki, zi, bk263_105, bk263_117, bk263_124, e0, Option.bind_some, bct_v, bct_t, otl_s, otl_n, List.cons_append, List.nil_append, List.getElem?_cons_zero, List.getElem?_cons_succ, ↓reduceIte]
    cases y : near ((ws i).2.1 / 4) ((ws c).2.1 / 4) with
    | true =>
      rw [cnt_s (p := nrP ws i) (b := true) (by unfold nrP; rw [decide_eq_true (show c ≠ i from q), y]; rfl), if_neg (fun x => nomatch x), bk263_136, bk263_141, nI_add]
      rfl
    | false =>
      rw [cnt_s (p := nrP ws i) (b := false) (by unfold nrP; rw [y, Bool.and_false]), if_pos rfl, bk263_140, bk263_141, nI_add]
      rfl
/-- listen -/
theorem y263 (R : RMx w g m kq hq ca ba wl ed wad kd hr cp br n ws th mi nd dr me di re) (hn : n ≤ 3) (hJ : gJ w g) (hm : mi ≤ 3000) (hi : i < n) (hy : ws i = (ho, po, ch, lo, ac, bu, sl, may, mp)) (hpp : ∀ j, j < n → (ws j).2.1 < 144) (hc : ch ≤ 500) (hho : ho < 36) (hmp : mpo mp) (f : Bool) (hr0 : refW mi (ws i) f = false) :
    ∃ w', am_x 263 [.ref m, .int (nI i), .int (b2i f)] w = some (.inl (some (.int (nI (nearN ws n i)))), w') ∧ RM w' g m kd hr cp br n (up ws i (actY (ws i))) 0 (mi + 1) nd dr me di re ∧ stp 100 800 g g 5 148 w w' := by
  have hch : 1 ≤ ch := (refW_f (hy ▸ hr0)).1
  have z1 := x99 R (nI i)
  rw [nwk_f hn hi] at z1
  obtain ⟨w1, a1, R1, f1⟩ := x96 R hn false (c := 1) (by decide)
  have s1 := stp_frm (lo := 100) (hi := 800) hJ f1 (by decide) (by decide)
  have v1 := x150 (rm_L R1) hn hi
  have k1 := mk_kf (rm_get R1 hi hy)
  obtain ⟨w2, a2, e2⟩ := x258 R1 hn (stp_J s1) hm hi hy hmp hho hc f
  rw [← hy, hr0] at a2
  have R2 := rm_ext R1 hn (stp_J s1) e2
  have s2 := stp_tr s1 (stp_ext (stp_J s1) e2)
  obtain ⟨w3, a3, R3, f3⟩ := x40 R2 hn false (c := 2) (by decide)
  have s3 := stp_tr s2 (stp_frm (lo := 100) (hi := 800) (stp_J s2) f3 (by decide) (by decide))
  have hJ3 := stp_J s3
  have v3 := x150 (rm_L R3) hn hi
  have k3 := mk_kf (rm_get R3 hi hy)
  obtain ⟨w4, a4, e4, l4, c4⟩ := x105 (rm_L R3) (lt_J hJ3 R3.2.2.2.2.2.2.2.2.2.2.2.2 (by decide))
  have go : ∀ c, c ≤ n → ∃ w5 l, ext w3 w5 1 4 ∧ w3.2.1 < w5.2.1 ∧ cO w5 w3.2.1 2 (itO c l n wl) ∧ am_run 263 63 [some (.ref m), none, none, some (.ref (wad i)), some (.int (nI 0)), some (.ref w3.2.1), none] [] w4 = am_run 263 63 [some (.ref m), none, none, some (.ref (wad i)), some (.int (nI (cnt c (nrP ws i)))), some (.ref w3.2.1), none] [] w5 := by
    intro c
    induction c with
    | zero => exact fun _ => ⟨w4, -1, e4, l4, c4, rfl⟩
    | succ c ih =>
      intro hc
      obtain ⟨w5, l, j1, j2, j3, j4⟩ := ih (by omega)
      obtain ⟨w6, i1, i2, i3, i4⟩ := it263 R3 hn hJ3 hi hpp j1 (Nat.le_refl _) j2 j3 (by omega)
      exact ⟨w6, nI c, i1, i2, i3, j4.trans i4⟩
  obtain ⟨w5, l, j1, j2, j3, j4⟩ := go n (Nat.le_refl n)
  have R5 := rm_ext R3 hn hJ3 j1
  have s5 := stp_tr s3 (stp_ext hJ3 j1)
  have z52 := x52 j3 (rm_L R5) hn (Nat.le_refl n)
  obtain ⟨w6, a6, R6, f6⟩ := x46 R5 hn hi hy hch
  have s6 := stp_tr s5 (stp_frm (lo := 100) (hi := 800) (stp_J s5) f6 (by decide) (by decide))
  refine ⟨w6, ?_, ⟨_, _, _, _, _, _, _, by rw [hy]; exact R6⟩, stp_wk s6 (by omega) (by omega)⟩
  have st : am_x 263 [.ref m, .int (nI i), .int (b2i f)] w = am_run 263 63 [some (.ref m), none, none, some (.ref (wad i)), some (.int (nI 0)), some (.ref w3.2.1), none] [] w4 := by
    simp only [bk263_0, bk263_6, bk263_10, bk263_37, bk263_13, bk263_19, bk263_23, bk263_26, bk263_30, bk263_34, bk263_39, bk263_43, bk263_47, bk263_50, bk263_58, bk263_61, bx263, rm_kf R, z1, a1, b2i_0, not_true_eq_false, gfc R1.1, gfc R3.1, oM_0, oM_1, oM_2, oM_3, oM_4, oM_5, oM_6, oM_7, oM_8, oM_9, oM_10, oM_11, rm_lk R1, rm_lk R3, v1, v3, k1, k3, rm_kf R1, a2, rm_kf R2, a3, a4, Option.bind_some, bct_v, bct_t, otl_s, otl_n, List.cons_append, List.nil_append, List.getElem?_cons_zero, List.getElem?_cons_succ, ↓reduceIte]
  rw [st, j4, nrN hn]
  simp only [bk263_63, kfc j3, z52, decide_eq_false (Nat.lt_irrefl n), bk263_70, b2i_0, bk263_147, rm_kf R5, a6, bk263_152, Option.bind_some, bct_v, bct_t, otl_s, otl_n, List.cons_append, List.nil_append, List.getElem?_cons_zero, List.getElem?_cons_succ, ↓reduceIte]
theorem y263r (R : RMx w g m kq hq ca ba wl ed wad kd hr cp br n ws th mi nd dr me di re) (hn : n ≤ 3) (hJ : gJ w g) (hm : mi ≤ 3000) (hi : i < n) (hy : ws i = (ho, po, ch, lo, ac, bu, sl, may, mp)) (hc : ch ≤ 500) (hho : ho < 36) (hmp : mpo mp) (f : Bool) (hr0 : refW mi (ws i) f = true) :
    ∃ w', am_x 263 [.ref m, .int (nI i), .int (b2i f)] w = some (.inl (some (.int (nI 0))), w') ∧ RM w' g m kd hr cp br n ws 2 mi nd dr me di re ∧ stp 100 800 g g 4 144 w w' := by
  have z1 := x99 R (nI i)
  rw [nwk_f hn hi] at z1
  obtain ⟨w1, a1, R1, f1⟩ := x96 R hn false (c := 1) (by decide)
  have s1 := stp_frm (lo := 100) (hi := 800) hJ f1 (by decide) (by decide)
  have v1 := x150 (rm_L R1) hn hi
  have k1 := mk_kf (rm_get R1 hi hy)
  obtain ⟨w2, a2, e2⟩ := x258 R1 hn (stp_J s1) hm hi hy hmp hho hc f
  rw [← hy, hr0] at a2
  have R2 := rm_ext R1 hn (stp_J s1) e2
  have s2 := stp_tr s1 (stp_ext (stp_J s1) e2)
  obtain ⟨w3, a3, R3, f3⟩ := x40 R2 hn true (c := 2) (by decide)
  have s3 := stp_tr s2 (stp_frm (lo := 100) (hi := 800) (stp_J s2) f3 (by decide) (by decide))
  refine ⟨w3, ?_, ⟨_, _, _, _, _, _, _, R3⟩, stp_wk s3 (by omega) (by omega)⟩
  simp only [bk263_0, bk263_6, bk263_10, bk263_37, bk263_13, bk263_19, bk263_23, bk263_26, bk263_30, bk263_34, bk263_39, bk263_43, bk263_47, bk263_50, bk263_58, bk263_61, bx263, rm_kf R, z1, a1, b2i_0, not_true_eq_false, gfc R1.1, oM_0, oM_1, oM_2, oM_3, oM_4, oM_5, oM_6, oM_7, oM_8, oM_9, oM_10, oM_11, rm_lk R1, v1, k1, rm_kf R1, a2, rm_kf R2, a3, reduceCtorEq, Option.bind_some, bct_v, bct_t, otl_s, otl_n, List.cons_append, List.nil_append, List.getElem?_cons_zero, List.getElem?_cons_succ, ↓reduceIte]
theorem y263n (R : RMx w g m kq hq ca ba wl ed wad kd hr cp br n ws th mi nd dr me di re) (hn : n ≤ 3) (hJ : gJ w g) {z z2 : Int32} (hz : z < nI 0 ∨ nI n ≤ z) : ∃ w', am_x 263 [.ref m, .int z, .int z2] w = some (.inl (some (.int (nI 0))), w') ∧ RM w' g m kd hr cp br n ws 1 mi nd dr me di re ∧ stp 100 800 g g 0 0 w w' := by
  have z1 := x99 R z
  rw [nwk_t hn hz] at z1
  obtain ⟨w1, a1, R1, f1⟩ := x96 R hn true (c := 1) (by decide)
  refine ⟨w1, ?_, ⟨_, _, _, _, _, _, _, R1⟩, stp_frm hJ f1 (by decide) (by decide)⟩
  simp only [bk263_0, bk263_6, bk263_10, bk263_37, bk263_13, bk263_19, bk263_23, bk263_26, bk263_30, bk263_34, bk263_39, bk263_43, bk263_47, bk263_50, bk263_58, bk263_61, bx263, rm_kf R, z1, a1, b2i_0, reduceCtorEq, not_false_eq_true, Option.bind_some, bct_v, bct_t, otl_s, otl_n, List.cons_append, List.nil_append, List.getElem?_cons_zero, List.getElem?_cons_succ, ↓reduceIte]
end CJ
end
section
/-! THE REFERENCE'S CALLS: meet. Mine. -/
def mnP (mp mq : Nat → Nat) (k : Nat) : Bool := !(mp k == mq k) && (mp k == 0 || mq k == 0)
def dsR (mp mq : Nat → Nat) (k : Nat) : Bool := !(mp k == mq k) && !(mp k == 0 || mq k == 0)
theorem i_add_s (x : Int32) (c : Nat) : x + nI c + nI 1 = x + nI (c + 1) := by rw [Int32.add_assoc, nI_add]
section CK
variable {w : am_Wd} {g : Nat → Nat} {m kq hq ca ba wl ed : Nat} {wad : Nat → Nat} {kd hr : Nat → Nat} {cp br : Nat → Bool} {n : Nat} {ws : Nat → sW} {th mi nd : Nat} {dr me di re : Int32}
variable {i a ho po ch : Nat} {lo ac bu sl : Int32} {may : Nat → Bool} {mp : Nat → Nat}
variable {j ho' po' ch' : Nat} {lo' ac' bu' sl' : Int32} {may' : Nat → Bool} {mp' : Nat → Nat}
theorem rm_map (R : RMx w g m kq hq ca ba wl ed wad kd hr cp br n ws th mi nd dr me di re) (hn : n ≤ 3) (hi : i < n) (hy : ws i = (ho, po, ch, lo, ac, bu, sl, may, mp)) : ∃ ma mr, cO w (wad i) 10 (oK po ho ch ma mr lo ac bu sl) ∧ Rws w g mr (400 + 100 * i) mp ∧ ∀ c j v, c < 36 → j < 2 → ∃ w', am_wi 0 w (mr + 1 + c) (nI j) (nI v) = some w' ∧ RMx w' g m kq hq ca ba wl ed wad kd hr cp br n (up ws i (ho, po, ch, lo, ac, bu, sl, may, up mp (2 * c + j) v)) th mi nd dr me di re ∧ frm g (400 + 100 * i) (436 + 100 * i) w w' := by
  obtain ⟨ma, mr, h1, h2, h3, g1, g2, g3⟩ := rm_get R hi hy
  refine ⟨ma, mr, h1, h3, fun c j v hc hj => ?_⟩
  obtain ⟨w', a1, a2, a3⟩ := h3.put (by omega) hc hj (v := v)
  refine ⟨w', a1, rm_wk R hn hi ⟨ma, mr, cO_of h1 (a3.1 _ (by omega)), h2.of (a3.1 _ (by omega)), a2, g1, g2, g3⟩ (fun b _ z2 => a3.1 b (by omega)) (by rw [a3.2]), frm_wk a3 (by omega) (by omega)⟩
theorem up_c {α : Type} {f : Nat → α} {i j : Nat} {x y : α} (h : i ≠ j) : up (up f i x) j y = up (up f j y) i x := by
  funext k
  unfold up
  by_cases e : k = j
  · subst e
    rw [if_pos rfl, if_neg (fun q => h q.symm), if_pos rfl]
  · rw [if_neg e]
    by_cases e2 : k = i
    · rw [if_pos e2, if_pos e2]
    · rw [if_neg e2, if_neg e2, if_neg e]
theorem it180 (R : RMx w g m kq hq ca ba wl ed wad kd hr cp br n ws th mi nd dr me di re) (hn : n ≤ 3) (hJ : gJ w g) (hi : i < n) (hj : j < n) (hij : i ≠ j) (hy : ws i = (ho, po, ch, lo, ac, bu, sl, may, mp)) (hz : ws j = (ho', po', ch', lo', ac', bu', sl', may', mp')) (hm : mpo mp) (hm' : mpo mp') {c q : Nat} (hc : c < 36) (hq2 : q < 2) (A : Nat) {k : Nat} (hk : k = 2 * c + q) :
    ∃ w', am_run 180 134 [some (.ref m), none, none, some (.ref (wad i)), some (.ref (wad j)), some (.int (nI A)), some (.int (nI c)), some (.int (nI q)), none, none] [] w = am_run 180 134 [some (.ref m), none, none, some (.ref (wad i)), some (.ref (wad j)), some (.int (nI (A + (if mnP mp mp' k = true then 1 else 0)))), some (.int (nI c)), some (.int (nI (q + 1))), none, none] [] w' ∧ RMx w' g m kq hq ca ba wl ed wad kd hr cp br n (up (up ws i (ho, po, ch, lo, ac, bu, sl, may, up mp k (mrg mp mp' k))) j (ho', po', ch', lo', ac', bu', sl', may', up mp' k (mrg mp' mp k))) th mi nd dr me (di + nI (if dsR mp mp' k = true then 1 else 0)) re ∧ frm g 100 736 w w' := by
  subst hk
  obtain ⟨ma, mr, c1, r1, p1⟩ := rm_map R hn hi hy
  obtain ⟨ma2, mr2, c2, r2, p2⟩ := rm_map R hn hj hz
  have a1 := r1.row hc
  have a2 := r1.at hc hq2
  have b1 := r2.row hc
  have b2 := r2.at hc hq2
  have hmk := hm (2 * c + q)
  have hmk' := hm' (2 * c + q)
  have e0 : (nI (mp (2 * c + q)) = nI (mp' (2 * c + q))) = (mp (2 * c + q) = mp' (2 * c + q)) := nI_eqS (by omega) (by omega)
  have e1 : (nI (mp (2 * c + q)) = nI 0) = (mp (2 * c + q) = 0) := nI_eqS (by omega) (by decide)
  have e2 : (nI (mp' (2 * c + q)) = nI 0) = (mp' (2 * c + q) = 0) := nI_eqS (by omega) (by decide)
  have same : mrg mp mp' (2 * c + q) = mp (2 * c + q) → mrg mp' mp (2 * c + q) = mp' (2 * c + q) → up (up ws i (ho, po, ch, lo, ac, bu, sl, may, up mp (2 * c + q) (mrg mp mp' (2 * c + q)))) j (ho', po', ch', lo', ac', bu', sl', may', up mp' (2 * c + q) (mrg mp' mp (2 * c + q))) = ws := by
    intro s1 s2
    rw [s1, s2, up_id rfl, up_id rfl, up_id hy, up_id hz]
  have head : am_run 180 134 [some (.ref m), none, none, some (.ref (wad i)), some (.ref (wad j)), some (.int (nI A)), some (.int (nI c)), some (.int (nI q)), none, none] [] w = if ¬ mp (2 * c + q) = mp' (2 * c + q) then am_run 180 175 [some (.ref m), none, none, some (.ref (wad i)), some (.ref (wad j)), some (.int (nI A)), some (.int (nI c)), some (.int (nI q)), some (.int (nI (mp (2 * c + q)))), some (.int (nI (mp' (2 * c + q))))] [] w else am_run 180 172 [some (.ref m), none, none, some (.ref (wad i)), some (.ref (wad j)), some (.int (nI A)), some (.int (nI c)), some (.int (nI q)), none, none] [] w := by
    rw [bk180_134, if_neg (by rw [nI_leS (by decide) (by omega)]; omega)]
    simp only [bk180_140, gfc c1, gfc c2, oK_0, oK_1, oK_2, oK_3, oK_4, oK_5, oK_6, oK_7, oK_8, bk180_144, a1, bk180_147, a2, bk180_150, bk180_157, b1, bk180_160, b2, bk180_163, e0, Option.bind_some, bct_v, bct_t, otl_s, otl_n, List.cons_append, List.nil_append, List.getElem?_cons_zero, List.getElem?_cons_succ, ↓reduceIte]
  rw [head]
  by_cases q0 : mp (2 * c + q) = mp' (2 * c + q)
  · have n1 : mnP mp mp' (2 * c + q) = false := by unfold mnP; rw [q0]; simp
    have n2 : dsR mp mp' (2 * c + q) = false := by unfold dsR; rw [q0]; simp
    refine ⟨w, ?_, ?_, frm_rf⟩
    · rw [if_neg (fun x => x q0), bk180_172, bk180_232, nI_add, n1]
      rfl
    · rw [same (by unfold mrg; split; exact q0.symm; rfl) (by unfold mrg; split; exact q0; rfl), n2]
      show RMx w g m kq hq ca ba wl ed wad kd hr cp br n ws th mi nd dr me (di + nI 0) re
      rw [i_add0]
      exact R
  · rw [if_pos q0]
    by_cases q1 : mp (2 * c + q) ≠ 0 ∧ mp' (2 * c + q) ≠ 0
    · obtain ⟨q1, q2⟩ := q1
      have n1 : mnP mp mp' (2 * c + q) = false := by unfold mnP; simp [q1, q2]
      have n2 : dsR mp mp' (2 * c + q) = true := by unfold dsR; simp [q0, q1, q2]
      obtain ⟨R1, f1⟩ := rm_m (th' := th) (mi' := mi) (nd' := nd) (dr' := dr) (me' := me) (di' := di + nI 1) (re' := re) R hn
      have pf : am_pf w m 11 5 (.int (di + nI 1)) = some (am_pt w m (.inr (11, oM th mi nd dr me (di + nI 1) re kq hq ca ba wl))) := pfc R.1 (by show 5 < 12; decide) (by decide)
      refine ⟨_, ?_, ?_, frm_wk f1 (by decide) (by decide)⟩
      rotate_left
      · rw [same (by unfold mrg; rw [if_neg q1]) (by unfold mrg; rw [if_neg q2]), n2]
        exact R1
      · rw [bk180_175]
        simp only [e1, q1, bk180_180, e2, q2, bk180_185, gfc R.1, oM_0, oM_1, oM_2, oM_3, oM_4, oM_5, oM_6, oM_7, oM_8, oM_9, oM_10, oM_11, bk180_190, pf, bk180_195, bk180_232, nI_add, n1, Bool.false_eq_true, Nat.add_zero, Option.bind_some, bct_v, bct_t, otl_s, otl_n, List.cons_append, List.nil_append, List.getElem?_cons_zero, List.getElem?_cons_succ, ↓reduceIte]
    · have n1 : mnP mp mp' (2 * c + q) = true := by
        unfold mnP
        have : mp (2 * c + q) = 0 ∨ mp' (2 * c + q) = 0 := by omega
        rcases this with y | y <;> simp [y, q0] <;> omega
      have n2 : dsR mp mp' (2 * c + q) = false := by
        unfold dsR
        have : mp (2 * c + q) = 0 ∨ mp' (2 * c + q) = 0 := by omega
        rcases this with y | y <;> simp [y]
      have m1 : mrg mp mp' (2 * c + q) = mp (2 * c + q) + mp' (2 * c + q) := by unfold mrg; split <;> omega
      have m2 : mrg mp' mp (2 * c + q) = mp (2 * c + q) + mp' (2 * c + q) := by unfold mrg; split <;> omega
      obtain ⟨w1, s1, R1, f1⟩ := p1 c q (mp (2 * c + q) + mp' (2 * c + q)) hc hq2
      have hz1 : up ws i (ho, po, ch, lo, ac, bu, sl, may, up mp (2 * c + q) (mp (2 * c + q) + mp' (2 * c + q))) j = (ho', po', ch', lo', ac', bu', sl', may', mp') := by rw [up_n (fun x => hij x.symm)]; exact hz
      obtain ⟨ma3, mr3, c3, r3, p3⟩ := rm_map R1 hn hj hz1
      have b3 := r3.row hc
      obtain ⟨w2, s2, R2, f2⟩ := p3 c q (mp (2 * c + q) + mp' (2 * c + q)) hc hq2
      refine ⟨w2, ?_, ?_, frm_tr (frm_wk f1 (by omega) (by omega)) (frm_wk f2 (by omega) (by omega))⟩
      rotate_left
      · rw [m1, m2, n2]
        show RMx w2 g m kq hq ca ba wl ed wad kd hr cp br n _ th mi nd dr me (di + nI 0) re
        rw [i_add0]
        exact R2
      · have to198 : am_run 180 175 [some (.ref m), none, none, some (.ref (wad i)), some (.ref (wad j)), some (.int (nI A)), some (.int (nI c)), some (.int (nI q)), some (.int (nI (mp (2 * c + q)))), some (.int (nI (mp' (2 * c + q))))] [] w = am_run 180 198 [some (.ref m), none, none, some (.ref (wad i)), some (.ref (wad j)), some (.int (nI A)), some (.int (nI c)), some (.int (nI q)), some (.int (nI (mp (2 * c + q)))), some (.int (nI (mp' (2 * c + q))))] [] w := by
          rw [bk180_175]
          by_cases y : mp (2 * c + q) = 0
          · rw [if_pos (by rw [e1]; exact y)]
          · rw [if_neg (by rw [e1]; exact y), bk180_180, if_pos (by rw [e2]; omega)]
        rw [to198]
        simp only [bk180_198, gfc c1, oK_0, oK_1, oK_2, oK_3, oK_4, oK_5, oK_6, oK_7, oK_8, bk180_202, a1, bk180_205, nI_add, s1, bk180_213, gfc c3, bk180_218, b3, bk180_221, s2, bk180_229, bk180_232, n1, Option.bind_some, bct_v, bct_t, otl_s, otl_n, List.cons_append, List.nil_append, List.getElem?_cons_zero, List.getElem?_cons_succ, ↓reduceIte]
end CK
end
section
/-! THE REFERENCE'S CALLS: meet, on. Mine. -/
theorem sure_1 {may : Nat → Bool} (h : cnt 144 may = 1) : ∃ p, sureP may = some p := by
  unfold sureP
  rw [if_pos h]
  cases e : fst1 144 may with
  | none =>
    exfalso
    have : cnt 144 may = cnt 144 (fun _ => false) := cnt_cg 144 (fun c hc => fst1_none e c hc)
    rw [this, cnt_ff] at h
    cases h
  | some p => exact ⟨p, rfl⟩
theorem sure_0 {may : Nat → Bool} (h : ¬ cnt 144 may = 1) : sureP may = none := by
  unfold sureP
  rw [if_neg h]
def mgA (mp mq : Nat → Nat) (k p : Nat) : Nat := if p < k then mrg mp mq p else mp p
theorem mgA_0 {mp mq : Nat → Nat} : mgA mp mq 0 = mp := funext fun p => if_neg (Nat.not_lt_zero p)
theorem mgA_k {mp mq : Nat → Nat} {k : Nat} : mgA mp mq k k = mp k := if_neg (Nat.lt_irrefl k)
theorem mgA_s {mp mq : Nat → Nat} {k : Nat} : up (mgA mp mq k) k (mrg mp mq k) = mgA mp mq (k + 1) := by
  funext p
  unfold up mgA
  by_cases e : p = k
  · subst e
    rw [if_pos rfl, if_pos (Nat.lt_succ_self p)]
  · rw [if_neg e]
    by_cases h : p < k
    · rw [if_pos h, if_pos (by omega)]
    · rw [if_neg h, if_neg (by omega)]
theorem mgA_ok {mp mq : Nat → Nat} {k : Nat} (h : mpo mp) (h' : mpo mq) : mpo (mgA mp mq k) := fun p => by
  unfold mgA
  split
  · exact mrg_le h h' p
  · exact h p
theorem mgA_m {mp mq : Nat → Nat} {k : Nat} : mrg (mgA mp mq k) (mgA mq mp k) k = mrg mp mq k := by
  unfold mrg
  rw [mgA_k, mgA_k]
theorem mgA_n {mp mq : Nat → Nat} {k : Nat} : mnP (mgA mp mq k) (mgA mq mp k) k = mnP mp mq k := by
  unfold mnP
  rw [mgA_k, mgA_k]
theorem mgA_d {mp mq : Nat → Nat} {k : Nat} : dsR (mgA mp mq k) (mgA mq mp k) k = dsR mp mq k := by
  unfold dsR
  rw [mgA_k, mgA_k]
theorem mgA_b {mp mq : Nat → Nat} {p : Nat} (h : p < 72) : mgA mq mp 72 p = mrg mq (mrg mp mq) p := by
  unfold mgA
  rw [if_pos h]
  unfold mrg
  by_cases e : mq p = 0
  · rw [if_pos e, if_pos e]
    split
    · rename_i h; rw [h, e]
    · rfl
  · rw [if_neg e, if_neg e]
theorem Rws.cg {w : am_Wd} {g : Nat → Nat} {q t : Nat} {kd kd' : Nat → Nat} (h : Rws w g q t kd) (e : ∀ k, k < 72 → kd k = kd' k) : Rws w g q t kd' := by
  refine ⟨h.1, fun c hc => ?_⟩
  obtain ⟨⟨f, f1, f2, f3⟩, hg⟩ := h.2 c hc
  exact ⟨⟨f, f1, by rw [f2, e _ (by omega)], by rw [f3, e _ (by omega)]⟩, hg⟩
theorem cnt_s1 {n : Nat} {p : Nat → Bool} : cnt n p + (if p n = true then 1 else 0) = cnt (n + 1) p := rfl
theorem i_add_b (x : Int32) (c : Nat) (b : Bool) : x + nI c + nI (if b = true then 1 else 0) = x + nI (c + (if b = true then 1 else 0)) := by rw [Int32.add_assoc, nI_add]
section CL
variable {w : am_Wd} {g : Nat → Nat} {m kq hq ca ba wl ed : Nat} {wad : Nat → Nat} {kd hr : Nat → Nat} {cp br : Nat → Bool} {n : Nat} {ws : Nat → sW} {th mi nd : Nat} {dr me di re : Int32}
variable {i a ho po ch : Nat} {lo ac bu sl : Int32} {may : Nat → Bool} {mp : Nat → Nat}
variable {j ho' po' ch' : Nat} {lo' ac' bu' sl' : Int32} {may' : Nat → Bool} {mp' : Nat → Nat}
theorem loop180 (R : RMx w g m kq hq ca ba wl ed wad kd hr cp br n ws th mi nd dr me di re) (hn : n ≤ 3) (hJ : gJ w g) (hi : i < n) (hj : j < n) (hij : i ≠ j) (hy : ws i = (ho, po, ch, lo, ac, bu, sl, may, mp)) (hz : ws j = (ho', po', ch', lo', ac', bu', sl', may', mp')) (hm : mpo mp) (hm' : mpo mp') : ∀ c, c ≤ 36 →
    ∃ w', am_run 180 124 [some (.ref m), none, none, some (.ref (wad i)), some (.ref (wad j)), some (.int (nI 0)), some (.int (nI 0)), none, none, none] [] w = am_run 180 124 [some (.ref m), none, none, some (.ref (wad i)), some (.ref (wad j)), some (.int (nI (cnt (2 * c) (mnP mp mp')))), some (.int (nI c)), none, none, none] [] w' ∧ RMx w' g m kq hq ca ba wl ed wad kd hr cp br n (up (up ws i (ho, po, ch, lo, ac, bu, sl, may, mgA mp mp' (2 * c))) j (ho', po', ch', lo', ac', bu', sl', may', mgA mp' mp (2 * c))) th mi nd dr me (di + nI (cnt (2 * c) (dsR mp mp'))) re ∧ frm g 100 736 w w' := by
  intro c
  induction c with
  | zero =>
    intro _
    refine ⟨w, rfl, ?_, frm_rf⟩
    show RMx w g m kq hq ca ba wl ed wad kd hr cp br n (up (up ws i (ho, po, ch, lo, ac, bu, sl, may, mgA mp mp' 0)) j (ho', po', ch', lo', ac', bu', sl', may', mgA mp' mp 0)) th mi nd dr me (di + nI 0) re
    rw [mgA_0, mgA_0, up_id hy, up_id hz, i_add0]
    exact R
  | succ c ih =>
    intro hc
    obtain ⟨w1, e1, R1, f1⟩ := ih (by omega)
    have hJ1 : gJ w1 g := stp_J (stp_frm (lo := 100) (hi := 800) hJ f1 (by decide) (by decide))
    have y1 : up (up ws i (ho, po, ch, lo, ac, bu, sl, may, mgA mp mp' (2 * c))) j (ho', po', ch', lo', ac', bu', sl', may', mgA mp' mp (2 * c)) i = (ho, po, ch, lo, ac, bu, sl, may, mgA mp mp' (2 * c)) := by rw [up_n hij, up_s]
    have z1 : up (up ws i (ho, po, ch, lo, ac, bu, sl, may, mgA mp mp' (2 * c))) j (ho', po', ch', lo', ac', bu', sl', may', mgA mp' mp (2 * c)) j = (ho', po', ch', lo', ac', bu', sl', may', mgA mp' mp (2 * c)) := up_s
    obtain ⟨w2, e2, R2, f2⟩ := it180 R1 hn hJ1 hi hj hij y1 z1 (mgA_ok hm hm') (mgA_ok hm' hm) (c := c) (q := 0) (by omega) (by decide) (cnt (2 * c) (mnP mp mp')) (k := 2 * c) rfl
    have s1 : up (up (up (up ws i (ho, po, ch, lo, ac, bu, sl, may, mgA mp mp' (2 * c))) j (ho', po', ch', lo', ac', bu', sl', may', mgA mp' mp (2 * c))) i (ho, po, ch, lo, ac, bu, sl, may, up (mgA mp mp' (2 * c)) (2 * c) (mrg (mgA mp mp' (2 * c)) (mgA mp' mp (2 * c)) (2 * c)))) j (ho', po', ch', lo', ac', bu', sl', may', up (mgA mp' mp (2 * c)) (2 * c) (mrg (mgA mp' mp (2 * c)) (mgA mp mp' (2 * c)) (2 * c))) = up (up ws i (ho, po, ch, lo, ac, bu, sl, may, mgA mp mp' (2 * c + 1))) j (ho', po', ch', lo', ac', bu', sl', may', mgA mp' mp (2 * c + 1)) := by
      rw [mgA_m, mgA_m, mgA_s, mgA_s, ← up_c hij, up_up, up_up]
    rw [s1, mgA_d, i_add_b, cnt_s1] at R2
    rw [mgA_n, cnt_s1] at e2
    have hJ2 : gJ w2 g := stp_J (stp_frm (lo := 100) (hi := 800) hJ1 f2 (by decide) (by decide))
    have y2 : up (up ws i (ho, po, ch, lo, ac, bu, sl, may, mgA mp mp' (2 * c + 1))) j (ho', po', ch', lo', ac', bu', sl', may', mgA mp' mp (2 * c + 1)) i = (ho, po, ch, lo, ac, bu, sl, may, mgA mp mp' (2 * c + 1)) := by rw [up_n hij, up_s]
    have z2 : up (up ws i (ho, po, ch, lo, ac, bu, sl, may, mgA mp mp' (2 * c + 1))) j (ho', po', ch', lo', ac', bu', sl', may', mgA mp' mp (2 * c + 1)) j = (ho', po', ch', lo', ac', bu', sl', may', mgA mp' mp (2 * c + 1)) := up_s
    obtain ⟨w3, e3, R3, f3⟩ := it180 R2 hn hJ2 hi hj hij y2 z2 (mgA_ok hm hm') (mgA_ok hm' hm) (c := c) (q := 1) (by omega) (by decide) (cnt (2 * c + 1) (mnP mp mp')) (k := 2 * c + 1) rfl
    have s2 : up (up (up (up ws i (ho, po, ch, lo, ac, bu, sl, may, mgA mp mp' (2 * c + 1))) j (ho', po', ch', lo', ac', bu', sl', may', mgA mp' mp (2 * c + 1))) i (ho, po, ch, lo, ac, bu, sl, may, up (mgA mp mp' (2 * c + 1)) (2 * c + 1) (mrg (mgA mp mp' (2 * c + 1)) (mgA mp' mp (2 * c + 1)) (2 * c + 1)))) j (ho', po', ch', lo', ac', bu', sl', may', up (mgA mp' mp (2 * c + 1)) (2 * c + 1) (mrg (mgA mp' mp (2 * c + 1)) (mgA mp mp' (2 * c + 1)) (2 * c + 1))) = up (up ws i (ho, po, ch, lo, ac, bu, sl, may, mgA mp mp' (2 * c + 1 + 1))) j (ho', po', ch', lo', ac', bu', sl', may', mgA mp' mp (2 * c + 1 + 1)) := by
      rw [mgA_m, mgA_m, mgA_s, mgA_s, ← up_c hij, up_up, up_up]
    rw [s2, mgA_d, i_add_b, cnt_s1] at R3
    rw [mgA_n, cnt_s1] at e3
    refine ⟨w3, ?_, R3, frm_tr f1 (frm_tr f2 f3)⟩
    rw [e1, bk180_124, if_neg (by rw [nI_leS (by decide) (by omega)]; omega), bk180_131]
    refine Eq.trans e2 (Eq.trans e3 ?_)
    rw [bk180_134, if_pos (by rw [nI_leS (by decide) (by decide)]; decide), bk180_238, nI_add]
    rfl
theorem rm_mp (R : RMx w g m kq hq ca ba wl ed wad kd hr cp br n ws th mi nd dr me di re) {ws' : Nat → sW} (h : ∀ i, i < n → Mkv w g i (wad i) (ws' i)) : RMx w g m kq hq ca ba wl ed wad kd hr cp br n ws' th mi nd dr me di re := by
  obtain ⟨h1, k1, k2, k3, k4, k5, k6, g1⟩ := R
  exact ⟨h1, k1, k2, k3, k4, k5, h, g1⟩
theorem mk_mp {mp2 : Nat → Nat} (h : Mkv w g i a (ho, po, ch, lo, ac, bu, sl, may, mp)) (e : ∀ k, k < 72 → mp k = mp2 k) : Mkv w g i a (ho, po, ch, lo, ac, bu, sl, may, mp2) := by
  obtain ⟨ma, mr, h1, h2, h3, g1⟩ := h
  exact ⟨ma, mr, h1, h2, h3.cg e, g1⟩
/-- before the two are looked at -/
theorem pre180 (R : RMx w g m kq hq ca ba wl ed wad kd hr cp br n ws th mi nd dr me di re) (hn : n ≤ 3) (hJ : gJ w g) (hi : i < n) (hj : j < n) (hij : i ≠ j) (hy : ws i = (ho, po, ch, lo, ac, bu, sl, may, mp)) (hz : ws j = (ho', po', ch', lo', ac', bu', sl', may', mp')) (hp : po < 144) (hp' : po' < 144) :
    ∃ w', am_x 180 [.ref m, .int (nI i), .int (nI j)] w = am_run 180 113 [some (.ref m), none, none, some (.ref (wad i)), some (.ref (wad j)), none, none, none, none, none] [.int (b2i (!decide (cnt 144 may = 1 ∧ cnt 144 may' = 1 ∧ po / 4 = po' / 4)))] w' ∧ RMx w' g m kq hq ca ba wl ed wad kd hr cp br n ws (if (!decide (cnt 144 may = 1 ∧ cnt 144 may' = 1 ∧ po / 4 = po' / 4)) = true then 3 else 0) mi nd dr me di re ∧ frm g 100 101 w w' := by
  have z1 := x99 R (nI i)
  rw [nwk_f hn hi] at z1
  have z2 := x99 R (nI j)
  rw [nwk_f hn hj] at z2
  obtain ⟨w1, a1, R1, f1⟩ := x96 R hn false (c := 1) (by decide)
  have a1' : am_x 96 [.ref m, .int (nI 0), .int (nI 1)] w = _ := a1
  obtain ⟨w2, a2, R2, f2⟩ := x40 R1 hn false (c := 2) (by decide)
  have a2' : am_x 40 [.ref m, .int (nI 0), .int (nI 2)] w1 = _ := a2
  obtain ⟨w3, a3, R3, f3⟩ := x40 R2 hn (!decide (cnt 144 may = 1 ∧ cnt 144 may' = 1 ∧ po / 4 = po' / 4)) (c := 3) (by decide)
  refine ⟨w3, ?_, R3, frm_tr f1 (frm_tr f2 f3)⟩
  have v1 := x150 (rm_L R2) hn hi
  have v2 := x150 (rm_L R2) hn hj
  have h1 := rm_get R2 hi hy
  have h2 := rm_get R2 hj hz
  have k1 := mk_kf h1
  have k2 := mk_kf h2
  have y1 := x95 h1
  have y2 := x95 h2
  obtain ⟨ma, mr, c1, -⟩ := h1
  obtain ⟨ma', mr', c2, -⟩ := h2
  have eij : (nI i = nI j) = False := by rw [nI_eqS (by omega) (by omega)]; exact eq_false hij
  have fin : ∀ v, (!decide (cnt 144 may = 1 ∧ cnt 144 may' = 1 ∧ po / 4 = po' / 4)) = v → am_run 180 109 [some (.ref m), none, none, some (.ref (wad i)), some (.ref (wad j)), none, none, none, none, none] [.int (b2i v), .ref m] w2 = am_run 180 113 [some (.ref m), none, none, some (.ref (wad i)), some (.ref (wad j)), none, none, none, none, none] [.int (b2i v)] w3 := by
    intro v hv
    rw [hv] at a3
    simp only [bk180_109, rm_kf R2, a3, Option.bind_some, bct_v, bct_t, otl_s, otl_n, List.cons_append, List.nil_append, List.getElem?_cons_zero, List.getElem?_cons_succ, ↓reduceIte]
  have head : am_x 180 [.ref m, .int (nI i), .int (nI j)] w = am_run 180 79 [some (.ref m), none, none, some (.ref (wad i)), some (.ref (wad j)), none, none, none, none, none] [.int (no (sureP may)), .ref m] w2 := by
    simp only [bx180, bk180_0, rm_kf R, z1, bk180_6, b2i_0, not_true_eq_false, bk180_9, z2, bk180_14, bk180_21, bk180_22, a1', bk180_26, bk180_29, eij, not_false_eq_true, bk180_39, bk180_40, rm_kf R1, a2', bk180_44, bk180_49, gfc R2.1, oM_0, oM_1, oM_2, oM_3, oM_4, oM_5, oM_6, oM_7, oM_8, oM_9, oM_10, oM_11, bk180_53, rm_lk R2, v1, bk180_57, k1, bk180_60, bk180_65, v2, bk180_69, k2, bk180_72, y1, Option.bind_some, bct_v, bct_t, otl_s, otl_n, List.cons_append, List.nil_append, List.getElem?_cons_zero, List.getElem?_cons_succ, ↓reduceIte]
  rw [head, bk180_79]
  by_cases s1 : cnt 144 may = 1
  · obtain ⟨p, hp1⟩ := sure_1 s1
    rw [hp1, if_neg (show ¬ no (some p) = (-1 : Int32) by show ¬ nI p = -1; rw [nI_m1S (by have := (sure_lt hp1).1; omega)]; exact id)]
    simp only [bk180_83, k2, y2, bk180_88, Option.bind_some, bct_v, bct_t, otl_s, otl_n, List.cons_append, List.nil_append, List.getElem?_cons_zero, List.getElem?_cons_succ, ↓reduceIte]
    by_cases s2 : cnt 144 may' = 1
    · obtain ⟨p', hp2⟩ := sure_1 s2
      rw [hp2, if_neg (show ¬ no (some p') = (-1 : Int32) by show ¬ nI p' = -1; rw [nI_m1S (by have := (sure_lt hp2).1; omega)]; exact id)]
      simp only [bk180_92, k1, x38 c1 hp, bk180_96, k2, x38 c2 hp', bk180_101, nI_eqS (show po / 4 < 2147483648 by omega) (show po' / 4 < 2147483648 by omega), Option.bind_some, bct_v, bct_t, otl_s, otl_n, List.cons_append, List.nil_append, List.getElem?_cons_zero, List.getElem?_cons_succ, ↓reduceIte]
      by_cases s3 : po / 4 = po' / 4
      · rw [if_pos s3, bk180_108, decide_eq_true (show cnt 144 may = 1 ∧ cnt 144 may' = 1 ∧ po / 4 = po' / 4 from ⟨s1, s2, s3⟩)]
        exact fin false (by rw [decide_eq_true (show cnt 144 may = 1 ∧ cnt 144 may' = 1 ∧ po / 4 = po' / 4 from ⟨s1, s2, s3⟩)]; rfl)
      · have e : decide (cnt 144 may = 1 ∧ cnt 144 may' = 1 ∧ po / 4 = po' / 4) = false := decide_eq_false fun x => s3 x.2.2
        rw [if_neg s3, bk180_104, e]
        exact fin true (by rw [e]; rfl)
    · have e : decide (cnt 144 may = 1 ∧ cnt 144 may' = 1 ∧ po / 4 = po' / 4) = false := decide_eq_false fun x => s2 x.2.1
      rw [sure_0 s2, if_pos (show no none = (-1 : Int32) from rfl), bk180_104, e]
      exact fin true (by rw [e]; rfl)
  · have e : decide (cnt 144 may = 1 ∧ cnt 144 may' = 1 ∧ po / 4 = po' / 4) = false := decide_eq_false fun x => s1 x.1
    rw [sure_0 s1, if_pos (show no none = (-1 : Int32) from rfl), bk180_104, e]
    exact fin true (by rw [e]; rfl)
end CL
end
section
/-! THE REFERENCE'S CALLS: meet, done; both sum alike. Mine. -/
section CM
variable {w : am_Wd} {g : Nat → Nat} {m kq hq ca ba wl ed : Nat} {wad : Nat → Nat} {kd hr : Nat → Nat} {cp br : Nat → Bool} {n : Nat} {ws : Nat → sW} {th mi nd : Nat} {dr me di re : Int32}
variable {i a ho po ch : Nat} {lo ac bu sl : Int32} {may : Nat → Bool} {mp : Nat → Nat}
variable {j ho' po' ch' : Nat} {lo' ac' bu' sl' : Int32} {may' : Nat → Bool} {mp' : Nat → Nat}
theorem y180 (R : RMx w g m kq hq ca ba wl ed wad kd hr cp br n ws th mi nd dr me di re) (hn : n ≤ 3) (hJ : gJ w g) (hi : i < n) (hj : j < n) (hij : i ≠ j) (hy : ws i = (ho, po, ch, lo, ac, bu, sl, may, mp)) (hz : ws j = (ho', po', ch', lo', ac', bu', sl', may', mp')) (hp : po < 144) (hp' : po' < 144) (hm : mpo mp) (hm' : mpo mp') (s1 : cnt 144 may = 1) (s2 : cnt 144 may' = 1) (hc : po / 4 = po' / 4) :
    ∃ w', am_x 180 [.ref m, .int (nI i), .int (nI j)] w = some (.inl (some (.int (nI (cnt 72 (mnP mp mp'))))), w') ∧ RM w' g m kd hr cp br n (up (up ws i (mapY (mrg mp mp') (ws i))) j (mapY (mrg mp' (mrg mp mp')) (ws j))) 0 mi nd dr (me + nI 1) (di + nI (cnt 72 (dsR mp mp'))) re ∧ stp 100 800 g g 0 0 w w' := by
  obtain ⟨w1, e1, R1, f1⟩ := pre180 R hn hJ hi hj hij hy hz hp hp'
  have ev : (!decide (cnt 144 may = 1 ∧ cnt 144 may' = 1 ∧ po / 4 = po' / 4)) = false := by rw [decide_eq_true (show cnt 144 may = 1 ∧ cnt 144 may' = 1 ∧ po / 4 = po' / 4 from ⟨s1, s2, hc⟩)]; rfl
  rw [ev] at e1 R1
  have hJ1 : gJ w1 g := stp_J (stp_frm (lo := 100) (hi := 800) hJ f1 (by decide) (by decide))
  obtain ⟨w2, e2, R2, f2⟩ := loop180 R1 hn hJ1 hi hj hij hy hz hm hm' 36 (Nat.le_refl 36)
  have R3 : RMx w2 g m kq hq ca ba wl ed wad kd hr cp br n (up (up ws i (mapY (mrg mp mp') (ws i))) j (mapY (mrg mp' (mrg mp mp')) (ws j))) 0 mi nd dr me (di + nI (cnt 72 (dsR mp mp'))) re := by
    refine rm_mp R2 fun k hk => ?_
    have hk2 := R2.2.2.2.2.2.2.1 k hk
    by_cases q1 : k = j
    · subst q1
      rw [up_s] at hk2
      rw [up_s, hz]
      exact mk_mp hk2 fun p hp => mgA_b hp
    · rw [up_n q1] at hk2
      rw [up_n q1]
      by_cases q2 : k = i
      · subst q2
        rw [up_s] at hk2
        rw [up_s, hy]
        exact mk_mp hk2 fun p hp => if_pos hp
      · rw [up_n q2] at hk2
        rw [up_n q2]
        exact hk2
  obtain ⟨R4, f4⟩ := rm_m (th' := 0) (mi' := mi) (nd' := nd) (dr' := dr) (me' := me + nI 1) (di' := di + nI (cnt 72 (dsR mp mp'))) (re' := re) R3 hn
  have pf : am_pf w2 m 11 4 (.int (me + nI 1)) = some (am_pt w2 m (.inr (11, oM 0 mi nd dr (me + nI 1) (di + nI (cnt 72 (dsR mp mp'))) re kq hq ca ba wl))) := pfc R3.1 (by show 4 < 12; decide) (by decide)
  refine ⟨_, ?_, ⟨_, _, _, _, _, _, _, R4⟩, stp_frm hJ (frm_tr (frm_wk f1 (show 100 ≤ 100 by decide) (show 101 ≤ 736 by decide)) (frm_tr f2 (frm_wk f4 (by decide) (by decide)))) (Nat.le_refl 100) (show 736 ≤ 800 by decide)⟩
  rw [e1, bk180_113, if_pos (by rw [b2i_0]), bk180_118]
  refine Eq.trans e2 ?_
  rw [bk180_124, if_pos (by rw [nI_leS (by decide) (by decide)]; decide)]
  simp only [bk180_244, gfc R3.1, oM_0, oM_1, oM_2, oM_3, oM_4, oM_5, oM_6, oM_7, oM_8, oM_9, oM_10, oM_11, bk180_249, pf, bk180_254, Option.bind_some, bct_v, bct_t, otl_s, otl_n, List.cons_append, List.nil_append, List.getElem?_cons_zero, List.getElem?_cons_succ, ↓reduceIte]
theorem y180m (R : RMx w g m kq hq ca ba wl ed wad kd hr cp br n ws th mi nd dr me di re) (hn : n ≤ 3) (hJ : gJ w g) (hi : i < n) (hj : j < n) (hij : i ≠ j) (hy : ws i = (ho, po, ch, lo, ac, bu, sl, may, mp)) (hz : ws j = (ho', po', ch', lo', ac', bu', sl', may', mp')) (hp : po < 144) (hp' : po' < 144) (h0 : ¬ (cnt 144 may = 1 ∧ cnt 144 may' = 1 ∧ po / 4 = po' / 4)) :
    ∃ w', am_x 180 [.ref m, .int (nI i), .int (nI j)] w = some (.inl (some (.int (nI 0))), w') ∧ RM w' g m kd hr cp br n ws 3 mi nd dr me di re ∧ stp 100 800 g g 0 0 w w' := by
  obtain ⟨w1, e1, R1, f1⟩ := pre180 R hn hJ hi hj hij hy hz hp hp'
  rw [decide_eq_false h0] at e1 R1
  refine ⟨w1, ?_, ⟨_, _, _, _, _, _, _, R1⟩, stp_frm hJ f1 (by decide) (by decide)⟩
  rw [e1, bk180_113, if_neg (by rw [b2i_0]; decide), bk180_116]
theorem y180e (R : RMx w g m kq hq ca ba wl ed wad kd hr cp br n ws th mi nd dr me di re) (hn : n ≤ 3) (hJ : gJ w g) (hi : i < n) : ∃ w', am_x 180 [.ref m, .int (nI i), .int (nI i)] w = some (.inl (some (.int (nI 0))), w') ∧ RM w' g m kd hr cp br n ws 2 mi nd dr me di re ∧ stp 100 800 g g 0 0 w w' := by
  have z1 := x99 R (nI i)
  rw [nwk_f hn hi] at z1
  obtain ⟨w1, a1, R1, f1⟩ := x96 R hn false (c := 1) (by decide)
  have a1' : am_x 96 [.ref m, .int (nI 0), .int (nI 1)] w = _ := a1
  obtain ⟨w2, a2, R2, f2⟩ := x40 R1 hn true (c := 2) (by decide)
  have a2' : am_x 40 [.ref m, .int (nI 1), .int (nI 2)] w1 = _ := a2
  refine ⟨w2, ?_, ⟨_, _, _, _, _, _, _, R2⟩, stp_frm hJ (frm_tr f1 f2) (by decide) (by decide)⟩
  simp only [bx180, bk180_0, rm_kf R, z1, bk180_6, b2i_0, not_true_eq_false, bk180_9, bk180_14, bk180_21, bk180_22, a1', bk180_26, bk180_29, bk180_35, bk180_40, rm_kf R1, a2', bk180_44, reduceCtorEq, bk180_47, Option.bind_some, bct_v, bct_t, otl_s, otl_n, List.cons_append, List.nil_append, List.getElem?_cons_zero, List.getElem?_cons_succ, ↓reduceIte]
theorem y180n (R : RMx w g m kq hq ca ba wl ed wad kd hr cp br n ws th mi nd dr me di re) (hn : n ≤ 3) (hJ : gJ w g) {z z2 : Int32} (hz : z < nI 0 ∨ nI n ≤ z) : ∃ w', am_x 180 [.ref m, .int z, .int z2] w = some (.inl (some (.int (nI 0))), w') ∧ RM w' g m kd hr cp br n ws 1 mi nd dr me di re ∧ stp 100 800 g g 0 0 w w' := by
  have z1 := x99 R z
  rw [nwk_t hn hz] at z1
  obtain ⟨w1, a1, R1, f1⟩ := x96 R hn true (c := 1) (by decide)
  have a1' : am_x 96 [.ref m, .int (nI 1), .int (nI 1)] w = _ := a1
  refine ⟨w1, ?_, ⟨_, _, _, _, _, _, _, R1⟩, stp_frm hJ f1 (by decide) (by decide)⟩
  simp only [bx180, bk180_0, rm_kf R, z1, bk180_6, b2i_0, reduceCtorEq, not_false_eq_true, bk180_17, bk180_22, a1', bk180_26, bk180_47, Option.bind_some, bct_v, bct_t, otl_s, otl_n, List.cons_append, List.nil_append, List.getElem?_cons_zero, List.getElem?_cons_succ, ↓reduceIte]
theorem y180o (R : RMx w g m kq hq ca ba wl ed wad kd hr cp br n ws th mi nd dr me di re) (hn : n ≤ 3) (hJ : gJ w g) (hi : i < n) {z2 : Int32} (hz : z2 < nI 0 ∨ nI n ≤ z2) : ∃ w', am_x 180 [.ref m, .int (nI i), .int z2] w = some (.inl (some (.int (nI 0))), w') ∧ RM w' g m kd hr cp br n ws 1 mi nd dr me di re ∧ stp 100 800 g g 0 0 w w' := by
  have z1 := x99 R (nI i)
  rw [nwk_f hn hi] at z1
  have z2' := x99 R z2
  rw [nwk_t hn hz] at z2'
  obtain ⟨w1, a1, R1, f1⟩ := x96 R hn true (c := 1) (by decide)
  have a1' : am_x 96 [.ref m, .int (nI 1), .int (nI 1)] w = _ := a1
  refine ⟨w1, ?_, ⟨_, _, _, _, _, _, _, R1⟩, stp_frm hJ f1 (by decide) (by decide)⟩
  simp only [bx180, bk180_0, rm_kf R, z1, bk180_6, b2i_0, reduceCtorEq, not_true_eq_false, not_false_eq_true, bk180_9, z2', bk180_14, bk180_17, bk180_22, a1', bk180_26, bk180_47, Option.bind_some, bct_v, bct_t, otl_s, otl_n, List.cons_append, List.nil_append, List.getElem?_cons_zero, List.getElem?_cons_succ, ↓reduceIte]
end CM
/-! the sums of a meeting -/
theorem unk_c {mp : Nat → Nat} : unkN mp = cnt 72 (fun k => wiP k && mp k == 0) := by
  unfold unkN
  show _ = cnt (2 * 36) (fun k => wiP k && mp k == 0)
  rw [cnt_2]
  refine congr (congrArg HAdd.hAdd (cnt_cg 36 fun c hc => ?_)) (cnt_cg 36 fun c hc => ?_)
  · unfold unkP
    rw [kno_1]
    cases wiP (2 * c) <;> simp
  · unfold unkP
    rw [kno_2]
    cases wiP (2 * c + 1) <;> simp
theorem cnt_f0 : cnt 72 (fun _ => false) = 0 := cnt_ff 72
theorem meet_n {mp mq : Nat → Nat} (hz : mpz mp) (hz' : mpz mq) : nI (unkN mp) - nI (unkN (mrg mp mq)) + (nI (unkN mq) - nI (unkN (mrg mq (mrg mp mq)))) = nI (cnt 72 (mnP mp mq)) := by
  have a : cnt 72 (fun k => wiP k && mp k == 0) + cnt 72 (fun _ => false) = cnt 72 (fun k => wiP k && mrg mp mq k == 0) + cnt 72 (fun k => wiP k && (mp k == 0 && !(mq k == 0))) := cnt_ad 72 fun k hk => by
    unfold mrg
    cases wiP k with
    | false => rfl
    | true =>
      by_cases e : mp k = 0
      · rw [if_pos e, e]
        by_cases e2 : mq k = 0
        · rw [e2]; rfl
        · have : (mq k == 0) = false := by simpa using e2
          rw [this]; rfl
      · rw [if_neg e]
        have : (mp k == 0) = false := by simpa using e
        rw [this]; rfl
  have b : cnt 72 (fun k => wiP k && mq k == 0) + cnt 72 (fun _ => false) = cnt 72 (fun k => wiP k && mrg mq (mrg mp mq) k == 0) + cnt 72 (fun k => wiP k && (mq k == 0 && !(mp k == 0))) := cnt_ad 72 fun k hk => by
    unfold mrg
    cases wiP k with
    | false => rfl
    | true =>
      by_cases e : mq k = 0
      · rw [if_pos e, e]
        by_cases e2 : mp k = 0
        · rw [e2]; rfl
        · rw [if_neg e2]
          have : (mp k == 0) = false := by simpa using e2
          rw [this]; rfl
      · rw [if_neg e]
        have : (mq k == 0) = false := by simpa using e
        rw [this]; rfl
  have c : cnt 72 (mnP mp mq) + cnt 72 (fun _ => false) = cnt 72 (fun k => wiP k && (mp k == 0 && !(mq k == 0))) + cnt 72 (fun k => wiP k && (mq k == 0 && !(mp k == 0))) := cnt_ad 72 fun k hk => by
    unfold mnP
    cases e : wiP k with
    | false => rw [hz k hk e, hz' k hk e]; rfl
    | true =>
      by_cases e1 : mp k = 0
      · by_cases e2 : mq k = 0
        · rw [e1, e2]; rfl
        · have h1 : (mq k == 0) = false := by simpa using e2
          have h2 : (0 == mq k) = false := by simpa using fun x => e2 x.symm
          rw [e1, h1, h2]; rfl
      · have h1 : (mp k == 0) = false := by simpa using e1
        by_cases e2 : mq k = 0
        · rw [e2, h1]; rfl
        · have h2 : (mq k == 0) = false := by simpa using e2
          rw [h1, h2]
          simp
  rw [cnt_f0] at a b c
  rw [unk_c, unk_c, unk_c, unk_c, nI_subS (by omega), nI_subS (by omega), nI_add]
  exact congrArg nI (by omega)
theorem dsp_c {mp mq : Nat → Nat} (hz : mpz mp) (hz' : mpz mq) (hm : mpo mp) (hm' : mpo mq) : dspN mp mq = cnt 72 (dsR mp mq) := by
  have a : cnt 72 (dsR mp mq) + cnt 72 (fun _ => false) = cnt 72 (fun k => wiP k && (mp k == 1 && mq k == 2)) + cnt 72 (fun k => wiP k && (mp k == 2 && mq k == 1)) := cnt_ad 72 fun k hk => by
    unfold dsR
    cases e : wiP k with
    | false => rw [hz k hk e, hz' k hk e]; rfl
    | true =>
      have h1 := hm k
      have h2 := hm' k
      rcases (show mp k = 0 ∨ mp k = 1 ∨ mp k = 2 by omega) with e1 | e1 | e1 <;> rcases (show mq k = 0 ∨ mq k = 1 ∨ mq k = 2 by omega) with e2 | e2 | e2 <;> rw [e1, e2] <;> rfl
  have b1 : cnt 72 (fun k => wiP k && (mp k == 1 && mq k == 2)) = cnt 36 (fun c => kno mp c 1 == 1 && kno mq c 1 == 2) + cnt 36 (fun c => kno mp c 2 == 1 && kno mq c 2 == 2) := by
    show cnt (2 * 36) _ = _
    rw [cnt_2]
    refine congr (congrArg HAdd.hAdd (cnt_cg 36 fun c hc => ?_)) (cnt_cg 36 fun c hc => ?_)
    · rw [kno_1, kno_1]
      cases wiP (2 * c) <;> rfl
    · rw [kno_2, kno_2]
      cases wiP (2 * c + 1) <;> rfl
  have b2 : cnt 72 (fun k => wiP k && (mp k == 2 && mq k == 1)) = cnt 36 (fun c => kno mp c 1 == 2 && kno mq c 1 == 1) + cnt 36 (fun c => kno mp c 2 == 2 && kno mq c 2 == 1) := by
    show cnt (2 * 36) _ = _
    rw [cnt_2]
    refine congr (congrArg HAdd.hAdd (cnt_cg 36 fun c hc => ?_)) (cnt_cg 36 fun c hc => ?_)
    · rw [kno_1, kno_1]
      cases wiP (2 * c) <;> rfl
    · rw [kno_2, kno_2]
      cases wiP (2 * c + 1) <;> rfl
  rw [cnt_f0] at a
  unfold dspN dspP
  omega
end
section
/-! THE REFERENCE: things made. Mine. -/
theorem rows_ok : ∀ (n k : Nat) (w : am_Wd), (∀ b, b < w.2.1 → (am_rows w k n).1 b = w.1 b) ∧ (∀ c, c < n → (am_rows w k n).1 (w.2.1 + c) = some (.inl (0, k, .inl (fun _ => 0)))) ∧ (am_rows w k n).2 = (w.2.1 + n, w.2.2.1 + k * n, w.2.2.2)
  | 0, k, w => ⟨fun _ _ => rfl, fun c h => absurd h (by omega), rfl⟩
  | n + 1, k, w => by
    obtain ⟨h1, h2, h3⟩ := rows_ok n k w
    have e1 : (am_rows w k n).2.1 = w.2.1 + n := congrArg (fun p => p.1) h3
    refine ⟨fun b hb => ?_, fun c hc => ?_, ?_⟩
    · show (am_nw (am_rows w k n) _ k).1 b = _
      rw [nw_n (by omega)]
      exact h1 b hb
    · show (am_nw (am_rows w k n) _ k).1 (w.2.1 + c) = _
      by_cases e : c = n
      · subst e
        rw [← e1]
        exact nw_s
      · rw [nw_n (by omega)]
        exact h2 c (by omega)
    · show ((am_rows w k n).2.1 + 1, (am_rows w k n).2.2.1 + k, (am_rows w k n).2.2.2) = _
      rw [h3]
      show (w.2.1 + n + 1, w.2.2.1 + k * n + k, w.2.2.2) = _
      rw [Nat.mul_succ, Nat.add_assoc, Nat.add_assoc]
/-- rows of two, made -/
def mnw (w : am_Wd) : am_Wd := am_rows (am_nw w (.inl (6, 36, .inr (.inr (.inr (.inr (fun i => if i < 36 then some (w.2.1 + 1 + i) else none)))))) 36) 2 36
theorem mn_ok (w : am_Wd) : am_mn w (nI 36) (nI 2) = some (mnw w) ∧ cQ (mnw w) w.2.1 6 36 (fun i => if i < 36 then some (w.2.1 + 1 + i) else none) ∧ (∀ c, c < 36 → cI (mnw w) (w.2.1 + 1 + c) 0 2 (fun _ => 0)) ∧ (∀ b, b < w.2.1 → (mnw w).1 b = w.1 b) ∧ (mnw w).2 = (w.2.1 + 37, w.2.2.1 + 108, w.2.2.2) := by
  obtain ⟨h1, h2, h3⟩ := rows_ok 36 2 (am_nw w (.inl (6, 36, .inr (.inr (.inr (.inr (fun i => if i < 36 then some (w.2.1 + 1 + i) else none)))))) 36)
  have e1 : (nI 36).toNatClampNeg = 36 := nI_clamp (by decide)
  have e2 : (nI 2).toNatClampNeg = 2 := nI_clamp (by decide)
  refine ⟨?_, (h1 w.2.1 (Nat.lt_succ_self _)).trans nw_s, fun c hc => h2 c hc, fun b hb => (h1 b (Nat.lt_succ_of_lt hb)).trans (nw_n (by omega)), h3⟩
  unfold am_mn
  rw [if_neg (by rw [e1, e2]; rintro (q | q | q | q) <;> first | (exact nI_pos (by decide) q) | omega), e1, e2]
  rfl
theorem mn_ext {w : am_Wd} : ext w (mnw w) 37 108 := by
  obtain ⟨-, -, -, h, e⟩ := mn_ok w
  refine ⟨h, ?_⟩
  rw [e]
  exact ⟨Nat.le_add_right _ _, Nat.le_refl _, Nat.le_add_right _ _, Nat.le_refl _, rfl⟩
theorem rws_0 {w : am_Wd} {g : Nat → Nat} {q t : Nat} (h1 : cQ w q 6 36 (fun i => if i < 36 then some (q + 1 + i) else none)) (h2 : ∀ c, c < 36 → cI w (q + 1 + c) 0 2 (fun _ => 0)) (h3 : ∀ c, c < 36 → g (q + 1 + c) = t + c) : Rws w g q t (fun _ => 0) := ⟨h1, fun c hc => ⟨⟨_, h2 c hc, rfl, rfl⟩, h3 c hc⟩⟩
/-- a list grown by one -/
theorem wks_n {wad : Nat → Nat} : (fun _ => none : Nat → Option Nat) = wks 0 wad := by
  funext i
  unfold wks
  rw [if_neg (Nat.not_lt_zero i)]
theorem x195 {w : am_Wd} {g : Nat → Nat} {wl ed n a : Nat} {wad : Nat → Nat} {fs : List Value} (L : Lst w g wl ed n wad) (hn : n < 3) (hJ : gJ w g) (gw : g wl = 105) (ha : cO w a 10 fs) (nl : a ≠ wl) (ne : a ≠ ed) (la : a < w.2.1) :
    ∃ w' ed' g', am_x 195 [.ref wl, .ref a] w = some (.inl (some (.int (nI 1))), w') ∧ Lst w' g' wl ed' (n + 1) (up wad n a) ∧ stp 105 107 g g' 1 10 w w' := by
  obtain ⟨h1, h2⟩ := L
  have p1 : am_pf w wl 3 0 (.int (nI (n + 1))) = some (am_pt w wl (.inr (3, [.int (nI (n + 1)), .ref ed, .int (nI n)]))) := pfc h1 (by show 0 < 3; decide) (by decide)
  have lw : wl < w.2.1 := lt_J hJ gw (by decide)
  have c1 : cO (am_pt w wl (.inr (3, [.int (nI (n + 1)), .ref ed, .int (nI n)]))) wl 3 [.int (nI (n + 1)), .ref ed, .int (nI n)] := pt_s
  have a1 : cO (am_pt w wl (.inr (3, [.int (nI (n + 1)), .ref ed, .int (nI n)]))) a 10 fs := cO_of ha (pt_n nl)
  have f1 : frm g 105 106 w (am_pt w wl (.inr (3, [.int (nI (n + 1)), .ref ed, .int (nI n)]))) := frm_pt (by omega) (by omega)
  have st1 := stp_frm (lo := 105) (hi := 107) hJ f1 (by decide) (by decide)
  have m1 : (am_pt w wl (.inr (3, [.int (nI (n + 1)), .ref ed, .int (nI n)]))).2 = w.2 := rfl
  rcases h2 with ⟨h0, hs, hq, hg⟩ | ⟨hq, hg⟩
  · subst h0
    have nwe : wl ≠ ed := fun e => by rw [← e, gw] at hg; cases hg
    have q1 : cQ (am_pt w wl (.inr (3, [.int (nI (0 + 1)), .ref ed, .int (nI 0)]))) ed 13 0 (fun _ => none) := cQ_of hq (pt_n (fun e => nwe e.symm))
    have s1 : (am_pt w wl (.inr (3, [.int (nI (0 + 1)), .ref ed, .int (nI 0)]))).2.2.2 1 = some ed := hs
    generalize am_pt w wl (.inr (3, [.int (nI (0 + 1)), .ref ed, .int (nI 0)])) = w1 at p1 c1 a1 q1 s1 m1 st1
    have m1' : w1.2.1 = w.2.1 := by rw [m1]
    have na : am_na w1 5 (nI 10) = some (am_nw w1 (.inl (5, 10, am_in 5)) 10) := nac (by decide)
    have r2 : cQ (am_nw w1 (.inl (5, 10, am_in 5)) 10) w1.2.1 5 10 (wks 0 wad) := by
      rw [← wks_n]
      exact nw_s
    have e2 : ext w1 (am_nw w1 (.inl (5, 10, am_in 5)) 10) 1 10 := ext_nw
    have c2 : cO (am_nw w1 (.inl (5, 10, am_in 5)) 10) wl 3 [.int (nI (0 + 1)), .ref ed, .int (nI 0)] := cO_of c1 (nw_n (by omega))
    have a2 : cO (am_nw w1 (.inl (5, 10, am_in 5)) 10) a 10 fs := cO_of a1 (nw_n (by omega))
    have m2 : w1.2.1 < (am_nw w1 (.inl (5, 10, am_in 5)) 10).2.1 := Nat.lt_succ_self _
    have gw2 : up g w1.2.1 106 wl = 105 := (up_n (by omega)).trans gw
    have gr2 : up g w1.2.1 106 w1.2.1 = 106 := up_s
    generalize am_nw w1 (.inl (5, 10, am_in 5)) 10 = w2 at na r2 e2 c2 a2 m2
    have p2 : am_pf w2 wl 3 1 (.ref w1.2.1) = some (am_pt w2 wl (.inr (3, [.int (nI (0 + 1)), .ref w1.2.1, .int (nI 0)]))) := pfc c2 (by show 1 < 3; decide) (by decide)
    have c3 : cO (am_pt w2 wl (.inr (3, [.int (nI (0 + 1)), .ref w1.2.1, .int (nI 0)]))) wl 3 [.int (nI (0 + 1)), .ref w1.2.1, .int (nI 0)] := pt_s
    have r3 : cQ (am_pt w2 wl (.inr (3, [.int (nI (0 + 1)), .ref w1.2.1, .int (nI 0)]))) w1.2.1 5 10 (wks 0 wad) := cQ_of r2 (pt_n (by omega))
    have a3 : cO (am_pt w2 wl (.inr (3, [.int (nI (0 + 1)), .ref w1.2.1, .int (nI 0)]))) a 10 fs := cO_of a2 (pt_n nl)
    have f3 : frm (up g w1.2.1 106) 105 107 w2 (am_pt w2 wl (.inr (3, [.int (nI (0 + 1)), .ref w1.2.1, .int (nI 0)]))) := frm_pt (by omega) (by omega)
    generalize am_pt w2 wl (.inr (3, [.int (nI (0 + 1)), .ref w1.2.1, .int (nI 0)])) = w3 at p2 c3 r3 a3 f3
    have p4 : am_wq 5 10 w3 w1.2.1 (nI 0) a = some (am_pt w3 w1.2.1 (.inl (5, 10, .inr (.inr (.inr (.inr (va_up (wks 0 wad) 0 (some a)))))))) := wqc r3 (by decide) a3 (by decide) (by decide)
    rw [wks_up] at p4
    have c4 : cO (am_pt w3 w1.2.1 (.inl (5, 10, .inr (.inr (.inr (.inr (wks (0 + 1) (up wad 0 a)))))))) wl 3 [.int (nI (0 + 1)), .ref w1.2.1, .int (nI 0)] := cO_of c3 (pt_n (by omega))
    have r4 : cQ (am_pt w3 w1.2.1 (.inl (5, 10, .inr (.inr (.inr (.inr (wks (0 + 1) (up wad 0 a)))))))) w1.2.1 5 10 (wks (0 + 1) (up wad 0 a)) := pt_s
    have f4 : frm (up g w1.2.1 106) 105 107 w3 (am_pt w3 w1.2.1 (.inl (5, 10, .inr (.inr (.inr (.inr (wks (0 + 1) (up wad 0 a)))))))) := frm_pt (by omega) (by omega)
    generalize am_pt w3 w1.2.1 (.inl (5, 10, .inr (.inr (.inr (.inr (wks (0 + 1) (up wad 0 a))))))) = w4 at p4 c4 r4 f4
    have p5 : am_pf w4 wl 3 2 (.int (nI (0 + 1))) = some (am_pt w4 wl (.inr (3, [.int (nI (0 + 1)), .ref w1.2.1, .int (nI (0 + 1))]))) := pfc c4 (by show 2 < 3; decide) (by decide)
    have r5 : cQ (am_pt w4 wl (.inr (3, [.int (nI (0 + 1)), .ref w1.2.1, .int (nI (0 + 1))]))) w1.2.1 5 10 (wks (0 + 1) (up wad 0 a)) := cQ_of r4 (pt_n (by omega))
    have f5 : frm (up g w1.2.1 106) 105 107 w4 (am_pt w4 wl (.inr (3, [.int (nI (0 + 1)), .ref w1.2.1, .int (nI (0 + 1))]))) := frm_pt (by omega) (by omega)
    refine ⟨am_pt w4 wl (.inr (3, [.int (nI (0 + 1)), .ref w1.2.1, .int (nI (0 + 1))])), w1.2.1, up g w1.2.1 106, ?_, ⟨pt_s, Or.inr ⟨r5, gr2⟩⟩, stp_wk (stp_tr st1 (stp_new (stp_J st1) e2 (Nat.le_refl _) m2 (frm_tr f3 (frm_tr f4 f5)) (Nat.le_refl 105) (Nat.le_refl 107) (by decide) (by decide))) (by decide) (by decide)⟩
    have mx : bj_max (nI 10) (nI 1) = nI 10 := bj_maxS (by decide) (by decide)
    have l1 := lenQ q1 (by decide)
    simp only [bx195, bk195_0, gfc h1, List.getElem?_cons_zero, bk195_5, nI_add, p1, bk195_10, gfc c1, List.getElem?_cons_succ, bk195_16, bk195_20, kfc c1, bx149, bk149_0, l1, bk149_3, not_true_eq_false, bk149_6, bx104, bk104_0, bk104_5, bx55, bk55_0, bk55_4, bk55_5, nI_ltS (show 0 < 2147483648 by decide) (show 0 < 2147483648 by decide), Nat.lt_irrefl, bk55_10, bk55_14 s1, bk55_17, bk55_45, Nat.zero_add, mx, na, bk55_55, p2, bk55_59, bk104_10, bk149_10, bk149_11, p4, bk149_15, p5, bk149_22, bk195_23, Option.bind_some, bct_v, otl_s, otl_n, List.cons_append, List.nil_append, ↓reduceIte]
  · have nwe : wl ≠ ed := fun e => by rw [← e, gw] at hg; cases hg
    have q1 : cQ (am_pt w wl (.inr (3, [.int (nI (n + 1)), .ref ed, .int (nI n)]))) ed 5 10 (wks n wad) := cQ_of hq (pt_n (fun e => nwe e.symm))
    generalize am_pt w wl (.inr (3, [.int (nI (n + 1)), .ref ed, .int (nI n)])) = w1 at p1 c1 a1 q1 m1 st1
    have p4 : am_wq 5 10 w1 ed (nI n) a = some (am_pt w1 ed (.inl (5, 10, .inr (.inr (.inr (.inr (va_up (wks n wad) n (some a)))))))) := wqc q1 (by decide) a1 (by omega) (by decide)
    rw [wks_up] at p4
    have c4 : cO (am_pt w1 ed (.inl (5, 10, .inr (.inr (.inr (.inr (wks (n + 1) (up wad n a)))))))) wl 3 [.int (nI (n + 1)), .ref ed, .int (nI n)] := cO_of c1 (pt_n nwe)
    have r4 : cQ (am_pt w1 ed (.inl (5, 10, .inr (.inr (.inr (.inr (wks (n + 1) (up wad n a)))))))) ed 5 10 (wks (n + 1) (up wad n a)) := pt_s
    have f4 : frm g 105 107 w1 (am_pt w1 ed (.inl (5, 10, .inr (.inr (.inr (.inr (wks (n + 1) (up wad n a)))))))) := frm_pt (by omega) (by omega)
    generalize am_pt w1 ed (.inl (5, 10, .inr (.inr (.inr (.inr (wks (n + 1) (up wad n a))))))) = w4 at p4 c4 r4 f4
    have p5 : am_pf w4 wl 3 2 (.int (nI (n + 1))) = some (am_pt w4 wl (.inr (3, [.int (nI (n + 1)), .ref ed, .int (nI (n + 1))]))) := pfc c4 (by show 2 < 3; decide) (by decide)
    have r5 : cQ (am_pt w4 wl (.inr (3, [.int (nI (n + 1)), .ref ed, .int (nI (n + 1))]))) ed 5 10 (wks (n + 1) (up wad n a)) := cQ_of r4 (pt_n (fun e => nwe e.symm))
    have f5 : frm g 105 107 w4 (am_pt w4 wl (.inr (3, [.int (nI (n + 1)), .ref ed, .int (nI (n + 1))]))) := frm_pt (by omega) (by omega)
    refine ⟨am_pt w4 wl (.inr (3, [.int (nI (n + 1)), .ref ed, .int (nI (n + 1))])), ed, g, ?_, ⟨pt_s, Or.inr ⟨r5, hg⟩⟩, stp_wk (stp_tr st1 (stp_frm (stp_J st1) (frm_tr f4 f5) (Nat.le_refl 105) (Nat.le_refl 107))) (by decide) (by decide)⟩
    have l1 := lenQ q1 (by decide)
    simp only [bx195, bk195_0, gfc h1, List.getElem?_cons_zero, bk195_5, nI_add, p1, bk195_10, gfc c1, List.getElem?_cons_succ, bk195_16, bk195_20, kfc c1, bx149, bk149_0, l1, bk149_3, nI_eqS (show n < 2147483648 by omega) (show 10 < 2147483648 by decide), show ¬ n = 10 from by omega, not_false_eq_true, bk149_11, p4, bk149_15, p5, bk149_22, bk195_23, Option.bind_some, bct_v, otl_s, otl_n, List.cons_append, List.nil_append, ↓reduceIte]
end
section
/-! THE REFERENCE'S CALLS: walker. Mine. -/
theorem stp_new2 {lo hi lo' hi' k s : Nat} {g g' : Nat → Nat} {w w1 w2 : am_Wd} (e : ext w w1 k s) (h0 : ∀ b, b < w.2.1 → g' b = g b) (h1 : ∀ b, w.2.1 ≤ b → g' b = 0 ∨ (lo ≤ g' b ∧ g' b < hi)) (hJ : gJ w1 g') (f : frm g' lo' hi' w1 w2) (h2 : lo ≤ lo') (h3 : hi' ≤ hi) : stp lo hi g g' k s w w2 := by
  refine ⟨fun c hc hg => (f.1 c (by rw [h0 c hc]; omega)).trans (e.1 c hc), h0, h1, fun c hc => hJ c (by rw [← f.2]; exact hc), ?_⟩
  rw [f.2]
  exact e.2
/-- tags of a new walker of the reference -/
def gM (g : Nat → Nat) (a n : Nat) : Nat → Nat := fun b => if b < a then g b else if b = a then 110 + 10 * n else if b = a + 1 then 111 + 10 * n else if b = a + 2 then 112 + 10 * n else if b < a + 39 then 400 + 100 * n + (b - (a + 3)) else g b
theorem gM_lt {g : Nat → Nat} {a n b : Nat} (h : b < a) : gM g a n b = g b := if_pos h
theorem gM_a {g : Nat → Nat} {a n : Nat} : gM g a n a = 110 + 10 * n := by unfold gM; rw [if_neg (by omega), if_pos rfl]
theorem gM_1 {g : Nat → Nat} {a n : Nat} : gM g a n (a + 1) = 111 + 10 * n := by unfold gM; rw [if_neg (by omega), if_neg (by omega), if_pos rfl]
theorem gM_2 {g : Nat → Nat} {a n : Nat} : gM g a n (a + 2) = 112 + 10 * n := by unfold gM; rw [if_neg (by omega), if_neg (by omega), if_neg (by omega), if_pos rfl]
theorem gM_r {g : Nat → Nat} {a n c : Nat} (h : c < 36) : gM g a n (a + 2 + 1 + c) = 400 + 100 * n + c := by unfold gM; rw [if_neg (by omega), if_neg (by omega), if_neg (by omega), if_neg (by omega), if_pos (by omega)]; omega
theorem gM_ge {g : Nat → Nat} {a n b : Nat} (h : a + 39 ≤ b) : gM g a n b = g b := by unfold gM; rw [if_neg (by omega), if_neg (by omega), if_neg (by omega), if_neg (by omega), if_neg (by omega)]
theorem gM_in {g : Nat → Nat} {a n b : Nat} (hn : n < 3) (h : a ≤ b) (h2 : b < a + 39) : 100 ≤ gM g a n b ∧ gM g a n b < 800 := by
  unfold gM
  rw [if_neg (by omega)]
  by_cases e1 : b = a
  · rw [if_pos e1]; omega
  · rw [if_neg e1]
    by_cases e2 : b = a + 1
    · rw [if_pos e2]; omega
    · rw [if_neg e2]
      by_cases e3 : b = a + 2
      · rw [if_pos e3]; omega
      · rw [if_neg e3, if_pos h2]; omega
/-- a walker's object, as it begins -/
theorem x36 (w : am_Wd) : ∃ w', am_x 36 [.ref w.2.1] (am_nw w (.inr (10, am_df 10 9)) 9) = some (.inl none, w') ∧ ext w w' 39 261 ∧ w'.2.1 = w.2.1 + 39 ∧ cO w' w.2.1 10 (oK 0 0 0 (w.2.1 + 1) (w.2.1 + 2) (nI 0) (nI 0) (nI 0) (nI 0)) ∧ cI w' (w.2.1 + 1) 2 144 (fun _ => 0) ∧ cQ w' (w.2.1 + 2) 6 36 (fun i => if i < 36 then some (w.2.1 + 2 + 1 + i) else none) ∧ ∀ c, c < 36 → cI w' (w.2.1 + 2 + 1 + c) 0 2 (fun _ => 0) := by
  have c0 : cO (am_nw w (.inr (10, am_df 10 9)) 9) w.2.1 10 [.int (nI 0), .int (nI 0), .int (nI 0), .null, .null, .int (nI 0), .int (nI 0), .int (nI 0), .int (nI 0)] := nw_s
  have e0 : ext w (am_nw w (.inr (10, am_df 10 9)) 9) 1 9 := ext_nw
  have l0 : (am_nw w (.inr (10, am_df 10 9)) 9).2.1 = w.2.1 + 1 := rfl
  generalize am_nw w (.inr (10, am_df 10 9)) 9 = w0 at c0 e0 l0
  have na : am_na w0 2 (nI 144) = some (nwr w0 2 144 (fun _ => 0)) := na_nwr (by decide) rfl
  have e1 : ext w0 (nwr w0 2 144 (fun _ => 0)) 1 144 := nwr_ext
  have c1 : cO (nwr w0 2 144 (fun _ => 0)) w.2.1 10 _ := cO_of c0 (e1.1 _ (by omega))
  have r1 : cI (nwr w0 2 144 (fun _ => 0)) w0.2.1 2 144 (fun _ => 0) := nwr_at
  have l1 : (nwr w0 2 144 (fun _ => 0)).2.1 = w0.2.1 + 1 := rfl
  generalize nwr w0 2 144 (fun _ => 0) = w1 at na e1 c1 r1 l1
  have p2 : am_pf w1 w.2.1 10 3 (.ref w0.2.1) = some (am_pt w1 w.2.1 (.inr (10, [.int (nI 0), .int (nI 0), .int (nI 0), .ref w0.2.1, .null, .int (nI 0), .int (nI 0), .int (nI 0), .int (nI 0)]))) := pfc c1 (by show 3 < 9; decide) (by decide)
  have c2 : cO (am_pt w1 w.2.1 (.inr (10, [.int (nI 0), .int (nI 0), .int (nI 0), .ref w0.2.1, .null, .int (nI 0), .int (nI 0), .int (nI 0), .int (nI 0)]))) w.2.1 10 [.int (nI 0), .int (nI 0), .int (nI 0), .ref w0.2.1, .null, .int (nI 0), .int (nI 0), .int (nI 0), .int (nI 0)] := pt_s
  have r2 : cI (am_pt w1 w.2.1 (.inr (10, [.int (nI 0), .int (nI 0), .int (nI 0), .ref w0.2.1, .null, .int (nI 0), .int (nI 0), .int (nI 0), .int (nI 0)]))) w0.2.1 2 144 (fun _ => 0) := cI_of r1 (pt_n (by omega))
  have e2 : ext w (am_pt w1 w.2.1 (.inr (10, [.int (nI 0), .int (nI 0), .int (nI 0), .ref w0.2.1, .null, .int (nI 0), .int (nI 0), .int (nI 0), .int (nI 0)]))) 2 153 := ext_pt (ext_tr e0 e1) (Nat.le_refl _)
  have l2 : (am_pt w1 w.2.1 (.inr (10, [.int (nI 0), .int (nI 0), .int (nI 0), .ref w0.2.1, .null, .int (nI 0), .int (nI 0), .int (nI 0), .int (nI 0)]))).2.1 = w.2.1 + 2 := by show w1.2.1 = _; omega
  generalize am_pt w1 w.2.1 (.inr (10, [.int (nI 0), .int (nI 0), .int (nI 0), .ref w0.2.1, .null, .int (nI 0), .int (nI 0), .int (nI 0), .int (nI 0)])) = w2 at p2 c2 r2 e2 l2
  obtain ⟨m1, m2, m3, m4, m5⟩ := mn_ok w2
  have c3 : cO (mnw w2) w.2.1 10 _ := cO_of c2 (m4 _ (by omega))
  have r3 : cI (mnw w2) w0.2.1 2 144 (fun _ => 0) := cI_of r2 (m4 _ (by omega))
  have e3 : ext w (mnw w2) 39 261 := ext_tr e2 mn_ext
  have l3 : (mnw w2).2.1 = w.2.1 + 39 := by rw [m5]; show w2.2.1 + 37 = _; omega
  generalize mnw w2 = w3 at m1 m2 m3 m4 c3 r3 e3 l3
  have p4 : am_pf w3 w.2.1 10 4 (.ref w2.2.1) = some (am_pt w3 w.2.1 (.inr (10, oK 0 0 0 w0.2.1 w2.2.1 (nI 0) (nI 0) (nI 0) (nI 0)))) := pfc c3 (by show 4 < 9; decide) (by decide)
  refine ⟨am_pt w3 w.2.1 (.inr (10, oK 0 0 0 w0.2.1 w2.2.1 (nI 0) (nI 0) (nI 0) (nI 0))), ?_, ext_pt e3 (Nat.le_refl _), l3, ?_, ?_, ?_, fun c hc => ?_⟩
  · simp only [bx36, bk36_0, na, bk36_10, p2, bk36_13, m1, bk36_21, p4, bk36_24, Option.bind_some, bct_v, bct_t, otl_s, otl_n, List.cons_append, List.nil_append, List.getElem?_cons_zero, List.getElem?_cons_succ, ↓reduceIte]
  · rw [← l0, ← l2]
    exact pt_s
  · rw [← l0]
    exact cI_of r3 (pt_n (by omega))
  · have := cQ_of m2 (pt_n (w := w3) (a := w.2.1) (e := .inr (10, oK 0 0 0 w0.2.1 w2.2.1 (nI 0) (nI 0) (nI 0) (nI 0))) (show w2.2.1 ≠ w.2.1 by omega))
    rw [l2] at this ⊢
    exact this
  · have := cI_of (m3 c hc) (pt_n (w := w3) (a := w.2.1) (e := .inr (10, oK 0 0 0 w0.2.1 w2.2.1 (nI 0) (nI 0) (nI 0) (nI 0))) (show w2.2.1 + 1 + c ≠ w.2.1 by omega))
    rw [l2] at this ⊢
    exact this
section CN
variable {w : am_Wd} {g : Nat → Nat} {m kq hq ca ba wl ed : Nat} {wad : Nat → Nat} {kd hr : Nat → Nat} {cp br : Nat → Bool} {n : Nat} {ws : Nat → sW} {th mi nd : Nat} {dr me di re : Int32}
variable {i a ho po ch : Nat} {lo ac bu sl : Int32} {may : Nat → Bool} {mp : Nat → Nat}
/-- what is written is a new walker's -/
theorem rm_new (R : RMx w g m kq hq ca ba wl ed wad kd hr cp br n ws th mi nd dr me di re) (hn : n ≤ 3) {w' : am_Wd} (f : frm g (110 + 10 * n) (113 + 10 * n) w w') : RMx w' g m kq hq ca ba wl ed wad kd hr cp br n ws th mi nd dr me di re := by
  obtain ⟨h1, k1, k2, k3, k4, k5, k6, g1, g2, g3, g4, g5, g6⟩ := R
  have he : w'.1 ed = w.1 ed := by
    rcases k5.2 with ⟨-, -, -, e⟩ | ⟨-, e⟩ <;> exact f.1 ed (by omega)
  exact ⟨cO_of h1 (f.1 m (by omega)), k1.of (f.1 kq (by omega)) (fun b z1 z2 => f.1 b (by omega)), k2.of (f.1 hq (by omega)) (fun b z1 z2 => f.1 b (by omega)), cI_of k3 (f.1 ca (by omega)), cI_of k4 (f.1 ba (by omega)), k5.of (f.1 wl (by omega)) he (by rw [f.2]), fun i hi => (k6 i hi).of (fun b z1 z2 => f.1 b (by omega)) (fun b z1 z2 => f.1 b (by omega)), g1, g2, g3, g4, g5, g6⟩
/-- the list grown: all else stands -/
theorem rm_add {w' : am_Wd} {g' : Nat → Nat} {ed' a k s : Nat} {y : sW} (R : RMx w g m kq hq ca ba wl ed wad kd hr cp br n ws th mi nd dr me di re) (hn : n < 3) (hJ : gJ w g) (h : Mkv w g n a y) (S : stp 105 107 g g' k s w w') (L : Lst w' g' wl ed' (n + 1) (up wad n a)) : RMx w' g' m kq hq ca ba wl ed' (up wad n a) kd hr cp br (n + 1) (up ws n y) th mi nd dr me di re := by
  obtain ⟨h1, k1, k2, k3, k4, k5, k6, g1, g2, g3, g4, g5, g6⟩ := R
  have hg := stp_g hJ S
  have sm : ∀ b t, g b = t → t ≠ 0 → (t < 105 ∨ 107 ≤ t) → w'.1 b = w.1 b := fun b t e h0 h2 => S.1 b (lt_J hJ e h0) (by omega)
  have mk : ∀ i a y, Mkv w g i a y → i ≤ n → Mkv w' g' i a y := fun i a y hM hi => (hM.of (fun b z1 z2 => sm b _ rfl (by omega) (by omega)) (fun b z1 z2 => sm b _ rfl (by omega) (by omega))).g hg
  refine ⟨cO_of h1 (sm _ _ g1 (by decide) (by decide)), (k1.of (sm _ _ g2 (by decide) (by decide)) (fun b z1 z2 => sm b _ rfl (by omega) (by omega))).g (by decide) hg, (k2.of (sm _ _ g3 (by decide) (by decide)) (fun b z1 z2 => sm b _ rfl (by omega) (by omega))).g (by decide) hg, cI_of k3 (sm _ _ g4 (by decide) (by decide)), cI_of k4 (sm _ _ g5 (by decide) (by decide)), L, fun i hi => ?_, (hg _ (by omega)).trans g1, (hg _ (by omega)).trans g2, (hg _ (by omega)).trans g3, (hg _ (by omega)).trans g4, (hg _ (by omega)).trans g5, (hg _ (by omega)).trans g6⟩
  by_cases e : i = n
  · subst e
    rw [up_s, up_s]
    exact mk _ _ _ h (Nat.le_refl _)
  · rw [up_n e, up_n e]
    exact mk _ _ _ (k6 i (by omega)) (by omega)
theorem y207 (R : RMx w g m kq hq ca ba wl ed wad kd hr cp br n ws th mi nd dr me di re) (hn : n ≤ 3) (hJ : gJ w g) (hn3 : n < 3) {c f h : Nat} (hc : c ≤ 35) (hf : f ≤ 3) (h1c : 1 ≤ h) (h5 : h ≤ 500) (b : Bool) :
    ∃ w' g', am_x 207 [.ref m, .int (nI c), .int (nI f), .int (nI h), .int (b2i b)] w = some (.inl (some (.int (nI n))), w') ∧ RM w' g' m kd hr cp br (n + 1) (up ws n (c, c * 4 + f, h, nI 0, nI 0, nI 0, nI 0, may0 (c * 4 + f) b, fun _ => 0)) 0 mi nd dr me di re ∧ stp 100 800 g g' 40 271 w w' := by
  have z1 := x97 (w := w) hc
  obtain ⟨w1, a1, R1, f1⟩ := x96 R hn false (c := 1) (by decide)
  have a1' : am_x 96 [.ref m, .int (nI 0), .int (nI 1)] w = _ := a1
  have z2 := x98 (w := w1) hf
  have z3 := x39 (w := w1) (a := 1) (b := 500) (j := h) (by decide) h1c h5
  obtain ⟨w2, a2, R2, f2⟩ := x40 R1 hn false (c := 2) (by decide)
  have a2' : am_x 40 [.ref m, .int (nI 0), .int (nI 2)] w1 = _ := a2
  obtain ⟨w3, a3, R3, f3⟩ := x40 R2 hn false (c := 3) (by decide)
  have a3' : am_x 40 [.ref m, .int (nI 0), .int (nI 3)] w2 = _ := a3
  have s3 := stp_frm (lo := 100) (hi := 800) hJ (frm_tr f1 (frm_tr f2 f3)) (by decide) (by decide)
  have hJ3 := stp_J s3
  obtain ⟨w4, a4, e4, l4, c4, r4, q4, i4⟩ := x36 w3
  -- the tags
  have g0 : ∀ b, b < w3.2.1 → gM g w3.2.1 n b = g b := fun b hb => gM_lt hb
  have gJ4 : gJ w4 (gM g w3.2.1 n) := fun b hb => by rw [gM_ge (by omega)]; exact hJ3 b (by omega)
  have g1 : ∀ b, w3.2.1 ≤ b → gM g w3.2.1 n b = 0 ∨ (100 ≤ gM g w3.2.1 n b ∧ gM g w3.2.1 n b < 800) := fun b hb => by
    rcases Nat.lt_or_ge b (w3.2.1 + 39) with q | q
    · exact Or.inr (gM_in hn3 hb q)
    · rw [gM_ge q]; exact Or.inl (hJ3 b hb)
  have R4 := rm_g (rm_ext R3 hn hJ3 e4) (g' := gM g w3.2.1 n) (fun b hb => g0 b (lt_J hJ3 rfl hb))
  -- the fields
  have hr4 : Rws w4 (gM g w3.2.1 n) (w3.2.1 + 2) (400 + 100 * n) (fun _ => 0) := rws_0 q4 i4 (fun c hc => gM_r hc)
  have hm4 : mR w4 (w3.2.1 + 1) (fun _ => false) := ⟨_, r4, fun _ _ => rfl⟩
  have p5 : am_pf w4 w3.2.1 10 0 (.int (nI (4 * c + f))) = some (am_pt w4 w3.2.1 (.inr (10, oK (4 * c + f) 0 0 (w3.2.1 + 1) (w3.2.1 + 2) (nI 0) (nI 0) (nI 0) (nI 0)))) := pfc c4 (by show 0 < 9; decide) (by decide)
  have c5 : cO (am_pt w4 w3.2.1 (.inr (10, oK (4 * c + f) 0 0 (w3.2.1 + 1) (w3.2.1 + 2) (nI 0) (nI 0) (nI 0) (nI 0)))) w3.2.1 10 (oK (4 * c + f) 0 0 (w3.2.1 + 1) (w3.2.1 + 2) (nI 0) (nI 0) (nI 0) (nI 0)) := pt_s
  have p6 : am_pf (am_pt w4 w3.2.1 (.inr (10, oK (4 * c + f) 0 0 (w3.2.1 + 1) (w3.2.1 + 2) (nI 0) (nI 0) (nI 0) (nI 0)))) w3.2.1 10 1 (.int (nI c)) = some (am_pt w4 w3.2.1 (.inr (10, oK (4 * c + f) c 0 (w3.2.1 + 1) (w3.2.1 + 2) (nI 0) (nI 0) (nI 0) (nI 0)))) := by
    rw [pfc c5 (by show 1 < 9; decide) (by decide), pt_pt]
    rfl
  have c6 : cO (am_pt w4 w3.2.1 (.inr (10, oK (4 * c + f) c 0 (w3.2.1 + 1) (w3.2.1 + 2) (nI 0) (nI 0) (nI 0) (nI 0)))) w3.2.1 10 (oK (4 * c + f) c 0 (w3.2.1 + 1) (w3.2.1 + 2) (nI 0) (nI 0) (nI 0) (nI 0)) := pt_s
  have p7 : am_pf (am_pt w4 w3.2.1 (.inr (10, oK (4 * c + f) c 0 (w3.2.1 + 1) (w3.2.1 + 2) (nI 0) (nI 0) (nI 0) (nI 0)))) w3.2.1 10 2 (.int (nI h)) = some (am_pt w4 w3.2.1 (.inr (10, oK (4 * c + f) c h (w3.2.1 + 1) (w3.2.1 + 2) (nI 0) (nI 0) (nI 0) (nI 0)))) := by
    rw [pfc c6 (by show 2 < 9; decide) (by decide), pt_pt]
    rfl
  obtain ⟨k5, f5⟩ := Mkv_fld (w := w4) (g := gM g w3.2.1 n) (i := n) (a := w3.2.1) (po' := 4 * c + f) (ho' := c) (ch' := h) (lo' := nI 0) (ac' := nI 0) (bu' := nI 0) (sl' := nI 0) hm4 hr4 hn3 gM_a gM_1 gM_2
  have c7 : cO (am_pt w4 w3.2.1 (.inr (10, oK (4 * c + f) c h (w3.2.1 + 1) (w3.2.1 + 2) (nI 0) (nI 0) (nI 0) (nI 0)))) w3.2.1 10 (oK (4 * c + f) c h (w3.2.1 + 1) (w3.2.1 + 2) (nI 0) (nI 0) (nI 0) (nI 0)) := pt_s
  have m7 : (am_pt w4 w3.2.1 (.inr (10, oK (4 * c + f) c h (w3.2.1 + 1) (w3.2.1 + 2) (nI 0) (nI 0) (nI 0) (nI 0)))).2 = w4.2 := rfl
  have r7 : cI (am_pt w4 w3.2.1 (.inr (10, oK (4 * c + f) c h (w3.2.1 + 1) (w3.2.1 + 2) (nI 0) (nI 0) (nI 0) (nI 0)))) (w3.2.1 + 1) 2 144 (fun _ => 0) := cI_of r4 (pt_n (by omega))
  have q7 : Rws (am_pt w4 w3.2.1 (.inr (10, oK (4 * c + f) c h (w3.2.1 + 1) (w3.2.1 + 2) (nI 0) (nI 0) (nI 0) (nI 0)))) (gM g w3.2.1 n) (w3.2.1 + 2) (400 + 100 * n) (fun _ => 0) := hr4.of (pt_n (by omega)) (fun b z1 z2 => pt_n (fun e => by rw [e, gM_a] at z1; omega))
  generalize am_pt w4 w3.2.1 (.inr (10, oK (4 * c + f) c h (w3.2.1 + 1) (w3.2.1 + 2) (nI 0) (nI 0) (nI 0) (nI 0))) = w5 at p7 k5 f5 c7 m7 r7 q7
  -- what may be
  have mk : ∃ w6, am_run 207 100 [some (.ref m), none, none, none, some (.int (b2i b)), some (.ref w3.2.1)] [] w5 = am_run 207 125 [some (.ref m), none, none, none, none, some (.ref w3.2.1)] [] w6 ∧ Mkv w6 (gM g w3.2.1 n) n w3.2.1 (c, 4 * c + f, h, nI 0, nI 0, nI 0, nI 0, may0 (c * 4 + f) b, fun _ => 0) ∧ frm (gM g w3.2.1 n) (111 + 10 * n) (112 + 10 * n) w5 w6 := by
    cases b with
    | true =>
      have hF : mR2 (upd (fun _ => 0) (4 * c + f) (b2i true)) (may0 (c * 4 + f) true) := fun q hq => by
        show upd (fun _ => 0) (4 * c + f) (b2i true) q = b2i (decide (q = c * 4 + f))
        by_cases e : q = 4 * c + f
        · rw [e, pk_us, decide_eq_true (show 4 * c + f = c * 4 + f by omega)]
        · rw [pk_un e, decide_eq_false (by omega)]; rfl
      have pw : am_wi 2 w5 (w3.2.1 + 1) (nI (4 * c + f)) (b2i true) = some (mrw w5 (w3.2.1 + 1) (upd (fun _ => 0) (4 * c + f) (b2i true))) := wic r7 (by omega) (by decide)
      obtain ⟨y1, y2⟩ := Mkv_may (g := gM g w3.2.1 n) c7 hF q7 hn3 gM_a gM_1 gM_2
      refine ⟨_, ?_, y1, y2⟩
      simp only [bk207_100, b2i_0, reduceCtorEq, bk207_105, gfc c7, oK_0, oK_1, oK_2, oK_3, oK_4, oK_5, oK_6, oK_7, oK_8, bk207_110, bk207_115, nar_1, pw, bk207_117, Option.bind_some, bct_v, bct_t, otl_s, otl_n, List.cons_append, List.nil_append, List.getElem?_cons_zero, List.getElem?_cons_succ, ↓reduceIte]
    | false =>
      obtain ⟨w6, y1, y2, y3⟩ := x45 k5
      refine ⟨w6, ?_, y2, y3⟩
      simp only [bk207_100, b2i_0, bk207_120, y1, Option.bind_some, bct_v, bct_t, otl_s, otl_n, List.cons_append, List.nil_append, List.getElem?_cons_zero, List.getElem?_cons_succ, ↓reduceIte]
  obtain ⟨w6, a6, k6, f6⟩ := mk
  have f56 := frm_tr (frm_wk f5 (show 110 + 10 * n ≤ 110 + 10 * n by omega) (show 111 + 10 * n ≤ 112 + 10 * n by omega)) (frm_wk f6 (by omega) (by omega))
  have R6 := rm_new R4 hn (frm_wk f56 (Nat.le_refl _) (show 112 + 10 * n ≤ 113 + 10 * n by omega))
  have m6 : w6.2 = w4.2 := (f6.2.trans m7)
  have m6' : w6.2.1 = w3.2.1 + 39 := by rw [m6]; exact l4
  have J6 : gJ w6 (gM g w3.2.1 n) := fun b hb => gJ4 b (by rw [← m6]; exact hb)
  have S6 : stp 100 800 g (gM g w3.2.1 n) 39 261 w3 w6 := stp_new2 e4 g0 g1 gJ4 f56 (by omega) (by omega)
  have k6' := k6
  obtain ⟨ma6, mq6, c6', -⟩ := k6'
  have ga : gM g w3.2.1 n w3.2.1 = 110 + 10 * n := gM_a
  have nl : w3.2.1 ≠ wl := fun e => by have := R6.2.2.2.2.2.2.2.2.2.2.2.2; rw [← e, ga] at this; omega
  have ne : w3.2.1 ≠ ed := fun e => by
    rcases (rm_L R6).2 with ⟨-, -, -, z⟩ | ⟨-, z⟩ <;> rw [← e, ga] at z <;> omega
  obtain ⟨w7, ed7, g7, a7, L7, S7⟩ := x195 (rm_L R6) hn3 J6 R6.2.2.2.2.2.2.2.2.2.2.2.2 c6' nl ne (by omega)
  have R7 := rm_add R6 hn3 J6 k6 S7 L7
  have e47 : 4 * c + f = c * 4 + f := by omega
  rw [e47] at R7
  have S7' : stp 100 800 (gM g w3.2.1 n) g7 1 10 w6 w7 := by
    obtain ⟨x1, x2, x3, x4, x5⟩ := S7
    exact ⟨fun b hb hg => x1 b hb (by omega), x2, fun b hb => by rcases x3 b hb with q | q <;> omega, x4, x5⟩
  refine ⟨w7, g7, ?_, ⟨_, _, _, _, _, _, _, R7⟩, stp_wk (stp_tr s3 (stp_tr S6 S7')) (by omega) (by omega)⟩
  have n3 : ¬ nI n = nI 3 := by rw [nI_eqS (by omega) (by decide)]; omega
  have st : am_x 207 [.ref m, .int (nI c), .int (nI f), .int (nI h), .int (b2i b)] w = am_run 207 100 [some (.ref m), none, none, none, some (.int (b2i b)), some (.ref w3.2.1)] [] w5 := by
    simp only [bx207, bk207_0, z1, bk207_5, rm_kf R, a1', bk207_9, nI_eqS (show 0 < 2147483648 by decide) (show 0 < 2147483648 by decide), not_true_eq_false, bk207_12, z2, bk207_17, bk207_20, z3, bk207_28, nI_eqS (show 1 < 2147483648 by decide) (show 0 < 2147483648 by decide), show ¬ 1 = 0 from by decide, not_false_eq_true, bk207_35, bk207_36, rm_kf R1, a2', b2i_0, bk207_40, bk207_43, gfc R2.1, oM_0, oM_1, oM_2, oM_3, oM_4, oM_5, oM_6, oM_7, oM_8, oM_9, oM_10, oM_11, bk207_48, rm_lk R2, x56 (rm_L R2), bk207_51, n3, bk207_59, bk207_60, rm_kf R2, a3', bk207_64, bk207_69, bk207_72, a4, bk207_76, nI_mulS, nI_add, p5, bk207_88, p6, bk207_94, p7, Option.bind_some, bct_v, bct_t, otl_s, otl_n, List.cons_append, List.nil_append, List.getElem?_cons_zero, List.getElem?_cons_succ, ↓reduceIte]
  rw [st, a6]
  have sub : nI (n + 1) - nI 1 = nI n := by rw [nI_subS (by omega), Nat.add_sub_cancel]
  simp only [bk207_125, gfc R6.1, oM_0, oM_1, oM_2, oM_3, oM_4, oM_5, oM_6, oM_7, oM_8, oM_9, oM_10, oM_11, bk207_129, rm_lk R6, a7, bk207_134, gfc R7.1, bk207_139, rm_lk R7, x56 (rm_L R7), bk207_142, sub, Option.bind_some, bct_v, bct_t, otl_s, otl_n, List.cons_append, List.nil_append, List.getElem?_cons_zero, List.getElem?_cons_succ, ↓reduceIte]
theorem y207c (R : RMx w g m kq hq ca ba wl ed wad kd hr cp br n ws th mi nd dr me di re) (hn : n ≤ 3) (hJ : gJ w g) {z z2 z3 z4 : Int32} (hz : z < nI 0 ∨ nI 35 < z) : ∃ w', am_x 207 [.ref m, .int z, .int z2, .int z3, .int z4] w = some (.inl (some (.int (nI 0))), w') ∧ RM w' g m kd hr cp br n ws 1 mi nd dr me di re ∧ stp 100 800 g g 0 0 w w' := by
  have z1 := x97n (w := w) hz
  obtain ⟨w1, a1, R1, f1⟩ := x96 R hn true (c := 1) (by decide)
  have a1' : am_x 96 [.ref m, .int (nI 1), .int (nI 1)] w = _ := a1
  refine ⟨w1, ?_, ⟨_, _, _, _, _, _, _, R1⟩, stp_frm hJ f1 (by decide) (by decide)⟩
  simp only [bx207, bk207_0, z1, bk207_5, rm_kf R, a1', bk207_9, b2i_0, reduceCtorEq, not_false_eq_true, bk207_67, Option.bind_some, bct_v, bct_t, otl_s, otl_n, List.cons_append, List.nil_append, List.getElem?_cons_zero, List.getElem?_cons_succ, ↓reduceIte]
theorem y207f (R : RMx w g m kq hq ca ba wl ed wad kd hr cp br n ws th mi nd dr me di re) (hn : n ≤ 3) (hJ : gJ w g) {c : Nat} (hc : c ≤ 35) {z z3 z4 : Int32} (hz : z < nI 0 ∨ nI 3 < z) : ∃ w', am_x 207 [.ref m, .int (nI c), .int z, .int z3, .int z4] w = some (.inl (some (.int (nI 0))), w') ∧ RM w' g m kd hr cp br n ws 2 mi nd dr me di re ∧ stp 100 800 g g 0 0 w w' := by
  have z1 := x97 (w := w) hc
  obtain ⟨w1, a1, R1, f1⟩ := x96 R hn false (c := 1) (by decide)
  have a1' : am_x 96 [.ref m, .int (nI 0), .int (nI 1)] w = _ := a1
  have z2 := x98n (w := w1) hz
  obtain ⟨w2, a2, R2, f2⟩ := x40 R1 hn true (c := 2) (by decide)
  have a2' : am_x 40 [.ref m, .int (nI 1), .int (nI 2)] w1 = _ := a2
  refine ⟨w2, ?_, ⟨_, _, _, _, _, _, _, R2⟩, stp_frm hJ (frm_tr f1 f2) (by decide) (by decide)⟩
  simp only [bx207, bk207_0, z1, bk207_5, rm_kf R, a1', bk207_9, b2i_0, not_true_eq_false, bk207_12, z2, bk207_17, nI_eqS (show 1 < 2147483648 by decide) (show 0 < 2147483648 by decide), show ¬ 1 = 0 from by decide, not_false_eq_true, bk207_31, bk207_36, rm_kf R1, a2', bk207_40, reduceCtorEq, bk207_67, Option.bind_some, bct_v, bct_t, otl_s, otl_n, List.cons_append, List.nil_append, List.getElem?_cons_zero, List.getElem?_cons_succ, ↓reduceIte]
theorem y207h (R : RMx w g m kq hq ca ba wl ed wad kd hr cp br n ws th mi nd dr me di re) (hn : n ≤ 3) (hJ : gJ w g) {c f : Nat} (hc : c ≤ 35) (hf : f ≤ 3) {z z4 : Int32} (hz : z < nI 1 ∨ nI 500 < z) : ∃ w', am_x 207 [.ref m, .int (nI c), .int (nI f), .int z, .int z4] w = some (.inl (some (.int (nI 0))), w') ∧ RM w' g m kd hr cp br n ws 2 mi nd dr me di re ∧ stp 100 800 g g 0 0 w w' := by
  have z1 := x97 (w := w) hc
  obtain ⟨w1, a1, R1, f1⟩ := x96 R hn false (c := 1) (by decide)
  have a1' : am_x 96 [.ref m, .int (nI 0), .int (nI 1)] w = _ := a1
  have z2 := x98 (w := w1) hf
  have z3 := x39n (w := w1) hz
  obtain ⟨w2, a2, R2, f2⟩ := x40 R1 hn true (c := 2) (by decide)
  have a2' : am_x 40 [.ref m, .int (nI 1), .int (nI 2)] w1 = _ := a2
  refine ⟨w2, ?_, ⟨_, _, _, _, _, _, _, R2⟩, stp_frm hJ (frm_tr f1 f2) (by decide) (by decide)⟩
  simp only [bx207, bk207_0, z1, bk207_5, rm_kf R, a1', bk207_9, b2i_0, not_true_eq_false, bk207_12, z2, bk207_17, nI_eqS (show 0 < 2147483648 by decide) (show 0 < 2147483648 by decide), bk207_20, z3, bk207_28, bk207_31, bk207_36, rm_kf R1, a2', bk207_40, reduceCtorEq, not_false_eq_true, bk207_67, Option.bind_some, bct_v, bct_t, otl_s, otl_n, List.cons_append, List.nil_append, List.getElem?_cons_zero, List.getElem?_cons_succ, ↓reduceIte]
theorem y207n (R : RMx w g m kq hq ca ba wl ed wad kd hr cp br n ws th mi nd dr me di re) (hn : n ≤ 3) (hJ : gJ w g) (h3 : n = 3) {c f h : Nat} (hc : c ≤ 35) (hf : f ≤ 3) (h1c : 1 ≤ h) (h5 : h ≤ 500) {z : Int32} : ∃ w', am_x 207 [.ref m, .int (nI c), .int (nI f), .int (nI h), .int z] w = some (.inl (some (.int (nI 0))), w') ∧ RM w' g m kd hr cp br n ws 3 mi nd dr me di re ∧ stp 100 800 g g 0 0 w w' := by
  have z1 := x97 (w := w) hc
  obtain ⟨w1, a1, R1, f1⟩ := x96 R hn false (c := 1) (by decide)
  have a1' : am_x 96 [.ref m, .int (nI 0), .int (nI 1)] w = _ := a1
  have z2 := x98 (w := w1) hf
  have z3 := x39 (w := w1) (a := 1) (b := 500) (j := h) (by decide) h1c h5
  obtain ⟨w2, a2, R2, f2⟩ := x40 R1 hn false (c := 2) (by decide)
  have a2' : am_x 40 [.ref m, .int (nI 0), .int (nI 2)] w1 = _ := a2
  obtain ⟨w3, a3, R3, f3⟩ := x40 R2 hn true (c := 3) (by decide)
  have a3' : am_x 40 [.ref m, .int (nI 1), .int (nI 3)] w2 = _ := a3
  refine ⟨w3, ?_, ⟨_, _, _, _, _, _, _, R3⟩, stp_frm hJ (frm_tr f1 (frm_tr f2 f3)) (by decide) (by decide)⟩
  have n3 : (nI n = nI 3) = True := eq_true (by rw [h3])
  simp only [bx207, bk207_0, z1, bk207_5, rm_kf R, a1', bk207_9, nI_eqS (show 0 < 2147483648 by decide) (show 0 < 2147483648 by decide), not_true_eq_false, bk207_12, z2, bk207_17, bk207_20, z3, bk207_28, nI_eqS (show 1 < 2147483648 by decide) (show 0 < 2147483648 by decide), show ¬ 1 = 0 from by decide, not_false_eq_true, bk207_35, bk207_36, rm_kf R1, a2', b2i_0, bk207_40, bk207_43, gfc R2.1, oM_0, oM_1, oM_2, oM_3, oM_4, oM_5, oM_6, oM_7, oM_8, oM_9, oM_10, oM_11, bk207_48, rm_lk R2, x56 (rm_L R2), bk207_51, n3, bk207_55, bk207_60, rm_kf R2, a3', bk207_64, reduceCtorEq, bk207_67, Option.bind_some, bct_v, bct_t, otl_s, otl_n, List.cons_append, List.nil_append, List.getElem?_cons_zero, List.getElem?_cons_succ, ↓reduceIte]
end CN
end
section
/-! THE REFERENCE: a new object. Mine. -/
def gN (g : Nat → Nat) (a : Nat) : Nat → Nat := fun b => if b < a then g b else if b = a then 100 else if b = a + 1 then 101 else if b < a + 38 then 200 + (b - (a + 2)) else if b = a + 38 then 102 else if b < a + 75 then 300 + (b - (a + 39)) else if b = a + 75 then 103 else if b = a + 76 then 104 else if b = a + 77 then 105 else g b
theorem gN_lt {g : Nat → Nat} {a b : Nat} (h : b < a) : gN g a b = g b := if_pos h
theorem gN_ge {g : Nat → Nat} {a b : Nat} (h : a + 78 ≤ b) : gN g a b = g b := by
  unfold gN
  rw [if_neg (by omega), if_neg (by omega), if_neg (by omega), if_neg (by omega), if_neg (by omega), if_neg (by omega), if_neg (by omega), if_neg (by omega), if_neg (by omega)]
theorem gN_at (g : Nat → Nat) (a : Nat) : gN g a a = 100 ∧ gN g a (a + 1) = 101 ∧ (∀ c, c < 36 → gN g a (a + 1 + 1 + c) = 200 + c) ∧ gN g a (a + 38) = 102 ∧ (∀ c, c < 36 → gN g a (a + 38 + 1 + c) = 300 + c) ∧ gN g a (a + 75) = 103 ∧ gN g a (a + 76) = 104 ∧ gN g a (a + 77) = 105 := by
  unfold gN
  refine ⟨?_, ?_, fun c hc => ?_, ?_, fun c hc => ?_, ?_, ?_, ?_⟩
  · rw [if_neg (by omega), if_pos rfl]
  · rw [if_neg (by omega), if_neg (by omega), if_pos rfl]
  · rw [if_neg (by omega), if_neg (by omega), if_neg (by omega), if_pos (by omega)]; omega
  · rw [if_neg (by omega), if_neg (by omega), if_neg (by omega), if_neg (by omega), if_pos rfl]
  · rw [if_neg (by omega), if_neg (by omega), if_neg (by omega), if_neg (by omega), if_neg (by omega), if_pos (by omega)]; omega
  · rw [if_neg (by omega), if_neg (by omega), if_neg (by omega), if_neg (by omega), if_neg (by omega), if_neg (by omega), if_pos rfl]
  · rw [if_neg (by omega), if_neg (by omega), if_neg (by omega), if_neg (by omega), if_neg (by omega), if_neg (by omega), if_neg (by omega), if_pos rfl]
  · rw [if_neg (by omega), if_neg (by omega), if_neg (by omega), if_neg (by omega), if_neg (by omega), if_neg (by omega), if_neg (by omega), if_neg (by omega), if_pos rfl]
theorem gN_in {g : Nat → Nat} {a b : Nat} (h : a ≤ b) (h2 : b < a + 78) : 100 ≤ gN g a b ∧ gN g a b < 800 := by
  unfold gN
  rw [if_neg (by omega)]
  repeat' split
  all_goals omega
/-- of one cell: what stands there now -/
def oN (dr7 : Int32) (v7 v8 v9 v10 v11 : Value) : List Value := [.int (nI 0), .int (nI 0), .int dr7, .int (nI 0), .int (nI 0), .int (nI 0), .int (nI 0), v7, v8, v9, v10, v11]
theorem x172 (w : am_Wd) {g : Nat → Nat} (hJ : gJ w g) {ed : Nat} (hs : w.2.2.2 1 = some ed) (he : cQ w ed 13 0 (fun _ => none)) (ge : g ed = 721) (wad : Nat → Nat) (ws : Nat → sW) : ∃ w', am_x 172 [.ref w.2.1] (am_nw w (.inr (11, am_df 11 12)) 12) = some (.inl none, w') ∧ RMx w' (gN g w.2.1) w.2.1 (w.2.1 + 1) (w.2.1 + 38) (w.2.1 + 75) (w.2.1 + 76) (w.2.1 + 77) ed wad (fun _ => 0) (fun _ => 0) (fun _ => false) (fun _ => false) 0 ws 0 0 7 (nI 0) (nI 0) (nI 0) (nI 0) ∧ stp 100 800 g (gN g w.2.1) 78 303 w w' := by
  have le : ed < w.2.1 := lt_J hJ ge (by decide)
  have c0 : cO (am_nw w (.inr (11, am_df 11 12)) 12) w.2.1 11 (oN (nI 0) .null .null .null .null .null) := nw_s
  have e0 : ext w (am_nw w (.inr (11, am_df 11 12)) 12) 1 12 := ext_nw
  have l0 : (am_nw w (.inr (11, am_df 11 12)) 12).2.1 = w.2.1 + 1 := rfl
  generalize am_nw w (.inr (11, am_df 11 12)) 12 = w0 at c0 e0 l0
  -- the seed
  have p1 : am_pf w0 w.2.1 11 2 (.int (nI 7)) = some (am_pt w0 w.2.1 (.inr (11, oN (nI 7) .null .null .null .null .null))) := pfc c0 (by show 2 < 12; decide) (by decide)
  have c1 : cO (am_pt w0 w.2.1 (.inr (11, oN (nI 7) .null .null .null .null .null))) w.2.1 11 (oN (nI 7) .null .null .null .null .null) := pt_s
  have e1 : ext w (am_pt w0 w.2.1 (.inr (11, oN (nI 7) .null .null .null .null .null))) 1 12 := ext_pt e0 (Nat.le_refl _)
  have l1 : (am_pt w0 w.2.1 (.inr (11, oN (nI 7) .null .null .null .null .null))).2.1 = w.2.1 + 1 := l0
  generalize am_pt w0 w.2.1 (.inr (11, oN (nI 7) .null .null .null .null .null)) = w1 at p1 c1 e1 l1
  -- kinds
  obtain ⟨m2, q2, i2, o2, t2⟩ := mn_ok w1
  have c2 : cO (mnw w1) w.2.1 11 _ := cO_of c1 (o2 _ (by omega))
  have e2 : ext w (mnw w1) 38 120 := ext_tr e1 mn_ext
  have l2 : (mnw w1).2.1 = w.2.1 + 38 := by rw [t2]; show w1.2.1 + 37 = _; omega
  rw [l1] at q2 i2
  generalize mnw w1 = w2 at m2 q2 i2 c2 e2 l2
  have p3 : am_pf w2 w.2.1 11 7 (.ref w1.2.1) = some (am_pt w2 w.2.1 (.inr (11, oN (nI 7) (.ref (w.2.1 + 1)) .null .null .null .null))) := by rw [pfc c2 (by show 7 < 12; decide) (by decide), l1]; rfl
  have c3 : cO (am_pt w2 w.2.1 (.inr (11, oN (nI 7) (.ref (w.2.1 + 1)) .null .null .null .null))) w.2.1 11 (oN (nI 7) (.ref (w.2.1 + 1)) .null .null .null .null) := pt_s
  have o3 : ∀ b, b ≠ w.2.1 → (am_pt w2 w.2.1 (.inr (11, oN (nI 7) (.ref (w.2.1 + 1)) .null .null .null .null))).1 b = w2.1 b := fun b hb => pt_n hb
  have e3 : ext w (am_pt w2 w.2.1 (.inr (11, oN (nI 7) (.ref (w.2.1 + 1)) .null .null .null .null))) 38 120 := ext_pt e2 (Nat.le_refl _)
  have l3 : (am_pt w2 w.2.1 (.inr (11, oN (nI 7) (.ref (w.2.1 + 1)) .null .null .null .null))).2.1 = w.2.1 + 38 := l2
  generalize am_pt w2 w.2.1 (.inr (11, oN (nI 7) (.ref (w.2.1 + 1)) .null .null .null .null)) = w3 at p3 c3 o3 e3 l3
  have q3 := cQ_of q2 (o3 _ (by omega))
  have i3 := fun c (hc : c < 36) => cI_of (i2 c hc) (o3 _ (by omega))
  -- hours
  obtain ⟨m4, Q4, I4, o4, t4⟩ := mn_ok w3
  have c4 : cO (mnw w3) w.2.1 11 _ := cO_of c3 (o4 _ (by omega))
  have q4 := cQ_of q3 (o4 _ (by omega))
  have i4 := fun c (hc : c < 36) => cI_of (i3 c hc) (o4 _ (by omega))
  have e4 : ext w (mnw w3) 75 228 := ext_tr e3 mn_ext
  have l4 : (mnw w3).2.1 = w.2.1 + 75 := by rw [t4]; show w3.2.1 + 37 = _; omega
  rw [l3] at Q4 I4
  generalize mnw w3 = w4 at m4 Q4 I4 c4 q4 i4 e4 l4
  have p5 : am_pf w4 w.2.1 11 8 (.ref w3.2.1) = some (am_pt w4 w.2.1 (.inr (11, oN (nI 7) (.ref (w.2.1 + 1)) (.ref (w.2.1 + 38)) .null .null .null))) := by rw [pfc c4 (by show 8 < 12; decide) (by decide), l3]; rfl
  have c5 : cO (am_pt w4 w.2.1 (.inr (11, oN (nI 7) (.ref (w.2.1 + 1)) (.ref (w.2.1 + 38)) .null .null .null))) w.2.1 11 (oN (nI 7) (.ref (w.2.1 + 1)) (.ref (w.2.1 + 38)) .null .null .null) := pt_s
  have o5 : ∀ b, b ≠ w.2.1 → (am_pt w4 w.2.1 (.inr (11, oN (nI 7) (.ref (w.2.1 + 1)) (.ref (w.2.1 + 38)) .null .null .null))).1 b = w4.1 b := fun b hb => pt_n hb
  have e5 : ext w (am_pt w4 w.2.1 (.inr (11, oN (nI 7) (.ref (w.2.1 + 1)) (.ref (w.2.1 + 38)) .null .null .null))) 75 228 := ext_pt e4 (Nat.le_refl _)
  have l5 : (am_pt w4 w.2.1 (.inr (11, oN (nI 7) (.ref (w.2.1 + 1)) (.ref (w.2.1 + 38)) .null .null .null))).2.1 = w.2.1 + 75 := l4
  generalize am_pt w4 w.2.1 (.inr (11, oN (nI 7) (.ref (w.2.1 + 1)) (.ref (w.2.1 + 38)) .null .null .null)) = w5 at p5 c5 o5 e5 l5
  have q5 := cQ_of q4 (o5 _ (by omega))
  have i5 := fun c (hc : c < 36) => cI_of (i4 c hc) (o5 _ (by omega))
  have Q5 := cQ_of Q4 (o5 _ (by omega))
  have I5 := fun c (hc : c < 36) => cI_of (I4 c hc) (o5 _ (by omega))
  -- carpets
  have n6 : am_na w5 2 (nI 36) = some (nwr w5 2 36 (fun _ => 0)) := na_nwr (by decide) rfl
  have o6 : ∀ b, b < w5.2.1 → (nwr w5 2 36 (fun _ => 0)).1 b = w5.1 b := fun b hb => nwr_ext.1 b hb
  have C6 : cI (nwr w5 2 36 (fun _ => 0)) w5.2.1 2 36 (fun _ => 0) := nwr_at
  have e6 : ext w (nwr w5 2 36 (fun _ => 0)) 76 264 := ext_tr e5 nwr_ext
  have l6 : (nwr w5 2 36 (fun _ => 0)).2.1 = w.2.1 + 76 := by show w5.2.1 + 1 = _; omega
  rw [l5] at C6
  generalize nwr w5 2 36 (fun _ => 0) = w6 at n6 o6 C6 e6 l6
  have c6 := cO_of c5 (o6 _ (by omega))
  have q6 := cQ_of q5 (o6 _ (by omega))
  have i6 := fun c (hc : c < 36) => cI_of (i5 c hc) (o6 _ (by omega))
  have Q6 := cQ_of Q5 (o6 _ (by omega))
  have I6 := fun c (hc : c < 36) => cI_of (I5 c hc) (o6 _ (by omega))
  have p7 : am_pf w6 w.2.1 11 9 (.ref w5.2.1) = some (am_pt w6 w.2.1 (.inr (11, oN (nI 7) (.ref (w.2.1 + 1)) (.ref (w.2.1 + 38)) (.ref (w.2.1 + 75)) .null .null))) := by rw [pfc c6 (by show 9 < 12; decide) (by decide), l5]; rfl
  have c7 : cO (am_pt w6 w.2.1 (.inr (11, oN (nI 7) (.ref (w.2.1 + 1)) (.ref (w.2.1 + 38)) (.ref (w.2.1 + 75)) .null .null))) w.2.1 11 (oN (nI 7) (.ref (w.2.1 + 1)) (.ref (w.2.1 + 38)) (.ref (w.2.1 + 75)) .null .null) := pt_s
  have o7 : ∀ b, b ≠ w.2.1 → (am_pt w6 w.2.1 (.inr (11, oN (nI 7) (.ref (w.2.1 + 1)) (.ref (w.2.1 + 38)) (.ref (w.2.1 + 75)) .null .null))).1 b = w6.1 b := fun b hb => pt_n hb
  have e7 : ext w (am_pt w6 w.2.1 (.inr (11, oN (nI 7) (.ref (w.2.1 + 1)) (.ref (w.2.1 + 38)) (.ref (w.2.1 + 75)) .null .null))) 76 264 := ext_pt e6 (Nat.le_refl _)
  have l7 : (am_pt w6 w.2.1 (.inr (11, oN (nI 7) (.ref (w.2.1 + 1)) (.ref (w.2.1 + 38)) (.ref (w.2.1 + 75)) .null .null))).2.1 = w.2.1 + 76 := l6
  generalize am_pt w6 w.2.1 (.inr (11, oN (nI 7) (.ref (w.2.1 + 1)) (.ref (w.2.1 + 38)) (.ref (w.2.1 + 75)) .null .null)) = w7 at p7 c7 o7 e7 l7
  have q7 := cQ_of q6 (o7 _ (by omega))
  have i7 := fun c (hc : c < 36) => cI_of (i6 c hc) (o7 _ (by omega))
  have Q7 := cQ_of Q6 (o7 _ (by omega))
  have I7 := fun c (hc : c < 36) => cI_of (I6 c hc) (o7 _ (by omega))
  have C7 := cI_of C6 (o7 _ (by omega))
  -- bars
  have n8 : am_na w7 2 (nI 36) = some (nwr w7 2 36 (fun _ => 0)) := na_nwr (by decide) rfl
  have o8 : ∀ b, b < w7.2.1 → (nwr w7 2 36 (fun _ => 0)).1 b = w7.1 b := fun b hb => nwr_ext.1 b hb
  have B8 : cI (nwr w7 2 36 (fun _ => 0)) w7.2.1 2 36 (fun _ => 0) := nwr_at
  have e8 : ext w (nwr w7 2 36 (fun _ => 0)) 77 300 := ext_tr e7 nwr_ext
  have l8 : (nwr w7 2 36 (fun _ => 0)).2.1 = w.2.1 + 77 := by show w7.2.1 + 1 = _; omega
  rw [l7] at B8
  generalize nwr w7 2 36 (fun _ => 0) = w8 at n8 o8 B8 e8 l8
  have c8 := cO_of c7 (o8 _ (by omega))
  have q8 := cQ_of q7 (o8 _ (by omega))
  have i8 := fun c (hc : c < 36) => cI_of (i7 c hc) (o8 _ (by omega))
  have Q8 := cQ_of Q7 (o8 _ (by omega))
  have I8 := fun c (hc : c < 36) => cI_of (I7 c hc) (o8 _ (by omega))
  have C8 := cI_of C7 (o8 _ (by omega))
  have p9 : am_pf w8 w.2.1 11 10 (.ref w7.2.1) = some (am_pt w8 w.2.1 (.inr (11, oN (nI 7) (.ref (w.2.1 + 1)) (.ref (w.2.1 + 38)) (.ref (w.2.1 + 75)) (.ref (w.2.1 + 76)) .null))) := by rw [pfc c8 (by show 10 < 12; decide) (by decide), l7]; rfl
  have c9 : cO (am_pt w8 w.2.1 (.inr (11, oN (nI 7) (.ref (w.2.1 + 1)) (.ref (w.2.1 + 38)) (.ref (w.2.1 + 75)) (.ref (w.2.1 + 76)) .null))) w.2.1 11 (oN (nI 7) (.ref (w.2.1 + 1)) (.ref (w.2.1 + 38)) (.ref (w.2.1 + 75)) (.ref (w.2.1 + 76)) .null) := pt_s
  have o9 : ∀ b, b ≠ w.2.1 → (am_pt w8 w.2.1 (.inr (11, oN (nI 7) (.ref (w.2.1 + 1)) (.ref (w.2.1 + 38)) (.ref (w.2.1 + 75)) (.ref (w.2.1 + 76)) .null))).1 b = w8.1 b := fun b hb => pt_n hb
  have e9 : ext w (am_pt w8 w.2.1 (.inr (11, oN (nI 7) (.ref (w.2.1 + 1)) (.ref (w.2.1 + 38)) (.ref (w.2.1 + 75)) (.ref (w.2.1 + 76)) .null))) 77 300 := ext_pt e8 (Nat.le_refl _)
  have l9 : (am_pt w8 w.2.1 (.inr (11, oN (nI 7) (.ref (w.2.1 + 1)) (.ref (w.2.1 + 38)) (.ref (w.2.1 + 75)) (.ref (w.2.1 + 76)) .null))).2.1 = w.2.1 + 77 := l8
  generalize am_pt w8 w.2.1 (.inr (11, oN (nI 7) (.ref (w.2.1 + 1)) (.ref (w.2.1 + 38)) (.ref (w.2.1 + 75)) (.ref (w.2.1 + 76)) .null)) = w9 at p9 c9 o9 e9 l9
  have q9 := cQ_of q8 (o9 _ (by omega))
  have i9 := fun c (hc : c < 36) => cI_of (i8 c hc) (o9 _ (by omega))
  have Q9 := cQ_of Q8 (o9 _ (by omega))
  have I9 := fun c (hc : c < 36) => cI_of (I8 c hc) (o9 _ (by omega))
  have C9 := cI_of C8 (o9 _ (by omega))
  have B9 := cI_of B8 (o9 _ (by omega))
  -- the list
  have L0 : cO (am_nw w9 (.inr (3, am_df 3 3)) 3) w9.2.1 3 [.int (nI 0), .null, .int (nI 0)] := nw_s
  have oa : ∀ b, b < w9.2.1 → (am_nw w9 (.inr (3, am_df 3 3)) 3).1 b = w9.1 b := fun b hb => nw_n (by omega)
  have ea : ext w (am_nw w9 (.inr (3, am_df 3 3)) 3) 78 303 := ext_tr e9 ext_nw
  have la : (am_nw w9 (.inr (3, am_df 3 3)) 3).2.1 = w.2.1 + 78 := by show w9.2.1 + 1 = _; omega
  rw [l9] at L0
  have l9' := l9
  generalize hwa : am_nw w9 (.inr (3, am_df 3 3)) 3 = wa at L0 oa ea la
  have pa : am_pf wa (w.2.1 + 77) 3 0 (.int (nI 0)) = some (am_pt wa (w.2.1 + 77) (.inr (3, [.int (nI 0), .null, .int (nI 0)]))) := pfc L0 (by show 0 < 3; decide) (by decide)
  have La : cO (am_pt wa (w.2.1 + 77) (.inr (3, [.int (nI 0), .null, .int (nI 0)]))) (w.2.1 + 77) 3 [.int (nI 0), .null, .int (nI 0)] := pt_s
  have eb : ext w (am_pt wa (w.2.1 + 77) (.inr (3, [.int (nI 0), .null, .int (nI 0)]))) 78 303 := ext_pt ea (by omega)
  have ob : ∀ b, b ≠ w.2.1 + 77 → (am_pt wa (w.2.1 + 77) (.inr (3, [.int (nI 0), .null, .int (nI 0)]))).1 b = wa.1 b := fun b hb => pt_n hb
  have sb : (am_pt wa (w.2.1 + 77) (.inr (3, [.int (nI 0), .null, .int (nI 0)]))).2.2.2 1 = some ed := by rw [eb.2.2.2.2.2]; exact hs
  have lb : (am_pt wa (w.2.1 + 77) (.inr (3, [.int (nI 0), .null, .int (nI 0)]))).2.1 = w.2.1 + 78 := la
  generalize am_pt wa (w.2.1 + 77) (.inr (3, [.int (nI 0), .null, .int (nI 0)])) = wb at pa La eb ob sb lb
  have pb : am_pf wb (w.2.1 + 77) 3 1 (.ref ed) = some (am_pt wb (w.2.1 + 77) (.inr (3, [.int (nI 0), .ref ed, .int (nI 0)]))) := pfc La (by show 1 < 3; decide) (by decide)
  have Lb : cO (am_pt wb (w.2.1 + 77) (.inr (3, [.int (nI 0), .ref ed, .int (nI 0)]))) (w.2.1 + 77) 3 [.int (nI 0), .ref ed, .int (nI 0)] := pt_s
  have ec : ext w (am_pt wb (w.2.1 + 77) (.inr (3, [.int (nI 0), .ref ed, .int (nI 0)]))) 78 303 := ext_pt eb (by omega)
  have oc : ∀ b, b ≠ w.2.1 + 77 → (am_pt wb (w.2.1 + 77) (.inr (3, [.int (nI 0), .ref ed, .int (nI 0)]))).1 b = wb.1 b := fun b hb => pt_n hb
  have lc : (am_pt wb (w.2.1 + 77) (.inr (3, [.int (nI 0), .ref ed, .int (nI 0)]))).2.1 = w.2.1 + 78 := lb
  generalize am_pt wb (w.2.1 + 77) (.inr (3, [.int (nI 0), .ref ed, .int (nI 0)])) = wc at pb Lb ec oc lc
  have od : ∀ b, b < w.2.1 + 77 → wc.1 b = w9.1 b := fun b hb => (oc b (by omega)).trans ((ob b (by omega)).trans (oa b (by omega)))
  have cc : cO wc w.2.1 11 _ := cO_of c9 (od _ (by omega))
  have pc : am_pf wc w.2.1 11 11 (.ref (w.2.1 + 77)) = some (am_pt wc w.2.1 (.inr (11, oN (nI 7) (.ref (w.2.1 + 1)) (.ref (w.2.1 + 38)) (.ref (w.2.1 + 75)) (.ref (w.2.1 + 76)) (.ref (w.2.1 + 77))))) := pfc cc (by show 11 < 12; decide) (by decide)
  have cd : cO (am_pt wc w.2.1 (.inr (11, oN (nI 7) (.ref (w.2.1 + 1)) (.ref (w.2.1 + 38)) (.ref (w.2.1 + 75)) (.ref (w.2.1 + 76)) (.ref (w.2.1 + 77))))) w.2.1 11 (oM 0 0 7 (nI 0) (nI 0) (nI 0) (nI 0) (w.2.1 + 1) (w.2.1 + 38) (w.2.1 + 75) (w.2.1 + 76) (w.2.1 + 77)) := pt_s
  have ee : ext w (am_pt wc w.2.1 (.inr (11, oN (nI 7) (.ref (w.2.1 + 1)) (.ref (w.2.1 + 38)) (.ref (w.2.1 + 75)) (.ref (w.2.1 + 76)) (.ref (w.2.1 + 77))))) 78 303 := ext_pt ec (Nat.le_refl _)
  have oe : ∀ b, b ≠ w.2.1 → (am_pt wc w.2.1 (.inr (11, oN (nI 7) (.ref (w.2.1 + 1)) (.ref (w.2.1 + 38)) (.ref (w.2.1 + 75)) (.ref (w.2.1 + 76)) (.ref (w.2.1 + 77))))).1 b = wc.1 b := fun b hb => pt_n hb
  have le' : w.2.1 + 78 ≤ (am_pt wc w.2.1 (.inr (11, oN (nI 7) (.ref (w.2.1 + 1)) (.ref (w.2.1 + 38)) (.ref (w.2.1 + 75)) (.ref (w.2.1 + 76)) (.ref (w.2.1 + 77))))).2.1 := Nat.le_of_eq lc.symm
  generalize hwd : am_pt wc w.2.1 (.inr (11, oN (nI 7) (.ref (w.2.1 + 1)) (.ref (w.2.1 + 38)) (.ref (w.2.1 + 75)) (.ref (w.2.1 + 76)) (.ref (w.2.1 + 77)))) = wd at pc cd ee oe le'
  have of : ∀ b, b < w.2.1 + 77 → b ≠ w.2.1 → wd.1 b = w9.1 b := fun b hb hb2 => (oe b hb2).trans (od b hb)
  obtain ⟨g1, g2, g3, g4, g5, g6, g7, g8⟩ := gN_at g w.2.1
  have sd : wd.2.2.2 1 = some ed := by rw [ee.2.2.2.2.2]; exact hs
  refine ⟨wd, ?_, ⟨cd, rws_0 (cQ_of q9 (of _ (by omega) (by omega))) (fun c hc => cI_of (i9 c hc) (of _ (by omega) (by omega))) g3, rws_0 (cQ_of Q9 (of _ (by omega) (by omega))) (fun c hc => cI_of (I9 c hc) (of _ (by omega) (by omega))) g5, cI_of C9 (of _ (by omega) (by omega)), cI_of B9 (of _ (by omega) (by omega)), ⟨cO_of Lb (oe _ (by omega)), Or.inl ⟨rfl, sd, cQ_of he (ee.1 _ le), (gN_lt le).trans ge⟩⟩, fun i hi => absurd hi (by omega), g1, g2, g4, g6, g7, g8⟩, stp_new2 ee (fun b hb => gN_lt hb) (fun b hb => ?_) (fun b hb => ?_) frm_rf (Nat.le_refl 100) (Nat.le_refl 800)⟩
  · simp only [bx172, bk172_0, p1, bk172_10, m2, bk172_18, p3, bk172_21, m4, bk172_29, p5, bk172_32, n6, bk172_37, p7, bk172_40, n8, bk172_45, p9, bk172_48, hwa, bk172_52, l9', bx151, bk151_0, bx106, bk106_0, bx57, bk57_0, bk106_4, pa, bk106_9, bk151_4 sb, bk151_8, pb, bk151_11, bk172_56, pc, bk172_59, Option.bind_some, bct_v, bct_t, otl_s, otl_n, List.cons_append, List.nil_append, List.getElem?_cons_zero, List.getElem?_cons_succ, ↓reduceIte]
  · rcases Nat.lt_or_ge b (w.2.1 + 78) with q | q
    · exact Or.inr (gN_in hb q)
    · rw [gN_ge q]; exact Or.inl (hJ b hb)
  · rw [gN_ge (by omega)]
    exact hJ b (by omega)
end
section
/-! THE REFERENCE'S CALLS: what is asked of it. Laid by wip/gen/asks.py. Mine. -/
theorem one_0 : (nI 1 = nI 0) = False := eq_false (by decide)
section CO
variable {w : am_Wd} {g : Nat → Nat} {m kq hq ca ba wl ed : Nat} {wad : Nat → Nat} {kd hr : Nat → Nat} {cp br : Nat → Bool} {n : Nat} {ws : Nat → sW} {th mi nd : Nat} {dr me di re : Int32}
variable {i a ho po ch : Nat} {lo ac bu sl : Int32} {may : Nat → Bool} {mp : Nat → Nat}

theorem y182 (R : RMx w g m kq hq ca ba wl ed wad kd hr cp br n ws th mi nd dr me di re) (hn : n ≤ 3) (hJ : gJ w g) {i : Nat} (hi : i < n) (hy : ws i = (ho, po, ch, lo, ac, bu, sl, may, mp)) {c1 : Nat} (hc1 : c1 ≤ 12) (hk : kdok kd) (hh : hrok hr) (hm : mi ≤ 3000) (hp : mpo mp) : ∃ w', am_x 182 [.ref m, .int (nI i), .int (nI c1)] w = some (.inl (some (.int (ofwR kd hr (mi / 60 % 24) (ws i) c1))), w') ∧ RM w' g m kd hr cp br n ws 0 mi nd dr me di re ∧ stp 100 800 g g 1 13 w w' := by
  have zW := x99 R (nI i)
  rw [nwk_f hn hi] at zW
  have y1 := fun w => x39 (w := w) (a := 0) (b := 12) (j := c1) (by decide) (Nat.zero_le c1) hc1
  obtain ⟨w1, a1, R1, f1⟩ := x96 R hn false (c := 1) (by decide)
  have a1' : am_x 96 [.ref m, .int (nI 0), .int (nI 1)] w = _ := a1
  obtain ⟨w2, a2, R2, f2⟩ := x40 R1 hn false (c := 2) (by decide)
  have a2' : am_x 40 [.ref m, .int (nI 0), .int (nI 2)] w1 = _ := a2
  have s2 := stp_frm (lo := 100) (hi := 800) hJ (frm_tr f1 f2) (by decide) (by decide)
  have v := x150 (rm_L R2) hn hi
  have hw := rm_get R2 hi hy
  have kw := mk_kf hw
  obtain ⟨w9, q9, e9⟩ := x146 R2 (stp_J s2) hk hh hm hi hy hp hc1
  have R9 := rm_ext R2 hn (stp_J s2) e9
  refine ⟨w9, ?_, ⟨_, _, _, _, _, _, _, R9⟩, stp_wk (stp_tr s2 (stp_ext (stp_J s2) e9)) (by omega) (by omega)⟩
  simp only [bk182_0, bk182_6, bk182_10, bk182_36, bk182_13, bk182_56, bk182_21, bk182_28, bk182_24, bk182_29, bk182_33, bk182_40, bk182_45, bk182_49, bk182_52, bx182, zW, y1, rm_kf R, a1, a1', rm_kf R1, a2, a2', v, kw,  one_0, b2i_0, reduceCtorEq, not_true_eq_false, not_false_eq_true, gfc R2.1, oM_0, oM_1, oM_2, oM_3, oM_4, oM_5, oM_6, oM_7, oM_8, oM_9, oM_10, oM_11, rm_kf R2, rm_lk R2, q9, Option.bind_some, bct_v, bct_t, otl_s, otl_n, List.cons_append, List.nil_append, List.getElem?_cons_zero, List.getElem?_cons_succ, ↓reduceIte]

theorem y182a (R : RMx w g m kq hq ca ba wl ed wad kd hr cp br n ws th mi nd dr me di re) (hn : n ≤ 3) (hJ : gJ w g) {z0 : Int32} (hz0 : z0 < nI 0 ∨ nI n ≤ z0) {z1 : Int32} : ∃ w', am_x 182 [.ref m, .int z0, .int z1] w = some (.inl (some (.int (nI 0))), w') ∧ RM w' g m kd hr cp br n ws 1 mi nd dr me di re ∧ stp 100 800 g g 0 0 w w' := by
  have zW := x99 R z0
  rw [nwk_t hn hz0] at zW
  obtain ⟨w1, a1, R1, f1⟩ := x96 R hn true (c := 1) (by decide)
  have a1' : am_x 96 [.ref m, .int (nI 1), .int (nI 1)] w = _ := a1
  refine ⟨w1, ?_, ⟨_, _, _, _, _, _, _, R1⟩, stp_frm hJ f1 (by decide) (by decide)⟩
  simp only [bk182_0, bk182_6, bk182_10, bk182_36, bk182_13, bk182_56, bk182_21, bk182_28, bk182_24, bk182_29, bk182_33, bk182_40, bk182_45, bk182_49, bk182_52, bx182, zW, rm_kf R, a1, a1', one_0, b2i_0, reduceCtorEq, not_true_eq_false, not_false_eq_true, Option.bind_some, bct_v, bct_t, otl_s, otl_n, List.cons_append, List.nil_append, List.getElem?_cons_zero, List.getElem?_cons_succ, ↓reduceIte]

theorem y182b (R : RMx w g m kq hq ca ba wl ed wad kd hr cp br n ws th mi nd dr me di re) (hn : n ≤ 3) (hJ : gJ w g) {i : Nat} (hi : i < n) {z1 : Int32} (hz1 : z1 < nI 0 ∨ nI 12 < z1) : ∃ w', am_x 182 [.ref m, .int (nI i), .int z1] w = some (.inl (some (.int (nI 0))), w') ∧ RM w' g m kd hr cp br n ws 2 mi nd dr me di re ∧ stp 100 800 g g 0 0 w w' := by
  have zW := x99 R (nI i)
  rw [nwk_f hn hi] at zW
  have y1 := fun w => x39n (w := w) hz1
  obtain ⟨w1, a1, R1, f1⟩ := x96 R hn false (c := 1) (by decide)
  have a1' : am_x 96 [.ref m, .int (nI 0), .int (nI 1)] w = _ := a1
  obtain ⟨w2, a2, R2, f2⟩ := x40 R1 hn true (c := 2) (by decide)
  have a2' : am_x 40 [.ref m, .int (nI 1), .int (nI 2)] w1 = _ := a2
  refine ⟨w2, ?_, ⟨_, _, _, _, _, _, _, R2⟩, stp_frm hJ (frm_tr f1 f2) (by decide) (by decide)⟩
  simp only [bk182_0, bk182_6, bk182_10, bk182_36, bk182_13, bk182_56, bk182_21, bk182_28, bk182_24, bk182_29, bk182_33, bk182_40, bk182_45, bk182_49, bk182_52, bx182, zW, y1, rm_kf R, a1, a1', rm_kf R1, a2, a2', one_0, b2i_0, reduceCtorEq, not_true_eq_false, not_false_eq_true, Option.bind_some, bct_v, bct_t, otl_s, otl_n, List.cons_append, List.nil_append, List.getElem?_cons_zero, List.getElem?_cons_succ, ↓reduceIte]

theorem y183 (R : RMx w g m kq hq ca ba wl ed wad kd hr cp br n ws th mi nd dr me di re) (hn : n ≤ 3) (hJ : gJ w g) {i : Nat} (hi : i < n) (hy : ws i = (ho, po, ch, lo, ac, bu, sl, may, mp)) {c1 : Nat} (hc1 : c1 ≤ 143)  : ∃ w', am_x 183 [.ref m, .int (nI i), .int (nI c1)] w = some (.inl (some (.int (b2i (may c1)))), w') ∧ RM w' g m kd hr cp br n ws 0 mi nd dr me di re ∧ stp 100 800 g g 0 0 w w' := by
  have zW := x99 R (nI i)
  rw [nwk_f hn hi] at zW
  have y1 := fun w => x39 (w := w) (a := 0) (b := 143) (j := c1) (by decide) (Nat.zero_le c1) hc1
  obtain ⟨w1, a1, R1, f1⟩ := x96 R hn false (c := 1) (by decide)
  have a1' : am_x 96 [.ref m, .int (nI 0), .int (nI 1)] w = _ := a1
  have s1 := stp_frm (lo := 100) (hi := 800) hJ f1 (by decide) (by decide)
  have v := x150 (rm_L R1) hn hi
  have hw := rm_get R1 hi hy
  have kw := mk_kf hw
  obtain ⟨ma, mq, cw, hmy, -⟩ := hw
  have rw_ := hmy.at (p := c1) (by omega)
  refine ⟨w1, ?_, ⟨_, _, _, _, _, _, _, R1⟩, s1⟩
  simp only [bk183_0, bk183_6, bk183_20, bk183_9, bk183_25, bk183_17, bk183_29, bk183_24, bk183_55, bk183_32, bk183_36, bk183_40, bk183_43, bk183_46, bk183_48, bk183_51, bx183, zW, y1, rm_kf R, a1, a1', v, kw,  one_0, b2i_0, reduceCtorEq, not_true_eq_false, not_false_eq_true, gfc R1.1, oM_0, oM_1, oM_2, oM_3, oM_4, oM_5, oM_6, oM_7, oM_8, oM_9, oM_10, oM_11, rm_kf R1, rm_lk R1, gfc cw, oK_0, oK_1, oK_2, oK_3, oK_4, oK_5, oK_6, oK_7, oK_8, rw_, Option.bind_some, bct_v, bct_t, otl_s, otl_n, List.cons_append, List.nil_append, List.getElem?_cons_zero, List.getElem?_cons_succ, ↓reduceIte]
  cases may c1 with
  | true => rw [if_neg (fun q => nomatch q)]; exact bk183_56 (by rfl)
  | false => rw [if_pos rfl]; exact bk183_56 (by rfl)

theorem y183a (R : RMx w g m kq hq ca ba wl ed wad kd hr cp br n ws th mi nd dr me di re) (hn : n ≤ 3) (hJ : gJ w g) {z0 : Int32} (hz0 : z0 < nI 0 ∨ nI n ≤ z0) {z1 : Int32} : ∃ w', am_x 183 [.ref m, .int z0, .int z1] w = some (.inl (some (.int (nI 0))), w') ∧ RM w' g m kd hr cp br n ws 1 mi nd dr me di re ∧ stp 100 800 g g 0 0 w w' := by
  have zW := x99 R z0
  rw [nwk_t hn hz0] at zW
  obtain ⟨w1, a1, R1, f1⟩ := x96 R hn true (c := 1) (by decide)
  have a1' : am_x 96 [.ref m, .int (nI 1), .int (nI 1)] w = _ := a1
  refine ⟨w1, ?_, ⟨_, _, _, _, _, _, _, R1⟩, stp_frm hJ f1 (by decide) (by decide)⟩
  simp only [bk183_0, bk183_6, bk183_20, bk183_9, bk183_25, bk183_17, bk183_29, bk183_24, bk183_55, bk183_32, bk183_36, bk183_40, bk183_43, bk183_46, bk183_48, bk183_51, bx183, zW, rm_kf R, a1, a1', one_0, b2i_0, reduceCtorEq, not_true_eq_false, not_false_eq_true, Option.bind_some, bct_v, bct_t, otl_s, otl_n, List.cons_append, List.nil_append, List.getElem?_cons_zero, List.getElem?_cons_succ, ↓reduceIte]
  exact bk183_56 (by rfl)

theorem y183b (R : RMx w g m kq hq ca ba wl ed wad kd hr cp br n ws th mi nd dr me di re) (hn : n ≤ 3) (hJ : gJ w g) {i : Nat} (hi : i < n) {z1 : Int32} (hz1 : z1 < nI 0 ∨ nI 143 < z1) : ∃ w', am_x 183 [.ref m, .int (nI i), .int z1] w = some (.inl (some (.int (nI 0))), w') ∧ RM w' g m kd hr cp br n ws 1 mi nd dr me di re ∧ stp 100 800 g g 0 0 w w' := by
  have zW := x99 R (nI i)
  rw [nwk_f hn hi] at zW
  have y1 := fun w => x39n (w := w) hz1
  obtain ⟨w1, a1, R1, f1⟩ := x96 R hn true (c := 1) (by decide)
  have a1' : am_x 96 [.ref m, .int (nI 1), .int (nI 1)] w = _ := a1
  refine ⟨w1, ?_, ⟨_, _, _, _, _, _, _, R1⟩, stp_frm hJ f1 (by decide) (by decide)⟩
  simp only [bk183_0, bk183_6, bk183_20, bk183_9, bk183_25, bk183_17, bk183_29, bk183_24, bk183_55, bk183_32, bk183_36, bk183_40, bk183_43, bk183_46, bk183_48, bk183_51, bx183, zW, y1, rm_kf R, a1, a1', one_0, b2i_0, reduceCtorEq, not_true_eq_false, not_false_eq_true, Option.bind_some, bct_v, bct_t, otl_s, otl_n, List.cons_append, List.nil_append, List.getElem?_cons_zero, List.getElem?_cons_succ, ↓reduceIte]
  exact bk183_56 (by rfl)

theorem y184 (R : RMx w g m kq hq ca ba wl ed wad kd hr cp br n ws th mi nd dr me di re) (hn : n ≤ 3) (hJ : gJ w g) {i : Nat} (hi : i < n) (hy : ws i = (ho, po, ch, lo, ac, bu, sl, may, mp)) {c1 : Nat} (hc1 : c1 ≤ 3)  : ∃ w', am_x 184 [.ref m, .int (nI i), .int (nI c1)] w = some (.inl (some (.long (whS may c1))), w') ∧ RM w' g m kd hr cp br n ws 0 mi nd dr me di re ∧ stp 100 800 g g 0 0 w w' := by
  have zW := x99 R (nI i)
  rw [nwk_f hn hi] at zW
  have y1 := fun w => x98 (w := w) hc1
  obtain ⟨w1, a1, R1, f1⟩ := x96 R hn false (c := 1) (by decide)
  have a1' : am_x 96 [.ref m, .int (nI 0), .int (nI 1)] w = _ := a1
  obtain ⟨w2, a2, R2, f2⟩ := x40 R1 hn false (c := 2) (by decide)
  have a2' : am_x 40 [.ref m, .int (nI 0), .int (nI 2)] w1 = _ := a2
  have s2 := stp_frm (lo := 100) (hi := 800) hJ (frm_tr f1 f2) (by decide) (by decide)
  have v := x150 (rm_L R2) hn hi
  have hw := rm_get R2 hi hy
  have kw := mk_kf hw
  have q9 := x48 (x := m) hw (f := c1) (by omega)
  refine ⟨w2, ?_, ⟨_, _, _, _, _, _, _, R2⟩, s2⟩
  simp only [bk184_0, bk184_6, bk184_10, bk184_25, bk184_13, bk184_45, bk184_18, bk184_22, bk184_29, bk184_34, bk184_38, bk184_41, bx184, zW, y1, rm_kf R, a1, a1', rm_kf R1, a2, a2', v, kw,  one_0, b2i_0, reduceCtorEq, not_true_eq_false, not_false_eq_true, gfc R2.1, oM_0, oM_1, oM_2, oM_3, oM_4, oM_5, oM_6, oM_7, oM_8, oM_9, oM_10, oM_11, rm_kf R2, rm_lk R2, q9, Option.bind_some, bct_v, bct_t, otl_s, otl_n, List.cons_append, List.nil_append, List.getElem?_cons_zero, List.getElem?_cons_succ, ↓reduceIte]

theorem y184a (R : RMx w g m kq hq ca ba wl ed wad kd hr cp br n ws th mi nd dr me di re) (hn : n ≤ 3) (hJ : gJ w g) {z0 : Int32} (hz0 : z0 < nI 0 ∨ nI n ≤ z0) {z1 : Int32} : ∃ w', am_x 184 [.ref m, .int z0, .int z1] w = some (.inl (some (.long (lN 0))), w') ∧ RM w' g m kd hr cp br n ws 1 mi nd dr me di re ∧ stp 100 800 g g 0 0 w w' := by
  have zW := x99 R z0
  rw [nwk_t hn hz0] at zW
  obtain ⟨w1, a1, R1, f1⟩ := x96 R hn true (c := 1) (by decide)
  have a1' : am_x 96 [.ref m, .int (nI 1), .int (nI 1)] w = _ := a1
  refine ⟨w1, ?_, ⟨_, _, _, _, _, _, _, R1⟩, stp_frm hJ f1 (by decide) (by decide)⟩
  simp only [bk184_0, bk184_6, bk184_10, bk184_25, bk184_13, bk184_45, bk184_18, bk184_22, bk184_29, bk184_34, bk184_38, bk184_41, bx184, zW, rm_kf R, a1, a1', one_0, b2i_0, reduceCtorEq, not_true_eq_false, not_false_eq_true, Option.bind_some, bct_v, bct_t, otl_s, otl_n, List.cons_append, List.nil_append, List.getElem?_cons_zero, List.getElem?_cons_succ, ↓reduceIte]

theorem y184b (R : RMx w g m kq hq ca ba wl ed wad kd hr cp br n ws th mi nd dr me di re) (hn : n ≤ 3) (hJ : gJ w g) {i : Nat} (hi : i < n) {z1 : Int32} (hz1 : z1 < nI 0 ∨ nI 3 < z1) : ∃ w', am_x 184 [.ref m, .int (nI i), .int z1] w = some (.inl (some (.long (lN 0))), w') ∧ RM w' g m kd hr cp br n ws 2 mi nd dr me di re ∧ stp 100 800 g g 0 0 w w' := by
  have zW := x99 R (nI i)
  rw [nwk_f hn hi] at zW
  have y1 := fun w => x98n (w := w) hz1
  obtain ⟨w1, a1, R1, f1⟩ := x96 R hn false (c := 1) (by decide)
  have a1' : am_x 96 [.ref m, .int (nI 0), .int (nI 1)] w = _ := a1
  obtain ⟨w2, a2, R2, f2⟩ := x40 R1 hn true (c := 2) (by decide)
  have a2' : am_x 40 [.ref m, .int (nI 1), .int (nI 2)] w1 = _ := a2
  refine ⟨w2, ?_, ⟨_, _, _, _, _, _, _, R2⟩, stp_frm hJ (frm_tr f1 f2) (by decide) (by decide)⟩
  simp only [bk184_0, bk184_6, bk184_10, bk184_25, bk184_13, bk184_45, bk184_18, bk184_22, bk184_29, bk184_34, bk184_38, bk184_41, bx184, zW, y1, rm_kf R, a1, a1', rm_kf R1, a2, a2', one_0, b2i_0, reduceCtorEq, not_true_eq_false, not_false_eq_true, Option.bind_some, bct_v, bct_t, otl_s, otl_n, List.cons_append, List.nil_append, List.getElem?_cons_zero, List.getElem?_cons_succ, ↓reduceIte]

theorem y185 (R : RMx w g m kq hq ca ba wl ed wad kd hr cp br n ws th mi nd dr me di re) (hn : n ≤ 3) (hJ : gJ w g) {i : Nat} (hi : i < n) (hy : ws i = (ho, po, ch, lo, ac, bu, sl, may, mp))  : ∃ w', am_x 185 [.ref m, .int (nI i)] w = some (.inl (some (.double (dbtS may))), w') ∧ RM w' g m kd hr cp br n ws 0 mi nd dr me di re ∧ stp 100 800 g g 0 0 w w' := by
  have zW := x99 R (nI i)
  rw [nwk_f hn hi] at zW
  obtain ⟨w1, a1, R1, f1⟩ := x96 R hn false (c := 1) (by decide)
  have a1' : am_x 96 [.ref m, .int (nI 0), .int (nI 1)] w = _ := a1
  have s1 := stp_frm (lo := 100) (hi := 800) hJ f1 (by decide) (by decide)
  have v := x150 (rm_L R1) hn hi
  have hw := rm_get R1 hi hy
  have kw := mk_kf hw
  have q9 := x49 (x := m) hw
  refine ⟨w1, ?_, ⟨_, _, _, _, _, _, _, R1⟩, s1⟩
  simp only [bk185_0, bk185_6, bk185_10, bk185_17, bk185_13, bk185_22, bk185_32, bk185_26, bk185_29, bx185, zW, rm_kf R, a1, a1', v, kw,  one_0, b2i_0, reduceCtorEq, not_true_eq_false, not_false_eq_true, gfc R1.1, oM_0, oM_1, oM_2, oM_3, oM_4, oM_5, oM_6, oM_7, oM_8, oM_9, oM_10, oM_11, rm_kf R1, rm_lk R1, q9, Option.bind_some, bct_v, bct_t, otl_s, otl_n, List.cons_append, List.nil_append, List.getElem?_cons_zero, List.getElem?_cons_succ, ↓reduceIte]

theorem y185a (R : RMx w g m kq hq ca ba wl ed wad kd hr cp br n ws th mi nd dr me di re) (hn : n ≤ 3) (hJ : gJ w g) {z0 : Int32} (hz0 : z0 < nI 0 ∨ nI n ≤ z0) : ∃ w', am_x 185 [.ref m, .int z0] w = some (.inl (some (.double FP.dconst0)), w') ∧ RM w' g m kd hr cp br n ws 1 mi nd dr me di re ∧ stp 100 800 g g 0 0 w w' := by
  have zW := x99 R z0
  rw [nwk_t hn hz0] at zW
  obtain ⟨w1, a1, R1, f1⟩ := x96 R hn true (c := 1) (by decide)
  have a1' : am_x 96 [.ref m, .int (nI 1), .int (nI 1)] w = _ := a1
  refine ⟨w1, ?_, ⟨_, _, _, _, _, _, _, R1⟩, stp_frm hJ f1 (by decide) (by decide)⟩
  simp only [bk185_0, bk185_6, bk185_10, bk185_17, bk185_13, bk185_22, bk185_32, bk185_26, bk185_29, bx185, zW, rm_kf R, a1, a1', one_0, b2i_0, reduceCtorEq, not_true_eq_false, not_false_eq_true, Option.bind_some, bct_v, bct_t, otl_s, otl_n, List.cons_append, List.nil_append, List.getElem?_cons_zero, List.getElem?_cons_succ, ↓reduceIte]

theorem y212 (R : RMx w g m kq hq ca ba wl ed wad kd hr cp br n ws th mi nd dr me di re) (hn : n ≤ 3) (hJ : gJ w g) {c0 : Nat} (hc0 : c0 ≤ 35) {c1 : Nat} (hc1 : c1 ≤ 3) {c2 : Nat} (hc2 : c2 ≤ 2) (hk : kdok kd) (hh : hrok hr) (hm : mi ≤ 3000) : ∃ w', am_x 212 [.ref m, .int (nI c0), .int (nI c1), .int (nI c2)] w = some (.inl (some (.int (edgS kd hr mi c0 c1 c2))), w') ∧ RM w' g m kd hr cp br n ws 0 mi nd dr me di re ∧ stp 100 800 g g 1 3 w w' := by
  have y0 := fun w => x97 (w := w) hc0
  have y1 := fun w => x98 (w := w) hc1
  have y2 := fun w => x39 (w := w) (a := 0) (b := 2) (j := c2) (by decide) (Nat.zero_le c2) hc2
  obtain ⟨w1, a1, R1, f1⟩ := x96 R hn false (c := 1) (by decide)
  have a1' : am_x 96 [.ref m, .int (nI 0), .int (nI 1)] w = _ := a1
  obtain ⟨w2, a2, R2, f2⟩ := x40 R1 hn false (c := 2) (by decide)
  have a2' : am_x 40 [.ref m, .int (nI 0), .int (nI 2)] w1 = _ := a2
  have s2 := stp_frm (lo := 100) (hi := 800) hJ (frm_tr f1 f2) (by decide) (by decide)
  obtain ⟨w9, q9, e9⟩ := x181 R2 (stp_J s2) hn hk hh hm (c := c0) (s := c1) (by omega) (by omega) hc2
  have R9 := rm_ext R2 hn (stp_J s2) e9
  refine ⟨w9, ?_, ⟨_, _, _, _, _, _, _, R9⟩, stp_wk (stp_tr s2 (stp_ext (stp_J s2) e9)) (by omega) (by omega)⟩
  simp only [bk212_0, bk212_5, bk212_15, bk212_8, bk212_20, bk212_12, bk212_24, bk212_19, bk212_49, bk212_27, bk212_60, bk212_34, bk212_41, bk212_37, bk212_42, bk212_46, bk212_53, bx212, y0, y1, y2, rm_kf R, a1, a1', rm_kf R1, a2, a2',  one_0, b2i_0, reduceCtorEq, not_true_eq_false, not_false_eq_true, gfc R2.1, oM_0, oM_1, oM_2, oM_3, oM_4, oM_5, oM_6, oM_7, oM_8, oM_9, oM_10, oM_11, rm_kf R2, rm_lk R2, q9, Option.bind_some, bct_v, bct_t, otl_s, otl_n, List.cons_append, List.nil_append, List.getElem?_cons_zero, List.getElem?_cons_succ, ↓reduceIte]

theorem y212a (R : RMx w g m kq hq ca ba wl ed wad kd hr cp br n ws th mi nd dr me di re) (hn : n ≤ 3) (hJ : gJ w g) {z0 : Int32} (hz0 : z0 < nI 0 ∨ nI 35 < z0) {z1 : Int32} {z2 : Int32} : ∃ w', am_x 212 [.ref m, .int z0, .int z1, .int z2] w = some (.inl (some (.int (nI 0))), w') ∧ RM w' g m kd hr cp br n ws 1 mi nd dr me di re ∧ stp 100 800 g g 0 0 w w' := by
  have y0 := fun w => x97n (w := w) hz0
  obtain ⟨w1, a1, R1, f1⟩ := x96 R hn true (c := 1) (by decide)
  have a1' : am_x 96 [.ref m, .int (nI 1), .int (nI 1)] w = _ := a1
  refine ⟨w1, ?_, ⟨_, _, _, _, _, _, _, R1⟩, stp_frm hJ f1 (by decide) (by decide)⟩
  simp only [bk212_0, bk212_5, bk212_15, bk212_8, bk212_20, bk212_12, bk212_24, bk212_19, bk212_49, bk212_27, bk212_60, bk212_34, bk212_41, bk212_37, bk212_42, bk212_46, bk212_53, bx212, y0, rm_kf R, a1, a1', one_0, b2i_0, reduceCtorEq, not_true_eq_false, not_false_eq_true, Option.bind_some, bct_v, bct_t, otl_s, otl_n, List.cons_append, List.nil_append, List.getElem?_cons_zero, List.getElem?_cons_succ, ↓reduceIte]

theorem y212b (R : RMx w g m kq hq ca ba wl ed wad kd hr cp br n ws th mi nd dr me di re) (hn : n ≤ 3) (hJ : gJ w g) {c0 : Nat} (hc0 : c0 ≤ 35) {z1 : Int32} (hz1 : z1 < nI 0 ∨ nI 3 < z1) {z2 : Int32} : ∃ w', am_x 212 [.ref m, .int (nI c0), .int z1, .int z2] w = some (.inl (some (.int (nI 0))), w') ∧ RM w' g m kd hr cp br n ws 1 mi nd dr me di re ∧ stp 100 800 g g 0 0 w w' := by
  have y0 := fun w => x97 (w := w) hc0
  have y1 := fun w => x98n (w := w) hz1
  obtain ⟨w1, a1, R1, f1⟩ := x96 R hn true (c := 1) (by decide)
  have a1' : am_x 96 [.ref m, .int (nI 1), .int (nI 1)] w = _ := a1
  refine ⟨w1, ?_, ⟨_, _, _, _, _, _, _, R1⟩, stp_frm hJ f1 (by decide) (by decide)⟩
  simp only [bk212_0, bk212_5, bk212_15, bk212_8, bk212_20, bk212_12, bk212_24, bk212_19, bk212_49, bk212_27, bk212_60, bk212_34, bk212_41, bk212_37, bk212_42, bk212_46, bk212_53, bx212, y0, y1, rm_kf R, a1, a1', one_0, b2i_0, reduceCtorEq, not_true_eq_false, not_false_eq_true, Option.bind_some, bct_v, bct_t, otl_s, otl_n, List.cons_append, List.nil_append, List.getElem?_cons_zero, List.getElem?_cons_succ, ↓reduceIte]

theorem y212c (R : RMx w g m kq hq ca ba wl ed wad kd hr cp br n ws th mi nd dr me di re) (hn : n ≤ 3) (hJ : gJ w g) {c0 : Nat} (hc0 : c0 ≤ 35) {c1 : Nat} (hc1 : c1 ≤ 3) {z2 : Int32} (hz2 : z2 < nI 0 ∨ nI 2 < z2) : ∃ w', am_x 212 [.ref m, .int (nI c0), .int (nI c1), .int z2] w = some (.inl (some (.int (nI 0))), w') ∧ RM w' g m kd hr cp br n ws 2 mi nd dr me di re ∧ stp 100 800 g g 0 0 w w' := by
  have y0 := fun w => x97 (w := w) hc0
  have y1 := fun w => x98 (w := w) hc1
  have y2 := fun w => x39n (w := w) hz2
  obtain ⟨w1, a1, R1, f1⟩ := x96 R hn false (c := 1) (by decide)
  have a1' : am_x 96 [.ref m, .int (nI 0), .int (nI 1)] w = _ := a1
  obtain ⟨w2, a2, R2, f2⟩ := x40 R1 hn true (c := 2) (by decide)
  have a2' : am_x 40 [.ref m, .int (nI 1), .int (nI 2)] w1 = _ := a2
  refine ⟨w2, ?_, ⟨_, _, _, _, _, _, _, R2⟩, stp_frm hJ (frm_tr f1 f2) (by decide) (by decide)⟩
  simp only [bk212_0, bk212_5, bk212_15, bk212_8, bk212_20, bk212_12, bk212_24, bk212_19, bk212_49, bk212_27, bk212_60, bk212_34, bk212_41, bk212_37, bk212_42, bk212_46, bk212_53, bx212, y0, y1, y2, rm_kf R, a1, a1', rm_kf R1, a2, a2', one_0, b2i_0, reduceCtorEq, not_true_eq_false, not_false_eq_true, Option.bind_some, bct_v, bct_t, otl_s, otl_n, List.cons_append, List.nil_append, List.getElem?_cons_zero, List.getElem?_cons_succ, ↓reduceIte]

theorem y214 (R : RMx w g m kq hq ca ba wl ed wad kd hr cp br n ws th mi nd dr me di re) (hn : n ≤ 3) (hJ : gJ w g) {i : Nat} (hi : i < n) (hy : ws i = (ho, po, ch, lo, ac, bu, sl, may, mp)) {c1 : Nat} (hc1 : c1 ≤ 35) {c2 : Nat} (hc2 : c2 ≤ 3)  : ∃ w', am_x 214 [.ref m, .int (nI i), .int (nI c1), .int (nI c2)] w = some (.inl (some (.int (nI (kno mp c1 c2)))), w') ∧ RM w' g m kd hr cp br n ws 0 mi nd dr me di re ∧ stp 100 800 g g 0 0 w w' := by
  have zW := x99 R (nI i)
  rw [nwk_f hn hi] at zW
  have y1 := fun w => x97 (w := w) hc1
  have y2 := fun w => x98 (w := w) hc2
  obtain ⟨w1, a1, R1, f1⟩ := x96 R hn false (c := 1) (by decide)
  have a1' : am_x 96 [.ref m, .int (nI 0), .int (nI 1)] w = _ := a1
  have s1 := stp_frm (lo := 100) (hi := 800) hJ f1 (by decide) (by decide)
  have v := x150 (rm_L R1) hn hi
  have hw := rm_get R1 hi hy
  have kw := mk_kf hw
  have q9 := x174 hw (c := c1) (s := c2) (by omega) (by omega)
  refine ⟨w1, ?_, ⟨_, _, _, _, _, _, _, R1⟩, s1⟩
  simp only [bk214_0, bk214_6, bk214_23, bk214_9, bk214_28, bk214_13, bk214_32, bk214_16, bk214_39, bk214_35, bk214_20, bk214_43, bk214_55, bk214_27, bk214_47, bk214_50, bx214, zW, y1, y2, rm_kf R, a1, a1', v, kw,  one_0, b2i_0, reduceCtorEq, not_true_eq_false, not_false_eq_true, gfc R1.1, oM_0, oM_1, oM_2, oM_3, oM_4, oM_5, oM_6, oM_7, oM_8, oM_9, oM_10, oM_11, rm_kf R1, rm_lk R1, q9, Option.bind_some, bct_v, bct_t, otl_s, otl_n, List.cons_append, List.nil_append, List.getElem?_cons_zero, List.getElem?_cons_succ, ↓reduceIte]

theorem y214a (R : RMx w g m kq hq ca ba wl ed wad kd hr cp br n ws th mi nd dr me di re) (hn : n ≤ 3) (hJ : gJ w g) {z0 : Int32} (hz0 : z0 < nI 0 ∨ nI n ≤ z0) {z1 : Int32} {z2 : Int32} : ∃ w', am_x 214 [.ref m, .int z0, .int z1, .int z2] w = some (.inl (some (.int (nI 0))), w') ∧ RM w' g m kd hr cp br n ws 1 mi nd dr me di re ∧ stp 100 800 g g 0 0 w w' := by
  have zW := x99 R z0
  rw [nwk_t hn hz0] at zW
  obtain ⟨w1, a1, R1, f1⟩ := x96 R hn true (c := 1) (by decide)
  have a1' : am_x 96 [.ref m, .int (nI 1), .int (nI 1)] w = _ := a1
  refine ⟨w1, ?_, ⟨_, _, _, _, _, _, _, R1⟩, stp_frm hJ f1 (by decide) (by decide)⟩
  simp only [bk214_0, bk214_6, bk214_23, bk214_9, bk214_28, bk214_13, bk214_32, bk214_16, bk214_39, bk214_35, bk214_20, bk214_43, bk214_55, bk214_27, bk214_47, bk214_50, bx214, zW, rm_kf R, a1, a1', one_0, b2i_0, reduceCtorEq, not_true_eq_false, not_false_eq_true, Option.bind_some, bct_v, bct_t, otl_s, otl_n, List.cons_append, List.nil_append, List.getElem?_cons_zero, List.getElem?_cons_succ, ↓reduceIte]

theorem y214b (R : RMx w g m kq hq ca ba wl ed wad kd hr cp br n ws th mi nd dr me di re) (hn : n ≤ 3) (hJ : gJ w g) {i : Nat} (hi : i < n) {z1 : Int32} (hz1 : z1 < nI 0 ∨ nI 35 < z1) {z2 : Int32} : ∃ w', am_x 214 [.ref m, .int (nI i), .int z1, .int z2] w = some (.inl (some (.int (nI 0))), w') ∧ RM w' g m kd hr cp br n ws 1 mi nd dr me di re ∧ stp 100 800 g g 0 0 w w' := by
  have zW := x99 R (nI i)
  rw [nwk_f hn hi] at zW
  have y1 := fun w => x97n (w := w) hz1
  obtain ⟨w1, a1, R1, f1⟩ := x96 R hn true (c := 1) (by decide)
  have a1' : am_x 96 [.ref m, .int (nI 1), .int (nI 1)] w = _ := a1
  refine ⟨w1, ?_, ⟨_, _, _, _, _, _, _, R1⟩, stp_frm hJ f1 (by decide) (by decide)⟩
  simp only [bk214_0, bk214_6, bk214_23, bk214_9, bk214_28, bk214_13, bk214_32, bk214_16, bk214_39, bk214_35, bk214_20, bk214_43, bk214_55, bk214_27, bk214_47, bk214_50, bx214, zW, y1, rm_kf R, a1, a1', one_0, b2i_0, reduceCtorEq, not_true_eq_false, not_false_eq_true, Option.bind_some, bct_v, bct_t, otl_s, otl_n, List.cons_append, List.nil_append, List.getElem?_cons_zero, List.getElem?_cons_succ, ↓reduceIte]

theorem y214c (R : RMx w g m kq hq ca ba wl ed wad kd hr cp br n ws th mi nd dr me di re) (hn : n ≤ 3) (hJ : gJ w g) {i : Nat} (hi : i < n) {c1 : Nat} (hc1 : c1 ≤ 35) {z2 : Int32} (hz2 : z2 < nI 0 ∨ nI 3 < z2) : ∃ w', am_x 214 [.ref m, .int (nI i), .int (nI c1), .int z2] w = some (.inl (some (.int (nI 0))), w') ∧ RM w' g m kd hr cp br n ws 1 mi nd dr me di re ∧ stp 100 800 g g 0 0 w w' := by
  have zW := x99 R (nI i)
  rw [nwk_f hn hi] at zW
  have y1 := fun w => x97 (w := w) hc1
  have y2 := fun w => x98n (w := w) hz2
  obtain ⟨w1, a1, R1, f1⟩ := x96 R hn true (c := 1) (by decide)
  have a1' : am_x 96 [.ref m, .int (nI 1), .int (nI 1)] w = _ := a1
  refine ⟨w1, ?_, ⟨_, _, _, _, _, _, _, R1⟩, stp_frm hJ f1 (by decide) (by decide)⟩
  simp only [bk214_0, bk214_6, bk214_23, bk214_9, bk214_28, bk214_13, bk214_32, bk214_16, bk214_39, bk214_35, bk214_20, bk214_43, bk214_55, bk214_27, bk214_47, bk214_50, bx214, zW, y1, y2, rm_kf R, a1, a1', one_0, b2i_0, reduceCtorEq, not_true_eq_false, not_false_eq_true, Option.bind_some, bct_v, bct_t, otl_s, otl_n, List.cons_append, List.nil_append, List.getElem?_cons_zero, List.getElem?_cons_succ, ↓reduceIte]

theorem y227 (R : RMx w g m kq hq ca ba wl ed wad kd hr cp br n ws th mi nd dr me di re) (hn : n ≤ 3) (hJ : gJ w g) {c0 : Nat} (hc0 : c0 ≤ 11) (hk : kdok kd) (hh : hrok hr) (hm : mi ≤ 3000) : ∃ w', am_x 227 [.ref m, .int (nI c0)] w = some (.inl (some (.int (hsR kd hr cp br n mi dr me di re c0))), w') ∧ RM w' g m kd hr cp br n ws 0 mi nd dr me di re ∧ stp 100 800 g g 1 12 w w' := by
  have y0 := fun w => x39 (w := w) (a := 0) (b := 11) (j := c0) (by decide) (Nat.zero_le c0) hc0
  obtain ⟨w1, a1, R1, f1⟩ := x96 R hn false (c := 1) (by decide)
  have a1' : am_x 96 [.ref m, .int (nI 0), .int (nI 1)] w = _ := a1
  have s1 := stp_frm (lo := 100) (hi := 800) hJ f1 (by decide) (by decide)
  obtain ⟨w9, q9, e9⟩ := x213 R1 (stp_J s1) hn hk hh hm hc0
  have R9 := rm_ext R1 hn (stp_J s1) e9
  refine ⟨w9, ?_, ⟨_, _, _, _, _, _, _, R9⟩, stp_wk (stp_tr s1 (stp_ext (stp_J s1) e9)) (by omega) (by omega)⟩
  simp only [bk227_0, bk227_8, bk227_15, bk227_11, bk227_16, bk227_20, bk227_27, bk227_23, bk227_32, bx227, y0, rm_kf R, a1, a1',  one_0, b2i_0, reduceCtorEq, not_true_eq_false, not_false_eq_true, gfc R1.1, oM_0, oM_1, oM_2, oM_3, oM_4, oM_5, oM_6, oM_7, oM_8, oM_9, oM_10, oM_11, rm_kf R1, rm_lk R1, q9, Option.bind_some, bct_v, bct_t, otl_s, otl_n, List.cons_append, List.nil_append, List.getElem?_cons_zero, List.getElem?_cons_succ, ↓reduceIte]

theorem y227a (R : RMx w g m kq hq ca ba wl ed wad kd hr cp br n ws th mi nd dr me di re) (hn : n ≤ 3) (hJ : gJ w g) {z0 : Int32} (hz0 : z0 < nI 0 ∨ nI 11 < z0) : ∃ w', am_x 227 [.ref m, .int z0] w = some (.inl (some (.int (nI 0))), w') ∧ RM w' g m kd hr cp br n ws 1 mi nd dr me di re ∧ stp 100 800 g g 0 0 w w' := by
  have y0 := fun w => x39n (w := w) hz0
  obtain ⟨w1, a1, R1, f1⟩ := x96 R hn true (c := 1) (by decide)
  have a1' : am_x 96 [.ref m, .int (nI 1), .int (nI 1)] w = _ := a1
  refine ⟨w1, ?_, ⟨_, _, _, _, _, _, _, R1⟩, stp_frm hJ f1 (by decide) (by decide)⟩
  simp only [bk227_0, bk227_8, bk227_15, bk227_11, bk227_16, bk227_20, bk227_27, bk227_23, bk227_32, bx227, y0, rm_kf R, a1, a1', one_0, b2i_0, reduceCtorEq, not_true_eq_false, not_false_eq_true, Option.bind_some, bct_v, bct_t, otl_s, otl_n, List.cons_append, List.nil_append, List.getElem?_cons_zero, List.getElem?_cons_succ, ↓reduceIte]

theorem x208e {a f x : Nat} (hJ : gJ w g) (hp : mpo mp) (h : Mkv w g i a (ho, po, ch, lo, ac, bu, sl, may, mp)) (hf : f < 36) : ∃ w', am_x 208 [.ref x, .ref a, .int (nI f)] w = some (.inl (some (.ref w.2.1)), w') ∧ ext w w' 1 36 ∧ ∀ c, c < 36 → am_ri 0 w' w.2.1 (nI c) = some (no (wayS mp f c)) := by
  obtain ⟨M, k1, k2⟩ := x208 hJ hp h (f := f) (x := x) hf
  refine ⟨nwr w 0 36 M, k2, nwr_ext, fun c hc => ?_⟩
  have r := ric (nwr_at (w := w) (t := 0) (n := 36) (M := M)) (i := c) rfl hc (by decide)
  rw [k1 c hc] at r
  exact r

theorem y228 (R : RMx w g m kq hq ca ba wl ed wad kd hr cp br n ws th mi nd dr me di re) (hn : n ≤ 3) (hJ : gJ w g) {i : Nat} (hi : i < n) (hy : ws i = (ho, po, ch, lo, ac, bu, sl, may, mp)) {c1 : Nat} (hc1 : c1 ≤ 35) {c2 : Nat} (hc2 : c2 ≤ 35) (hp : mpo mp) : ∃ w', am_x 228 [.ref m, .int (nI i), .int (nI c1), .int (nI c2)] w = some (.inl (some (.int (no (wayS mp c1 c2)))), w') ∧ RM w' g m kd hr cp br n ws 0 mi nd dr me di re ∧ stp 100 800 g g 1 36 w w' := by
  have zW := x99 R (nI i)
  rw [nwk_f hn hi] at zW
  have y1 := fun w => x97 (w := w) hc1
  have y2 := fun w => x97 (w := w) hc2
  obtain ⟨w1, a1, R1, f1⟩ := x96 R hn false (c := 1) (by decide)
  have a1' : am_x 96 [.ref m, .int (nI 0), .int (nI 1)] w = _ := a1
  have s1 := stp_frm (lo := 100) (hi := 800) hJ f1 (by decide) (by decide)
  have v := x150 (rm_L R1) hn hi
  have hw := rm_get R1 hi hy
  have kw := mk_kf hw
  obtain ⟨w9, q9, e9, r9⟩ := x208e (stp_J s1) hp hw (f := c1) (x := m) (by omega)
  have R9 := rm_ext R1 hn (stp_J s1) e9
  refine ⟨w9, ?_, ⟨_, _, _, _, _, _, _, R9⟩, stp_wk (stp_tr s1 (stp_ext (stp_J s1) e9)) (by omega) (by omega)⟩
  simp only [bk228_0, bk228_6, bk228_23, bk228_9, bk228_28, bk228_13, bk228_32, bk228_16, bk228_39, bk228_35, bk228_20, bk228_44, bk228_57, bk228_27, bk228_48, bk228_51, bk228_55, bx228, zW, y1, y2, rm_kf R, a1, a1', v, kw,  one_0, b2i_0, reduceCtorEq, not_true_eq_false, not_false_eq_true, gfc R1.1, oM_0, oM_1, oM_2, oM_3, oM_4, oM_5, oM_6, oM_7, oM_8, oM_9, oM_10, oM_11, rm_kf R1, rm_lk R1, q9, r9 c2 (by omega), Option.bind_some, bct_v, bct_t, otl_s, otl_n, List.cons_append, List.nil_append, List.getElem?_cons_zero, List.getElem?_cons_succ, ↓reduceIte]

theorem y228a (R : RMx w g m kq hq ca ba wl ed wad kd hr cp br n ws th mi nd dr me di re) (hn : n ≤ 3) (hJ : gJ w g) {z0 : Int32} (hz0 : z0 < nI 0 ∨ nI n ≤ z0) {z1 : Int32} {z2 : Int32} : ∃ w', am_x 228 [.ref m, .int z0, .int z1, .int z2] w = some (.inl (some (.int (nI 0))), w') ∧ RM w' g m kd hr cp br n ws 1 mi nd dr me di re ∧ stp 100 800 g g 0 0 w w' := by
  have zW := x99 R z0
  rw [nwk_t hn hz0] at zW
  obtain ⟨w1, a1, R1, f1⟩ := x96 R hn true (c := 1) (by decide)
  have a1' : am_x 96 [.ref m, .int (nI 1), .int (nI 1)] w = _ := a1
  refine ⟨w1, ?_, ⟨_, _, _, _, _, _, _, R1⟩, stp_frm hJ f1 (by decide) (by decide)⟩
  simp only [bk228_0, bk228_6, bk228_23, bk228_9, bk228_28, bk228_13, bk228_32, bk228_16, bk228_39, bk228_35, bk228_20, bk228_44, bk228_57, bk228_27, bk228_48, bk228_51, bk228_55, bx228, zW, rm_kf R, a1, a1', one_0, b2i_0, reduceCtorEq, not_true_eq_false, not_false_eq_true, Option.bind_some, bct_v, bct_t, otl_s, otl_n, List.cons_append, List.nil_append, List.getElem?_cons_zero, List.getElem?_cons_succ, ↓reduceIte]

theorem y228b (R : RMx w g m kq hq ca ba wl ed wad kd hr cp br n ws th mi nd dr me di re) (hn : n ≤ 3) (hJ : gJ w g) {i : Nat} (hi : i < n) {z1 : Int32} (hz1 : z1 < nI 0 ∨ nI 35 < z1) {z2 : Int32} : ∃ w', am_x 228 [.ref m, .int (nI i), .int z1, .int z2] w = some (.inl (some (.int (nI 0))), w') ∧ RM w' g m kd hr cp br n ws 1 mi nd dr me di re ∧ stp 100 800 g g 0 0 w w' := by
  have zW := x99 R (nI i)
  rw [nwk_f hn hi] at zW
  have y1 := fun w => x97n (w := w) hz1
  obtain ⟨w1, a1, R1, f1⟩ := x96 R hn true (c := 1) (by decide)
  have a1' : am_x 96 [.ref m, .int (nI 1), .int (nI 1)] w = _ := a1
  refine ⟨w1, ?_, ⟨_, _, _, _, _, _, _, R1⟩, stp_frm hJ f1 (by decide) (by decide)⟩
  simp only [bk228_0, bk228_6, bk228_23, bk228_9, bk228_28, bk228_13, bk228_32, bk228_16, bk228_39, bk228_35, bk228_20, bk228_44, bk228_57, bk228_27, bk228_48, bk228_51, bk228_55, bx228, zW, y1, rm_kf R, a1, a1', one_0, b2i_0, reduceCtorEq, not_true_eq_false, not_false_eq_true, Option.bind_some, bct_v, bct_t, otl_s, otl_n, List.cons_append, List.nil_append, List.getElem?_cons_zero, List.getElem?_cons_succ, ↓reduceIte]

theorem y228c (R : RMx w g m kq hq ca ba wl ed wad kd hr cp br n ws th mi nd dr me di re) (hn : n ≤ 3) (hJ : gJ w g) {i : Nat} (hi : i < n) {c1 : Nat} (hc1 : c1 ≤ 35) {z2 : Int32} (hz2 : z2 < nI 0 ∨ nI 35 < z2) : ∃ w', am_x 228 [.ref m, .int (nI i), .int (nI c1), .int z2] w = some (.inl (some (.int (nI 0))), w') ∧ RM w' g m kd hr cp br n ws 1 mi nd dr me di re ∧ stp 100 800 g g 0 0 w w' := by
  have zW := x99 R (nI i)
  rw [nwk_f hn hi] at zW
  have y1 := fun w => x97 (w := w) hc1
  have y2 := fun w => x97n (w := w) hz2
  obtain ⟨w1, a1, R1, f1⟩ := x96 R hn true (c := 1) (by decide)
  have a1' : am_x 96 [.ref m, .int (nI 1), .int (nI 1)] w = _ := a1
  refine ⟨w1, ?_, ⟨_, _, _, _, _, _, _, R1⟩, stp_frm hJ f1 (by decide) (by decide)⟩
  simp only [bk228_0, bk228_6, bk228_23, bk228_9, bk228_28, bk228_13, bk228_32, bk228_16, bk228_39, bk228_35, bk228_20, bk228_44, bk228_57, bk228_27, bk228_48, bk228_51, bk228_55, bx228, zW, y1, y2, rm_kf R, a1, a1', one_0, b2i_0, reduceCtorEq, not_true_eq_false, not_false_eq_true, Option.bind_some, bct_v, bct_t, otl_s, otl_n, List.cons_append, List.nil_append, List.getElem?_cons_zero, List.getElem?_cons_succ, ↓reduceIte]

theorem x211e {a t : Nat} (hJ : gJ w g) (hp : mpo mp) (h : Mkv w g i a (ho, po, ch, lo, ac, bu, sl, may, mp)) (ht : t < 8) : ∃ w', am_x 211 [.ref a, .int (nI t)] w = some (.inl (some (.ref w.2.1)), w') ∧ ext w w' 1 144 ∧ am_x 44 [.ref w.2.1] w' = some (.inl (some (.int (nI (cnt 144 (mayL may mp t))))), w') := by
  obtain ⟨F, f1, f2⟩ := x211 hJ hp h ht
  exact ⟨nwr w 2 144 F, f2, nwr_ext, all_nwr f1⟩

theorem y231 (R : RMx w g m kq hq ca ba wl ed wad kd hr cp br n ws th mi nd dr me di re) (hn : n ≤ 3) (hJ : gJ w g) {i : Nat} (hi : i < n) (hy : ws i = (ho, po, ch, lo, ac, bu, sl, may, mp)) {c1 : Nat} (hc1 : c1 ≤ 7) (hp : mpo mp) : ∃ w', am_x 231 [.ref m, .int (nI i), .int (nI c1)] w = some (.inl (some (.int (nI (cnt 144 (mayL may mp c1))))), w') ∧ RM w' g m kd hr cp br n ws 0 mi nd dr me di re ∧ stp 100 800 g g 1 144 w w' := by
  have zW := x99 R (nI i)
  rw [nwk_f hn hi] at zW
  have y1 := fun w => x39 (w := w) (a := 0) (b := 7) (j := c1) (by decide) (Nat.zero_le c1) hc1
  obtain ⟨w1, a1, R1, f1⟩ := x96 R hn false (c := 1) (by decide)
  have a1' : am_x 96 [.ref m, .int (nI 0), .int (nI 1)] w = _ := a1
  obtain ⟨w2, a2, R2, f2⟩ := x40 R1 hn false (c := 2) (by decide)
  have a2' : am_x 40 [.ref m, .int (nI 0), .int (nI 2)] w1 = _ := a2
  have s2 := stp_frm (lo := 100) (hi := 800) hJ (frm_tr f1 f2) (by decide) (by decide)
  have v := x150 (rm_L R2) hn hi
  have hw := rm_get R2 hi hy
  have kw := mk_kf hw
  obtain ⟨w9, q9, e9, r9⟩ := x211e (stp_J s2) hp hw (t := c1) (by omega)
  have R9 := rm_ext R2 hn (stp_J s2) e9
  refine ⟨w9, ?_, ⟨_, _, _, _, _, _, _, R9⟩, stp_wk (stp_tr s2 (stp_ext (stp_J s2) e9)) (by omega) (by omega)⟩
  simp only [bk231_0, bk231_6, bk231_10, bk231_36, bk231_13, bk231_58, bk231_21, bk231_28, bk231_24, bk231_29, bk231_33, bk231_40, bk231_44, bk231_48, bk231_51, bk231_55, bx231, zW, y1, rm_kf R, a1, a1', rm_kf R1, a2, a2', v, kw,  one_0, b2i_0, reduceCtorEq, not_true_eq_false, not_false_eq_true, gfc R2.1, oM_0, oM_1, oM_2, oM_3, oM_4, oM_5, oM_6, oM_7, oM_8, oM_9, oM_10, oM_11, rm_kf R2, rm_lk R2, q9, r9, Option.bind_some, bct_v, bct_t, otl_s, otl_n, List.cons_append, List.nil_append, List.getElem?_cons_zero, List.getElem?_cons_succ, ↓reduceIte]

theorem y231a (R : RMx w g m kq hq ca ba wl ed wad kd hr cp br n ws th mi nd dr me di re) (hn : n ≤ 3) (hJ : gJ w g) {z0 : Int32} (hz0 : z0 < nI 0 ∨ nI n ≤ z0) {z1 : Int32} : ∃ w', am_x 231 [.ref m, .int z0, .int z1] w = some (.inl (some (.int (nI 0))), w') ∧ RM w' g m kd hr cp br n ws 1 mi nd dr me di re ∧ stp 100 800 g g 0 0 w w' := by
  have zW := x99 R z0
  rw [nwk_t hn hz0] at zW
  obtain ⟨w1, a1, R1, f1⟩ := x96 R hn true (c := 1) (by decide)
  have a1' : am_x 96 [.ref m, .int (nI 1), .int (nI 1)] w = _ := a1
  refine ⟨w1, ?_, ⟨_, _, _, _, _, _, _, R1⟩, stp_frm hJ f1 (by decide) (by decide)⟩
  simp only [bk231_0, bk231_6, bk231_10, bk231_36, bk231_13, bk231_58, bk231_21, bk231_28, bk231_24, bk231_29, bk231_33, bk231_40, bk231_44, bk231_48, bk231_51, bk231_55, bx231, zW, rm_kf R, a1, a1', one_0, b2i_0, reduceCtorEq, not_true_eq_false, not_false_eq_true, Option.bind_some, bct_v, bct_t, otl_s, otl_n, List.cons_append, List.nil_append, List.getElem?_cons_zero, List.getElem?_cons_succ, ↓reduceIte]

theorem y231b (R : RMx w g m kq hq ca ba wl ed wad kd hr cp br n ws th mi nd dr me di re) (hn : n ≤ 3) (hJ : gJ w g) {i : Nat} (hi : i < n) {z1 : Int32} (hz1 : z1 < nI 0 ∨ nI 7 < z1) : ∃ w', am_x 231 [.ref m, .int (nI i), .int z1] w = some (.inl (some (.int (nI 0))), w') ∧ RM w' g m kd hr cp br n ws 2 mi nd dr me di re ∧ stp 100 800 g g 0 0 w w' := by
  have zW := x99 R (nI i)
  rw [nwk_f hn hi] at zW
  have y1 := fun w => x39n (w := w) hz1
  obtain ⟨w1, a1, R1, f1⟩ := x96 R hn false (c := 1) (by decide)
  have a1' : am_x 96 [.ref m, .int (nI 0), .int (nI 1)] w = _ := a1
  obtain ⟨w2, a2, R2, f2⟩ := x40 R1 hn true (c := 2) (by decide)
  have a2' : am_x 40 [.ref m, .int (nI 1), .int (nI 2)] w1 = _ := a2
  refine ⟨w2, ?_, ⟨_, _, _, _, _, _, _, R2⟩, stp_frm hJ (frm_tr f1 f2) (by decide) (by decide)⟩
  simp only [bk231_0, bk231_6, bk231_10, bk231_36, bk231_13, bk231_58, bk231_21, bk231_28, bk231_24, bk231_29, bk231_33, bk231_40, bk231_44, bk231_48, bk231_51, bk231_55, bx231, zW, y1, rm_kf R, a1, a1', rm_kf R1, a2, a2', one_0, b2i_0, reduceCtorEq, not_true_eq_false, not_false_eq_true, Option.bind_some, bct_v, bct_t, otl_s, otl_n, List.cons_append, List.nil_append, List.getElem?_cons_zero, List.getElem?_cons_succ, ↓reduceIte]

theorem y232 (R : RMx w g m kq hq ca ba wl ed wad kd hr cp br n ws th mi nd dr me di re) (hn : n ≤ 3) (hJ : gJ w g) {c0 : Nat} (hc0 : c0 ≤ 35) {c1 : Nat} (hc1 : c1 ≤ 3) (hk : kdok kd) (hh : hrok hr) (hm : mi ≤ 3000) : ∃ w', am_x 232 [.ref m, .int (nI c0), .int (nI c1)] w = some (.inl (some (.int (nI (fltS kd hr (mi / 60 % 24) c0 c1)))), w') ∧ RM w' g m kd hr cp br n ws 0 mi nd dr me di re ∧ stp 100 800 g g 0 0 w w' := by
  have y0 := fun w => x97 (w := w) hc0
  have y1 := fun w => x98 (w := w) hc1
  obtain ⟨w1, a1, R1, f1⟩ := x96 R hn false (c := 1) (by decide)
  have a1' : am_x 96 [.ref m, .int (nI 0), .int (nI 1)] w = _ := a1
  obtain ⟨w2, a2, R2, f2⟩ := x40 R1 hn false (c := 2) (by decide)
  have a2' : am_x 40 [.ref m, .int (nI 0), .int (nI 2)] w1 = _ := a2
  have s2 := stp_frm (lo := 100) (hi := 800) hJ (frm_tr f1 f2) (by decide) (by decide)
  have q9 := x210 R2 hk hh hm (c := c0) (s := c1) (by omega) (by omega)
  refine ⟨w2, ?_, ⟨_, _, _, _, _, _, _, R2⟩, s2⟩
  simp only [bk232_0, bk232_5, bk232_9, bk232_24, bk232_12, bk232_34, bk232_17, bk232_21, bk232_28, bx232, y0, y1, rm_kf R, a1, a1', rm_kf R1, a2, a2',  one_0, b2i_0, reduceCtorEq, not_true_eq_false, not_false_eq_true, gfc R2.1, oM_0, oM_1, oM_2, oM_3, oM_4, oM_5, oM_6, oM_7, oM_8, oM_9, oM_10, oM_11, rm_kf R2, rm_lk R2, q9, Option.bind_some, bct_v, bct_t, otl_s, otl_n, List.cons_append, List.nil_append, List.getElem?_cons_zero, List.getElem?_cons_succ, ↓reduceIte]

theorem y232a (R : RMx w g m kq hq ca ba wl ed wad kd hr cp br n ws th mi nd dr me di re) (hn : n ≤ 3) (hJ : gJ w g) {z0 : Int32} (hz0 : z0 < nI 0 ∨ nI 35 < z0) {z1 : Int32} : ∃ w', am_x 232 [.ref m, .int z0, .int z1] w = some (.inl (some (.int (nI 0))), w') ∧ RM w' g m kd hr cp br n ws 1 mi nd dr me di re ∧ stp 100 800 g g 0 0 w w' := by
  have y0 := fun w => x97n (w := w) hz0
  obtain ⟨w1, a1, R1, f1⟩ := x96 R hn true (c := 1) (by decide)
  have a1' : am_x 96 [.ref m, .int (nI 1), .int (nI 1)] w = _ := a1
  refine ⟨w1, ?_, ⟨_, _, _, _, _, _, _, R1⟩, stp_frm hJ f1 (by decide) (by decide)⟩
  simp only [bk232_0, bk232_5, bk232_9, bk232_24, bk232_12, bk232_34, bk232_17, bk232_21, bk232_28, bx232, y0, rm_kf R, a1, a1', one_0, b2i_0, reduceCtorEq, not_true_eq_false, not_false_eq_true, Option.bind_some, bct_v, bct_t, otl_s, otl_n, List.cons_append, List.nil_append, List.getElem?_cons_zero, List.getElem?_cons_succ, ↓reduceIte]

theorem y232b (R : RMx w g m kq hq ca ba wl ed wad kd hr cp br n ws th mi nd dr me di re) (hn : n ≤ 3) (hJ : gJ w g) {c0 : Nat} (hc0 : c0 ≤ 35) {z1 : Int32} (hz1 : z1 < nI 0 ∨ nI 3 < z1) : ∃ w', am_x 232 [.ref m, .int (nI c0), .int z1] w = some (.inl (some (.int (nI 0))), w') ∧ RM w' g m kd hr cp br n ws 2 mi nd dr me di re ∧ stp 100 800 g g 0 0 w w' := by
  have y0 := fun w => x97 (w := w) hc0
  have y1 := fun w => x98n (w := w) hz1
  obtain ⟨w1, a1, R1, f1⟩ := x96 R hn false (c := 1) (by decide)
  have a1' : am_x 96 [.ref m, .int (nI 0), .int (nI 1)] w = _ := a1
  obtain ⟨w2, a2, R2, f2⟩ := x40 R1 hn true (c := 2) (by decide)
  have a2' : am_x 40 [.ref m, .int (nI 1), .int (nI 2)] w1 = _ := a2
  refine ⟨w2, ?_, ⟨_, _, _, _, _, _, _, R2⟩, stp_frm hJ (frm_tr f1 f2) (by decide) (by decide)⟩
  simp only [bk232_0, bk232_5, bk232_9, bk232_24, bk232_12, bk232_34, bk232_17, bk232_21, bk232_28, bx232, y0, y1, rm_kf R, a1, a1', rm_kf R1, a2, a2', one_0, b2i_0, reduceCtorEq, not_true_eq_false, not_false_eq_true, Option.bind_some, bct_v, bct_t, otl_s, otl_n, List.cons_append, List.nil_append, List.getElem?_cons_zero, List.getElem?_cons_succ, ↓reduceIte]

theorem x230e {a x k : Nat} (hJ : gJ w g) (hp : mpo mp) (h : Mkv w g i a (ho, po, ch, lo, ac, bu, sl, may, mp)) (hk : k ≤ 3) : ∃ w', am_x 230 [.ref x, .ref a, .int (nI k)] w = some (.inl (some (.int (nI (wrsW may mp k)))), w') ∧ ext w w' 8 1152 := by
  obtain ⟨w1, a1, e1⟩ := x230 hJ hp h (x := x) hk
  have : c230 k ≤ 8 := by unfold c230; split; decide; split <;> decide
  exact ⟨w1, a1, ext_wk e1 (by omega) (by omega)⟩

theorem y247 (R : RMx w g m kq hq ca ba wl ed wad kd hr cp br n ws th mi nd dr me di re) (hn : n ≤ 3) (hJ : gJ w g) {i : Nat} (hi : i < n) (hy : ws i = (ho, po, ch, lo, ac, bu, sl, may, mp)) {c1 : Nat} (hc1 : c1 ≤ 3) (hp : mpo mp) : ∃ w', am_x 247 [.ref m, .int (nI i), .int (nI c1)] w = some (.inl (some (.int (nI (wrsW may mp c1)))), w') ∧ RM w' g m kd hr cp br n ws 0 mi nd dr me di re ∧ stp 100 800 g g 8 1152 w w' := by
  have zW := x99 R (nI i)
  rw [nwk_f hn hi] at zW
  have y1 := fun w => x39 (w := w) (a := 0) (b := 3) (j := c1) (by decide) (Nat.zero_le c1) hc1
  obtain ⟨w1, a1, R1, f1⟩ := x96 R hn false (c := 1) (by decide)
  have a1' : am_x 96 [.ref m, .int (nI 0), .int (nI 1)] w = _ := a1
  obtain ⟨w2, a2, R2, f2⟩ := x40 R1 hn false (c := 2) (by decide)
  have a2' : am_x 40 [.ref m, .int (nI 0), .int (nI 2)] w1 = _ := a2
  have s2 := stp_frm (lo := 100) (hi := 800) hJ (frm_tr f1 f2) (by decide) (by decide)
  have v := x150 (rm_L R2) hn hi
  have hw := rm_get R2 hi hy
  have kw := mk_kf hw
  obtain ⟨w9, q9, e9⟩ := x230e (stp_J s2) hp hw (x := m) hc1
  have R9 := rm_ext R2 hn (stp_J s2) e9
  refine ⟨w9, ?_, ⟨_, _, _, _, _, _, _, R9⟩, stp_wk (stp_tr s2 (stp_ext (stp_J s2) e9)) (by omega) (by omega)⟩
  simp only [bk247_0, bk247_6, bk247_10, bk247_35, bk247_13, bk247_55, bk247_20, bk247_27, bk247_23, bk247_28, bk247_32, bk247_39, bk247_44, bk247_48, bk247_51, bx247, zW, y1, rm_kf R, a1, a1', rm_kf R1, a2, a2', v, kw,  one_0, b2i_0, reduceCtorEq, not_true_eq_false, not_false_eq_true, gfc R2.1, oM_0, oM_1, oM_2, oM_3, oM_4, oM_5, oM_6, oM_7, oM_8, oM_9, oM_10, oM_11, rm_kf R2, rm_lk R2, q9, Option.bind_some, bct_v, bct_t, otl_s, otl_n, List.cons_append, List.nil_append, List.getElem?_cons_zero, List.getElem?_cons_succ, ↓reduceIte]

theorem y247a (R : RMx w g m kq hq ca ba wl ed wad kd hr cp br n ws th mi nd dr me di re) (hn : n ≤ 3) (hJ : gJ w g) {z0 : Int32} (hz0 : z0 < nI 0 ∨ nI n ≤ z0) {z1 : Int32} : ∃ w', am_x 247 [.ref m, .int z0, .int z1] w = some (.inl (some (.int (nI 0))), w') ∧ RM w' g m kd hr cp br n ws 1 mi nd dr me di re ∧ stp 100 800 g g 0 0 w w' := by
  have zW := x99 R z0
  rw [nwk_t hn hz0] at zW
  obtain ⟨w1, a1, R1, f1⟩ := x96 R hn true (c := 1) (by decide)
  have a1' : am_x 96 [.ref m, .int (nI 1), .int (nI 1)] w = _ := a1
  refine ⟨w1, ?_, ⟨_, _, _, _, _, _, _, R1⟩, stp_frm hJ f1 (by decide) (by decide)⟩
  simp only [bk247_0, bk247_6, bk247_10, bk247_35, bk247_13, bk247_55, bk247_20, bk247_27, bk247_23, bk247_28, bk247_32, bk247_39, bk247_44, bk247_48, bk247_51, bx247, zW, rm_kf R, a1, a1', one_0, b2i_0, reduceCtorEq, not_true_eq_false, not_false_eq_true, Option.bind_some, bct_v, bct_t, otl_s, otl_n, List.cons_append, List.nil_append, List.getElem?_cons_zero, List.getElem?_cons_succ, ↓reduceIte]

theorem y247b (R : RMx w g m kq hq ca ba wl ed wad kd hr cp br n ws th mi nd dr me di re) (hn : n ≤ 3) (hJ : gJ w g) {i : Nat} (hi : i < n) {z1 : Int32} (hz1 : z1 < nI 0 ∨ nI 3 < z1) : ∃ w', am_x 247 [.ref m, .int (nI i), .int z1] w = some (.inl (some (.int (nI 0))), w') ∧ RM w' g m kd hr cp br n ws 2 mi nd dr me di re ∧ stp 100 800 g g 0 0 w w' := by
  have zW := x99 R (nI i)
  rw [nwk_f hn hi] at zW
  have y1 := fun w => x39n (w := w) hz1
  obtain ⟨w1, a1, R1, f1⟩ := x96 R hn false (c := 1) (by decide)
  have a1' : am_x 96 [.ref m, .int (nI 0), .int (nI 1)] w = _ := a1
  obtain ⟨w2, a2, R2, f2⟩ := x40 R1 hn true (c := 2) (by decide)
  have a2' : am_x 40 [.ref m, .int (nI 1), .int (nI 2)] w1 = _ := a2
  refine ⟨w2, ?_, ⟨_, _, _, _, _, _, _, R2⟩, stp_frm hJ (frm_tr f1 f2) (by decide) (by decide)⟩
  simp only [bk247_0, bk247_6, bk247_10, bk247_35, bk247_13, bk247_55, bk247_20, bk247_27, bk247_23, bk247_28, bk247_32, bk247_39, bk247_44, bk247_48, bk247_51, bx247, zW, y1, rm_kf R, a1, a1', rm_kf R1, a2, a2', one_0, b2i_0, reduceCtorEq, not_true_eq_false, not_false_eq_true, Option.bind_some, bct_v, bct_t, otl_s, otl_n, List.cons_append, List.nil_append, List.getElem?_cons_zero, List.getElem?_cons_succ, ↓reduceIte]

theorem y252 (R : RMx w g m kq hq ca ba wl ed wad kd hr cp br n ws th mi nd dr me di re) (hn : n ≤ 3) (hJ : gJ w g) {i : Nat} (hi : i < n) (hy : ws i = (ho, po, ch, lo, ac, bu, sl, may, mp)) (hp : mpo mp) : ∃ w', am_x 252 [.ref m, .int (nI i)] w = some (.inl (some (.int (nI (bstS may mp 3)))), w') ∧ RM w' g m kd hr cp br n ws 0 mi nd dr me di re ∧ stp 100 800 g g 14 2016 w w' := by
  have zW := x99 R (nI i)
  rw [nwk_f hn hi] at zW
  obtain ⟨w1, a1, R1, f1⟩ := x96 R hn false (c := 1) (by decide)
  have a1' : am_x 96 [.ref m, .int (nI 0), .int (nI 1)] w = _ := a1
  have s1 := stp_frm (lo := 100) (hi := 800) hJ f1 (by decide) (by decide)
  have v := x150 (rm_L R1) hn hi
  have hw := rm_get R1 hi hy
  have kw := mk_kf hw
  obtain ⟨w9, q9, e9⟩ := x248 R1 hn (stp_J s1) hi hy hp
  have R9 := rm_ext R1 hn (stp_J s1) e9
  refine ⟨w9, ?_, ⟨_, _, _, _, _, _, _, R9⟩, stp_wk (stp_tr s1 (stp_ext (stp_J s1) e9)) (by omega) (by omega)⟩
  simp only [bk252_0, bk252_6, bk252_10, bk252_17, bk252_13, bk252_22, bk252_32, bk252_26, bk252_29, bx252, zW, rm_kf R, a1, a1', v, kw,  one_0, b2i_0, reduceCtorEq, not_true_eq_false, not_false_eq_true, gfc R1.1, oM_0, oM_1, oM_2, oM_3, oM_4, oM_5, oM_6, oM_7, oM_8, oM_9, oM_10, oM_11, rm_kf R1, rm_lk R1, q9, Option.bind_some, bct_v, bct_t, otl_s, otl_n, List.cons_append, List.nil_append, List.getElem?_cons_zero, List.getElem?_cons_succ, ↓reduceIte]

theorem y252a (R : RMx w g m kq hq ca ba wl ed wad kd hr cp br n ws th mi nd dr me di re) (hn : n ≤ 3) (hJ : gJ w g) {z0 : Int32} (hz0 : z0 < nI 0 ∨ nI n ≤ z0) : ∃ w', am_x 252 [.ref m, .int z0] w = some (.inl (some (.int (nI 0))), w') ∧ RM w' g m kd hr cp br n ws 1 mi nd dr me di re ∧ stp 100 800 g g 0 0 w w' := by
  have zW := x99 R z0
  rw [nwk_t hn hz0] at zW
  obtain ⟨w1, a1, R1, f1⟩ := x96 R hn true (c := 1) (by decide)
  have a1' : am_x 96 [.ref m, .int (nI 1), .int (nI 1)] w = _ := a1
  refine ⟨w1, ?_, ⟨_, _, _, _, _, _, _, R1⟩, stp_frm hJ f1 (by decide) (by decide)⟩
  simp only [bk252_0, bk252_6, bk252_10, bk252_17, bk252_13, bk252_22, bk252_32, bk252_26, bk252_29, bx252, zW, rm_kf R, a1, a1', one_0, b2i_0, reduceCtorEq, not_true_eq_false, not_false_eq_true, Option.bind_some, bct_v, bct_t, otl_s, otl_n, List.cons_append, List.nil_append, List.getElem?_cons_zero, List.getElem?_cons_succ, ↓reduceIte]

def c259 (k : Nat) : Nat := if k = 1 then 2 else if k = 2 then 4 else 1
theorem x259p (R : RMx w g m kq hq ca ba wl ed wad kd hr cp br n ws th mi nd dr me di re) (hn : n ≤ 3) (hJ : gJ w g) (hi : i < n) (hy : ws i = (ho, po, ch, lo, ac, bu, sl, may, mp)) (hp : mpo mp) (hho : ho < 36) {k : Nat} (hk : k ≤ 3) : ∃ w', am_x 259 [.ref m, .ref (wad i), .int (nI k)] w = some (.inl (some (.int (sftS (ws i) k))), w') ∧ ext w w' (c259 k) (36 * c259 k) := by
  rw [hy]
  rcases (show k = 0 ∨ k = 1 ∨ k = 2 ∨ k = 3 by omega) with rfl | rfl | rfl | rfl
  · obtain ⟨w1, a1, e1⟩ := x226 R hJ hi hy hp hho
    refine ⟨w1, ?_, ext_wk e1 (by decide) (by decide)⟩
    simp only [bk259_0, bk259_12, bk259_4, bk259_25, bk259_17, bk259_9, bk259_46, bk259_30, bk259_22, bk259_51, bk259_35, bk259_42, bk259_38, bx259, rm_kf R, a1, nI_eqS (show 0 < 2147483648 by decide) (show 0 < 2147483648 by decide), not_true_eq_false, Option.bind_some, bct_v, bct_t, otl_s, otl_n, List.cons_append, List.nil_append, List.getElem?_cons_zero, List.getElem?_cons_succ, ↓reduceIte]
    rfl
  · obtain ⟨w1, a1, e1⟩ := x245 R hn hJ hi hy hp hho
    refine ⟨w1, ?_, ext_wk e1 (by decide) (by decide)⟩
    simp only [bk259_0, bk259_12, bk259_4, bk259_25, bk259_17, bk259_9, bk259_46, bk259_30, bk259_22, bk259_51, bk259_35, bk259_42, bk259_38, bx259, rm_kf R, a1, one_0, not_false_eq_true, not_true_eq_false, Option.bind_some, bct_v, bct_t, otl_s, otl_n, List.cons_append, List.nil_append, List.getElem?_cons_zero, List.getElem?_cons_succ, ↓reduceIte]
    rfl
  · obtain ⟨w1, a1, e1⟩ := x251 R hn hJ hi hy hp hho
    refine ⟨w1, ?_, ext_wk e1 (by decide) (by decide)⟩
    rw [show sftS (ho, po, ch, lo, ac, bu, sl, may, mp) 2 = b2i (safeB ch (costI (wayW may mp ho))) from rfl]
    cases q : safeB ch (costI (wayW may mp ho)) with
    | true =>
      rw [q] at a1
      simp only [bk259_0, bk259_12, bk259_4, bk259_25, bk259_17, bk259_9, bk259_46, bk259_30, bk259_22, bk259_51, bk259_35, bk259_42, bk259_38, bx259, rm_kf R, a1, nI_eqS (show 2 < 2147483648 by decide) (show 0 < 2147483648 by decide), nI_eqS (show 2 < 2147483648 by decide) (show 1 < 2147483648 by decide), show ¬ 2 = 0 from by decide, show ¬ 2 = 1 from by decide, not_false_eq_true, not_true_eq_false, b2i_0, reduceCtorEq, Option.bind_some, bct_v, bct_t, otl_s, otl_n, List.cons_append, List.nil_append, List.getElem?_cons_zero, List.getElem?_cons_succ, ↓reduceIte]
      rfl
    | false =>
      rw [q] at a1
      simp only [bk259_0, bk259_12, bk259_4, bk259_25, bk259_17, bk259_9, bk259_46, bk259_30, bk259_22, bk259_51, bk259_35, bk259_42, bk259_38, bx259, rm_kf R, a1, nI_eqS (show 2 < 2147483648 by decide) (show 0 < 2147483648 by decide), nI_eqS (show 2 < 2147483648 by decide) (show 1 < 2147483648 by decide), show ¬ 2 = 0 from by decide, show ¬ 2 = 1 from by decide, not_false_eq_true, not_true_eq_false, b2i_0, Option.bind_some, bct_v, bct_t, otl_s, otl_n, List.cons_append, List.nil_append, List.getElem?_cons_zero, List.getElem?_cons_succ, ↓reduceIte]
      rfl
  · obtain ⟨w1, a1, e1⟩ := x229 R hJ hi hy hp
    refine ⟨w1, ?_, ext_wk e1 (by decide) (by decide)⟩
    simp only [bk259_0, bk259_12, bk259_4, bk259_25, bk259_17, bk259_9, bk259_46, bk259_30, bk259_22, bk259_51, bk259_35, bk259_42, bk259_38, bx259, rm_kf R, a1, nI_eqS (show 3 < 2147483648 by decide) (show 0 < 2147483648 by decide), nI_eqS (show 3 < 2147483648 by decide) (show 1 < 2147483648 by decide), nI_eqS (show 3 < 2147483648 by decide) (show 2 < 2147483648 by decide), show ¬ 3 = 0 from by decide, show ¬ 3 = 1 from by decide, show ¬ 3 = 2 from by decide, not_false_eq_true, Option.bind_some, bct_v, bct_t, otl_s, otl_n, List.cons_append, List.nil_append, List.getElem?_cons_zero, List.getElem?_cons_succ, ↓reduceIte]
    rfl
theorem x259 (R : RMx w g m kq hq ca ba wl ed wad kd hr cp br n ws th mi nd dr me di re) (hn : n ≤ 3) (hJ : gJ w g) (hi : i < n) (hy : ws i = (ho, po, ch, lo, ac, bu, sl, may, mp)) (hp : mpo mp) (hho : ho < 36) {k : Nat} (hk : k ≤ 3) : ∃ w', am_x 259 [.ref m, .ref (wad i), .int (nI k)] w = some (.inl (some (.int (sftS (ws i) k))), w') ∧ ext w w' 4 144 := by
  obtain ⟨w1, a1, e1⟩ := x259p R hn hJ hi hy hp hho hk
  have : c259 k ≤ 4 := by unfold c259; split; decide; split <;> decide
  exact ⟨w1, a1, ext_wk e1 (by omega) (by omega)⟩

theorem y264 (R : RMx w g m kq hq ca ba wl ed wad kd hr cp br n ws th mi nd dr me di re) (hn : n ≤ 3) (hJ : gJ w g) {i : Nat} (hi : i < n) (hy : ws i = (ho, po, ch, lo, ac, bu, sl, may, mp)) {c1 : Nat} (hc1 : c1 ≤ 3) (hp : mpo mp) (hho : ho < 36) : ∃ w', am_x 264 [.ref m, .int (nI i), .int (nI c1)] w = some (.inl (some (.int (sftS (ws i) c1))), w') ∧ RM w' g m kd hr cp br n ws 0 mi nd dr me di re ∧ stp 100 800 g g 4 144 w w' := by
  have zW := x99 R (nI i)
  rw [nwk_f hn hi] at zW
  have y1 := fun w => x39 (w := w) (a := 0) (b := 3) (j := c1) (by decide) (Nat.zero_le c1) hc1
  obtain ⟨w1, a1, R1, f1⟩ := x96 R hn false (c := 1) (by decide)
  have a1' : am_x 96 [.ref m, .int (nI 0), .int (nI 1)] w = _ := a1
  obtain ⟨w2, a2, R2, f2⟩ := x40 R1 hn false (c := 2) (by decide)
  have a2' : am_x 40 [.ref m, .int (nI 0), .int (nI 2)] w1 = _ := a2
  have s2 := stp_frm (lo := 100) (hi := 800) hJ (frm_tr f1 f2) (by decide) (by decide)
  have v := x150 (rm_L R2) hn hi
  have hw := rm_get R2 hi hy
  have kw := mk_kf hw
  obtain ⟨w9, q9, e9⟩ := x259 R2 hn (stp_J s2) hi hy hp hho hc1
  have R9 := rm_ext R2 hn (stp_J s2) e9
  refine ⟨w9, ?_, ⟨_, _, _, _, _, _, _, R9⟩, stp_wk (stp_tr s2 (stp_ext (stp_J s2) e9)) (by omega) (by omega)⟩
  simp only [bk264_0, bk264_6, bk264_10, bk264_35, bk264_13, bk264_55, bk264_20, bk264_27, bk264_23, bk264_28, bk264_32, bk264_39, bk264_44, bk264_48, bk264_51, bx264, zW, y1, rm_kf R, a1, a1', rm_kf R1, a2, a2', v, kw,  one_0, b2i_0, reduceCtorEq, not_true_eq_false, not_false_eq_true, gfc R2.1, oM_0, oM_1, oM_2, oM_3, oM_4, oM_5, oM_6, oM_7, oM_8, oM_9, oM_10, oM_11, rm_kf R2, rm_lk R2, q9, Option.bind_some, bct_v, bct_t, otl_s, otl_n, List.cons_append, List.nil_append, List.getElem?_cons_zero, List.getElem?_cons_succ, ↓reduceIte]

theorem y264a (R : RMx w g m kq hq ca ba wl ed wad kd hr cp br n ws th mi nd dr me di re) (hn : n ≤ 3) (hJ : gJ w g) {z0 : Int32} (hz0 : z0 < nI 0 ∨ nI n ≤ z0) {z1 : Int32} : ∃ w', am_x 264 [.ref m, .int z0, .int z1] w = some (.inl (some (.int (nI 0))), w') ∧ RM w' g m kd hr cp br n ws 1 mi nd dr me di re ∧ stp 100 800 g g 0 0 w w' := by
  have zW := x99 R z0
  rw [nwk_t hn hz0] at zW
  obtain ⟨w1, a1, R1, f1⟩ := x96 R hn true (c := 1) (by decide)
  have a1' : am_x 96 [.ref m, .int (nI 1), .int (nI 1)] w = _ := a1
  refine ⟨w1, ?_, ⟨_, _, _, _, _, _, _, R1⟩, stp_frm hJ f1 (by decide) (by decide)⟩
  simp only [bk264_0, bk264_6, bk264_10, bk264_35, bk264_13, bk264_55, bk264_20, bk264_27, bk264_23, bk264_28, bk264_32, bk264_39, bk264_44, bk264_48, bk264_51, bx264, zW, rm_kf R, a1, a1', one_0, b2i_0, reduceCtorEq, not_true_eq_false, not_false_eq_true, Option.bind_some, bct_v, bct_t, otl_s, otl_n, List.cons_append, List.nil_append, List.getElem?_cons_zero, List.getElem?_cons_succ, ↓reduceIte]

theorem y264b (R : RMx w g m kq hq ca ba wl ed wad kd hr cp br n ws th mi nd dr me di re) (hn : n ≤ 3) (hJ : gJ w g) {i : Nat} (hi : i < n) {z1 : Int32} (hz1 : z1 < nI 0 ∨ nI 3 < z1) : ∃ w', am_x 264 [.ref m, .int (nI i), .int z1] w = some (.inl (some (.int (nI 0))), w') ∧ RM w' g m kd hr cp br n ws 2 mi nd dr me di re ∧ stp 100 800 g g 0 0 w w' := by
  have zW := x99 R (nI i)
  rw [nwk_f hn hi] at zW
  have y1 := fun w => x39n (w := w) hz1
  obtain ⟨w1, a1, R1, f1⟩ := x96 R hn false (c := 1) (by decide)
  have a1' : am_x 96 [.ref m, .int (nI 0), .int (nI 1)] w = _ := a1
  obtain ⟨w2, a2, R2, f2⟩ := x40 R1 hn true (c := 2) (by decide)
  have a2' : am_x 40 [.ref m, .int (nI 1), .int (nI 2)] w1 = _ := a2
  refine ⟨w2, ?_, ⟨_, _, _, _, _, _, _, R2⟩, stp_frm hJ (frm_tr f1 f2) (by decide) (by decide)⟩
  simp only [bk264_0, bk264_6, bk264_10, bk264_35, bk264_13, bk264_55, bk264_20, bk264_27, bk264_23, bk264_28, bk264_32, bk264_39, bk264_44, bk264_48, bk264_51, bx264, zW, y1, rm_kf R, a1, a1', rm_kf R1, a2, a2', one_0, b2i_0, reduceCtorEq, not_true_eq_false, not_false_eq_true, Option.bind_some, bct_v, bct_t, otl_s, otl_n, List.cons_append, List.nil_append, List.getElem?_cons_zero, List.getElem?_cons_succ, ↓reduceIte]

theorem y215 (R : RMx w g m kq hq ca ba wl ed wad kd hr cp br n ws th mi nd dr me di re) (hn : n ≤ 3) (hJ : gJ w g) (hk : kdok kd) (hh : hrok hr) (hm : mi ≤ 3000) (ho : ∀ i, i < n → okY (ws i)) : ∃ w', am_x 215 [.ref m] w = some (.inl (some (.int (b2i (sndRS kd hr (mi / 60 % 24) n ws)))), w') ∧ RM w' g m kd hr cp br n ws 0 mi nd dr me di re ∧ stp 100 800 g g 13 160 w w' := by
  obtain ⟨R1, f1⟩ := rm_m (th' := 0) (mi' := mi) (nd' := nd) (dr' := dr) (me' := me) (di' := di) (re' := re) R hn
  have p1 : am_pf w m 11 0 (.int (nI 0)) = some (am_pt w m (.inr (11, oM 0 mi nd dr me di re kq hq ca ba wl))) := pfc R.1 (by show 0 < 12; decide) (by decide)
  have s1 := stp_frm (lo := 100) (hi := 800) hJ f1 (by decide) (by decide)
  obtain ⟨w2, a2, e2⟩ := x186 R1 (stp_J s1) hn hk hh hm ho
  refine ⟨w2, ?_, ⟨_, _, _, _, _, _, _, rm_ext R1 hn (stp_J s1) e2⟩, stp_wk (stp_tr s1 (stp_ext (stp_J s1) e2)) (by omega) (by omega)⟩
  simp only [bx215, bk215_0, p1, bk215_5, rm_kf R1, a2, Option.bind_some, bct_v, bct_t, otl_s, otl_n, List.cons_append, List.nil_append, List.getElem?_cons_zero, List.getElem?_cons_succ, ↓reduceIte]
  exact bk215_9 (by cases sndRS kd hr (mi / 60 % 24) n ws <;> rfl)

end CO
end
section
/-! THE REFERENCE: its digest. Mine. -/
/-- a loop through grown worlds -/
theorem loopE {α β : Type} {n : Nat} {kc sc : Nat → Nat} {F : Nat → β → β} {Q : Nat → β → am_Wd → α} {w0 w1 : am_Wd} {k0 s0 : Nat} {a : β} (e0 : ext w0 w1 k0 s0) (h : ∀ j a w2 k2 s2, j < n → ext w0 w2 k2 s2 → ∃ w3, Q j a w2 = Q (j + 1) (F j a) w3 ∧ ext w2 w3 (kc j) (sc j)) : ∃ w3, Q 0 a w1 = Q n (itA n F a) w3 ∧ ext w1 w3 (sumN n kc) (sumN n sc) := by
  have go : ∀ j, j ≤ n → ∃ w3, Q 0 a w1 = Q j (itA j F a) w3 ∧ ext w1 w3 (sumN j kc) (sumN j sc) := by
    intro j
    induction j with
    | zero => exact fun _ => ⟨w1, rfl, ext_rf⟩
    | succ j ih =>
      intro hj
      obtain ⟨w2, q1, e1⟩ := ih (by omega)
      obtain ⟨w3, q2, e2⟩ := h j _ w2 _ _ (by omega) (ext_tr e0 e1)
      exact ⟨w3, q1.trans q2, ext_tr e1 e2⟩
  exact go n (Nat.le_refl n)
theorem sumN_c (k : Nat) : ∀ n, sumN n (fun _ => k) = n * k
  | 0 => (Nat.zero_mul k).symm
  | n + 1 => by
    show sumN n (fun _ => k) + k = (n + 1) * k
    rw [sumN_c k n, Nat.succ_mul]
section DG
variable {w : am_Wd} {g : Nat → Nat} {m kq hq ca ba wl ed : Nat} {wad : Nat → Nat} {kd hr : Nat → Nat} {cp br : Nat → Bool} {n : Nat} {ws : Nat → sW} {th mi nd : Nat} {dr me di re : Int32}
variable {i a ho po ch : Nat} {lo ac bu sl : Int32} {may : Nat → Bool} {mp : Nat → Nat}
/-- one walker -/
theorem wlk265 (R : RMx w g m kq hq ca ba wl ed wad kd hr cp br n ws th mi nd dr me di re) (hn : n ≤ 3) (hJ : gJ w g) (hk : kdok kd) (hh : hrok hr) (hm : mi ≤ 3000) (hi : i < n) (hy : ws i = (ho, po, ch, lo, ac, bu, sl, may, mp)) (hp : mpo mp) (hz : mpz mp) (hho : ho < 36) {it : Nat} {w1 : am_Wd} {k1 s1 : Nat} (e1 : ext w w1 k1 s1) (a : Int64) :
    ∃ w2, am_run 265 128 [some (.ref m), some (.long a), none, some (.ref it), some (.ref (wad i)), some (.int (nI 0)), none] [] w1 = am_run 265 105 [some (.ref m), some (.long (wlkJ kd hr mi (ws i) a)), none, some (.ref it), none, none, none] [] w2 ∧ ext w1 w2 45 3913 := by
  have RX : ∀ {w2 k2 s2}, ext w w2 k2 s2 → RMx w2 g m kq hq ca ba wl ed wad kd hr cp br n ws th mi nd dr me di re := fun e => rm_ext R hn hJ e
  obtain ⟨wa, qa, ea⟩ := loopE (n := 13) (kc := fun _ => 1) (sc := fun _ => 13) (F := fun k a => jn a (ofwS kd hr mi (ws i) k).toInt64) (a := a) (Q := fun k a w => am_run 265 128 [some (.ref m), some (.long a), none, some (.ref it), some (.ref (wad i)), some (.int (nI k)), none] [] w) e1 (fun j a w2 k2 s2 hj e2 => by
    try dsimp only
    obtain ⟨w3, b3, e3⟩ := x146 (RX e2) (gJ_ext hJ e2) hk hh hm hi hy hp (k := j) (by omega)
    rw [show ofwR kd hr (mi / 60 % 24) (ws i) j = ofwS kd hr mi (ws i) j by rw [hy]; exact ofw_eq (h := 0) hz hp j (by omega)] at b3
    refine ⟨w3, ?_, e3⟩
    rw [bk265_128, if_neg (by rw [nI_ltS (by decide) (by omega)]; omega)]
    simp only [bk265_135, rm_kf (RX e2), b3, bk265_148, nI_add, Option.bind_some, bct_v, bct_t, otl_s, otl_n, List.cons_append, List.nil_append, List.getElem?_cons_zero, List.getElem?_cons_succ, ↓reduceIte]
    rfl)
  have e2 := ext_tr e1 ea
  try dsimp only at qa
  generalize h1 : itA 13 (fun k a => jn a (ofwS kd hr mi (ws i) k).toInt64) a = a1 at qa
  have l2 : am_run 265 160 [some (.ref m), some (.long a1), none, some (.ref it), some (.ref (wad i)), some (.int (nI 0)), none] [] wa = am_run 265 160 [some (.ref m), some (.long (itA 4 (fun f a => jn a (whS may f)) a1)), none, some (.ref it), some (.ref (wad i)), some (.int (nI 4)), none] [] wa := loopA (n := 4) (F := fun f a => jn a (whS may f)) (a := a1) (Q := fun k a => am_run 265 160 [some (.ref m), some (.long a), none, some (.ref it), some (.ref (wad i)), some (.int (nI k)), none] [] wa) (fun k a hk1 => by
    try dsimp only
    have z := x48 (x := m) (rm_get (RX e2) hi hy) (f := k) hk1
    rw [bk265_160, if_neg (by rw [nI_leS (by decide) (by omega)]; omega)]
    simp only [bk265_166, rm_kf (RX e2), z, bk265_179, nI_add, Option.bind_some, bct_v, bct_t, otl_s, otl_n, List.cons_append, List.nil_append, List.getElem?_cons_zero, List.getElem?_cons_succ, ↓reduceIte]
    rfl)
  generalize h2 : itA 4 (fun f a => jn a (whS may f)) a1 = a2 at l2
  obtain ⟨wb, qb, eb⟩ := loopE (n := 4) (kc := c259) (sc := fun j => 36 * c259 j) (F := fun k a => jn a (sftS (ws i) k).toInt64) (a := a2) (Q := fun k a w => am_run 265 190 [some (.ref m), some (.long a), none, some (.ref it), some (.ref (wad i)), some (.int (nI k)), none] [] w) e2 (fun j a w2 k2 s2 hj e2 => by
    try dsimp only
    obtain ⟨w3, b3, e3⟩ := x259p (RX e2) hn (gJ_ext hJ e2) hi hy hp hho (k := j) (by omega)
    refine ⟨w3, ?_, e3⟩
    rw [bk265_190, if_neg (by rw [nI_ltS (by decide) (by omega)]; omega)]
    simp only [bk265_196, rm_kf (RX e2), b3, bk265_209, nI_add, Option.bind_some, bct_v, bct_t, otl_s, otl_n, List.cons_append, List.nil_append, List.getElem?_cons_zero, List.getElem?_cons_succ, ↓reduceIte]
    rfl)
  have e3 := ext_tr e2 eb
  try dsimp only at qb
  generalize h3 : itA 4 (fun k a => jn a (sftS (ws i) k).toInt64) a2 = a3 at qb
  obtain ⟨wc, qc, ec⟩ := loopE (n := 4) (kc := c230) (sc := fun j => 144 * c230 j) (F := fun k a => jn a (nI (wrsW may mp k)).toInt64) (a := a3) (Q := fun k a w => am_run 265 221 [some (.ref m), some (.long a), none, some (.ref it), some (.ref (wad i)), some (.int (nI k)), none] [] w) e3 (fun j a w2 k2 s2 hj e2 => by
    try dsimp only
    obtain ⟨w3, b3, e3⟩ := x230 (x := m) (gJ_ext hJ e2) hp (rm_get (RX e2) hi hy) (k := j) (by omega)
    refine ⟨w3, ?_, e3⟩
    rw [bk265_221, if_neg (by rw [nI_ltS (by decide) (by omega)]; omega)]
    simp only [bk265_227, rm_kf (RX e2), b3, bk265_240, nI_add, Option.bind_some, bct_v, bct_t, otl_s, otl_n, List.cons_append, List.nil_append, List.getElem?_cons_zero, List.getElem?_cons_succ, ↓reduceIte]
    rfl)
  have e4 := ext_tr e3 ec
  try dsimp only at qc
  generalize h4 : itA 4 (fun k a => jn a (nI (wrsW may mp k)).toInt64) a3 = a4 at qc
  obtain ⟨wd, qd, ed'⟩ := x248 (RX e4) hn (gJ_ext hJ e4) hi hy hp
  have e5 := ext_tr e4 ed'
  have z6 := x49 (x := m) (rm_get (RX e5) hi hy)
  have hl := cnt_le (anyF may) 36
  have hnn : (FP.dmul 4634204016564240384 (dbtS may)) &&& 0x7fffffffffffffff ≤ 0x7ff0000000000000 := mul_ok ⟨cnt 36 (anyF may), by omega⟩
  have l7 : am_run 265 284 [some (.ref m), some (.long (jn (jn a4 (nI (bstS may mp 3)).toInt64) (FP.d2l (FP.dmul 4634204016564240384 (dbtS may))))), none, some (.ref it), some (.ref (wad i)), some (.int (nI 0)), none] [] wd = am_run 265 284 [some (.ref m), some (.long (itA 36 (fun c a => jn (jn a (nI (kno mp c 1)).toInt64) (nI (kno mp c 2)).toInt64) (jn (jn a4 (nI (bstS may mp 3)).toInt64) (FP.d2l (FP.dmul 4634204016564240384 (dbtS may)))))), none, some (.ref it), some (.ref (wad i)), some (.int (nI 36)), none] [] wd := loopA (n := 36) (F := fun c a => jn (jn a (nI (kno mp c 1)).toInt64) (nI (kno mp c 2)).toInt64) (a := jn (jn a4 (nI (bstS may mp 3)).toInt64) (FP.d2l (FP.dmul 4634204016564240384 (dbtS may)))) (Q := fun k a => am_run 265 284 [some (.ref m), some (.long a), none, some (.ref it), some (.ref (wad i)), some (.int (nI k)), none] [] wd) (fun k a hk1 => by
    try dsimp only
    have z1 := x174 (rm_get (RX e5) hi hy) (c := k) (s := 1) hk1 (by decide)
    have z2 := x174 (rm_get (RX e5) hi hy) (c := k) (s := 2) hk1 (by decide)
    rw [bk265_284, if_neg (by rw [nI_leS (by decide) (by omega)]; omega), bk265_291, bk265_294, if_neg (by decide)]
    simp only [bk265_300, z1, bk265_314, nI_add, Nat.reduceAdd, Option.bind_some, bct_v, bct_t, otl_s, otl_n, List.cons_append, List.nil_append, List.getElem?_cons_zero, List.getElem?_cons_succ, ↓reduceIte]
    rw [bk265_294, if_neg (by decide)]
    simp only [bk265_300, z2, bk265_314, nI_add, Nat.reduceAdd, Option.bind_some, bct_v, bct_t, otl_s, otl_n, List.cons_append, List.nil_append, List.getElem?_cons_zero, List.getElem?_cons_succ, ↓reduceIte]
    rw [bk265_294, if_pos (by decide), bk265_323, nI_add]
    rfl)
  refine ⟨wd, ?_, ext_wk (ext_tr (ext_tr (ext_tr ea eb) ec) ed') (by decide) (by decide)⟩
  refine Eq.trans qa ?_
  rw [bk265_128, if_pos (by rw [nI_ltS (by decide) (by decide)]; decide), bk265_157]
  refine Eq.trans l2 ?_
  rw [bk265_160, if_pos (by rw [nI_leS (by decide) (by decide)]; decide), bk265_187]
  refine Eq.trans qb ?_
  rw [bk265_190, if_pos (by rw [nI_ltS (by decide) (by decide)]; decide), bk265_218]
  refine Eq.trans qc ?_
  rw [bk265_221, if_pos (by rw [nI_ltS (by decide) (by decide)]; decide)]
  simp only [bk265_249, rm_kf (RX e4), qd, bk265_260, rm_kf (RX e5), z6, Option.bind_some, bct_v, bct_t, otl_s, otl_n, List.cons_append, List.nil_append, List.getElem?_cons_zero, List.getElem?_cons_succ, ↓reduceIte]
  rw [bk265_277 hnn, bk265_278]
  refine Eq.trans l7 ?_
  rw [bk265_284, if_pos (by rw [nI_leS (by decide) (by decide)]; decide), bk265_329]
  subst h1 h2 h3 h4
  rw [hy]
  rfl
/-- digest -/
theorem y265 (R : RMx w g m kq hq ca ba wl ed wad kd hr cp br n ws th mi nd dr me di re) (hn : n ≤ 3) (hJ : gJ w g) (hk : kdok kd) (hh : hrok hr) (hm : mi ≤ 3000) (ho : ∀ i, i < n → okY (ws i)) (hkz : mpz kd) (hwz : ∀ i, i < n → mpz (ws i).2.2.2.2.2.2.2.2) : ∃ w', am_x 265 [.ref m] w = some (.inl (some (.long (digS kd hr cp br n ws mi dr me di re))), w') ∧ RM w' g m kd hr cp br n ws 0 mi nd dr me di re ∧ stp 100 800 g g 306 12480 w w' := by
  obtain ⟨R1, f1⟩ := rm_m (th' := 0) (mi' := mi) (nd' := nd) (dr' := dr) (me' := me) (di' := di) (re' := re) R hn
  have p1 : am_pf w m 11 0 (.int (nI 0)) = some (am_pt w m (.inr (11, oM 0 mi nd dr me di re kq hq ca ba wl))) := pfc R.1 (by show 0 < 12; decide) (by decide)
  have s1 := stp_frm (lo := 100) (hi := 800) hJ f1 (by decide) (by decide)
  have hJ1 := stp_J s1
  generalize am_pt w m (.inr (11, oM 0 mi nd dr me di re kq hq ca ba wl)) = w1 at R1 p1 s1 hJ1
  have RX : ∀ {w2 k2 s2}, ext w1 w2 k2 s2 → RMx w2 g m kq hq ca ba wl ed wad kd hr cp br n ws 0 mi nd dr me di re := fun e => rm_ext R1 hn hJ1 e
  obtain ⟨wa, qa, ea⟩ := loopE (n := 12) (kc := fun _ => 1) (sc := fun _ => 12) (F := fun k a => jn a (hsS kd hr cp br n mi dr me di re k).toInt64) (a := lN 58286) (Q := fun k a w => am_run 265 11 [some (.ref m), some (.long a), none, some (.int (nI k)), none, none, none] [] w) (ext_rf (w := w1)) (fun j a w2 k2 s2 hj e2 => by
    try dsimp only
    obtain ⟨w3, b3, e3⟩ := x213 (RX e2) (gJ_ext hJ1 e2) hn hk hh hm (k := j) (by omega)
    rw [hs_eq hkz j (by omega)] at b3
    refine ⟨w3, ?_, e3⟩
    rw [bk265_11, if_neg (by rw [nI_ltS (by decide) (by omega)]; omega)]
    simp only [bk265_17, rm_kf (RX e2), b3, bk265_27, nI_add, Option.bind_some, bct_v, bct_t, otl_s, otl_n, List.cons_append, List.nil_append, List.getElem?_cons_zero, List.getElem?_cons_succ, ↓reduceIte]
    rfl)
  try dsimp only at qa
  generalize h1 : itA 12 (fun k a => jn a (hsS kd hr cp br n mi dr me di re k).toInt64) (lN 58286) = a1 at qa
  have one : ∀ (c s q : Nat) (a : Int64) (w2 : am_Wd) (k2 s2 : Nat), c < 36 → s = 1 ∨ s = 2 → q < 2 → ext w1 w2 k2 s2 → ∃ w3, am_run 265 56 [some (.ref m), some (.long a), none, some (.int (nI c)), some (.int (nI s)), some (.int (nI q)), none] [] w2 = am_run 265 56 [some (.ref m), some (.long (jn a (edgS kd hr mi c s q).toInt64)), none, some (.int (nI c)), some (.int (nI s)), some (.int (nI (q + 1))), none] [] w3 ∧ ext w2 w3 1 3 := by
    intro c s q a w2 k2 s2 hc hs hq e2
    obtain ⟨w3, b3, e3⟩ := x181 (RX e2) (gJ_ext hJ1 e2) hn hk hh hm (c := c) (s := s) (k := q) hc (by omega) (by omega)
    refine ⟨w3, ?_, e3⟩
    rw [bk265_56, if_neg (by rw [nI_ltS (by decide) (by omega)]; omega)]
    simp only [bk265_62, rm_kf (RX e2), b3, bk265_76, nI_add, Option.bind_some, bct_v, bct_t, otl_s, otl_n, List.cons_append, List.nil_append, List.getElem?_cons_zero, List.getElem?_cons_succ, ↓reduceIte]
    rfl
  have side : ∀ (c s : Nat) (a : Int64) (w2 : am_Wd) (k2 s2 : Nat), c < 36 → s = 1 ∨ s = 2 → ext w1 w2 k2 s2 → ∃ w3, am_run 265 47 [some (.ref m), some (.long a), none, some (.int (nI c)), some (.int (nI s)), none, none] [] w2 = am_run 265 47 [some (.ref m), some (.long (edgJ kd hr mi c s a)), none, some (.int (nI c)), some (.int (nI (s + 1))), none, none] [] w3 ∧ ext w2 w3 2 6 := by
    intro c s a w2 k2 s2 hc hs e2
    obtain ⟨w3, b3, e3⟩ := one c s 0 a w2 _ _ hc hs (by decide) e2
    obtain ⟨w4, b4, e4⟩ := one c s 1 _ w3 _ _ hc hs (by decide) (ext_tr e2 e3)
    refine ⟨w4, ?_, ext_tr e3 e4⟩
    rw [bk265_47, if_neg (by rw [nI_ltS (by decide) (by omega)]; omega), bk265_53]
    refine Eq.trans b3 (Eq.trans b4 ?_)
    rw [bk265_56, if_pos (by rw [nI_ltS (by decide) (by decide)]; decide), bk265_85, nI_add]
    rfl
  obtain ⟨wb, qb, eb⟩ := loopE (n := 36) (kc := fun _ => 4) (sc := fun _ => 12) (F := fun c a => edgJ kd hr mi c 2 (edgJ kd hr mi c 1 a)) (a := a1) (Q := fun k a w => am_run 265 38 [some (.ref m), some (.long a), none, some (.int (nI k)), none, none, none] [] w) ea (fun j a w2 k2 s2 hj e2 => by
    try dsimp only
    obtain ⟨w3, b3, e3⟩ := side j 1 a w2 _ _ hj (Or.inl rfl) e2
    obtain ⟨w4, b4, e4⟩ := side j 2 _ w3 _ _ hj (Or.inr rfl) (ext_tr e2 e3)
    refine ⟨w4, ?_, ext_tr e3 e4⟩
    rw [bk265_38, if_neg (by rw [nI_leS (by decide) (by omega)]; omega), bk265_44]
    refine Eq.trans b3 (Eq.trans b4 ?_)
    rw [bk265_47, if_pos (by rw [nI_ltS (by decide) (by decide)]; decide), bk265_91, nI_add])
  try dsimp only at qb
  generalize h2 : itA 36 (fun c a => edgJ kd hr mi c 2 (edgJ kd hr mi c 1 a)) a1 = a2 at qb
  have e2 := ext_tr ea eb
  have Rb := RX e2
  have L := Rb.2.2.2.2.2.1
  have wlJ : wl < wb.2.1 := lt_J (gJ_ext hJ1 e2) Rb.2.2.2.2.2.2.2.2.2.2.2.2 (by decide)
  obtain ⟨wc, qc, ec, li, ci⟩ := x105 L wlJ
  have e3 := ext_tr e2 ec
  have hit : w1.2.1 ≤ wb.2.1 := e2.2.1
  generalize hitq : wb.2.1 = it at qc li ci hit
  have n1 : wl ≠ it := by omega
  have n2 : ed ≠ it := fun q => by
    have : ed < wb.2.1 := by
      rcases L.2 with ⟨-, -, -, z⟩ | ⟨-, z⟩
      · exact lt_J (gJ_ext hJ1 e2) z (by decide)
      · exact lt_J (gJ_ext hJ1 e2) z (by decide)
    omega
  have go : ∀ c, c ≤ n → ∃ w2 l, ext w1 w2 (12 + 144 + 1 + 45 * c) (144 + 432 + 4 + 3913 * c) ∧ it < w2.2.1 ∧ cO w2 it 2 (itO c l n wl) ∧ am_run 265 105 [some (.ref m), some (.long a2), none, some (.ref it), none, none, none] [] wc = am_run 265 105 [some (.ref m), some (.long (itA c (fun k a => wlkJ kd hr mi (ws k) a) a2)), none, some (.ref it), none, none, none] [] w2 := by
    intro c
    induction c with
    | zero => exact fun _ => ⟨wc, -1, ext_wk e3 (by decide) (by decide), li, ci, rfl⟩
    | succ c ih =>
      intro hc
      obtain ⟨w2, l, k1, k2, k3, k4⟩ := ih (by omega)
      have R2 := RX k1
      have z52 := x52 k3 R2.2.2.2.2.2.1 hn (by omega)
      have z103 := x103 k3 R2.2.2.2.2.2.1 hn (by omega) n1 n2
      have e4 : ext w1 (am_pt w2 it (.inr (2, itO (c + 1) (nI c) n wl))) _ _ := ext_pt k1 hit
      have q4 : cO (am_pt w2 it (.inr (2, itO (c + 1) (nI c) n wl))) it 2 (itO (c + 1) (nI c) n wl) := pt_s
      have l4 : it < (am_pt w2 it (.inr (2, itO (c + 1) (nI c) n wl))).2.1 := k2
      generalize am_pt w2 it (.inr (2, itO (c + 1) (nI c) n wl)) = w4 at z103 e4 q4 l4
      obtain ⟨o1, o2, o3, o4, o5⟩ := ho c (by omega)
      obtain ⟨w5, b5, e5⟩ := wlk265 R1 hn hJ1 hk hh hm (i := c) (by omega) (sW_eta (ws c)) o4 (hwz c (by omega)) o1 (it := it) e4 (itA c (fun k a => wlkJ kd hr mi (ws k) a) a2)
      have kw := mk_kf (rm_get (RX e4) (i := c) (by omega) (sW_eta (ws c)))
      refine ⟨w5, nI c, ext_wk (ext_tr e4 e5) (by omega) (by omega), Nat.lt_of_lt_of_le l4 e5.2.1, cO_of q4 (e5.1 it l4), k4.trans ?_⟩
      rw [bk265_105]
      simp only [kfc k3, z52, decide_eq_true (show c < n by omega), bk265_111, b2i_0, reduceCtorEq, bk265_114, z103, bk265_120, kw, bk265_123, Option.bind_some, bct_v, bct_t, otl_s, otl_n, List.cons_append, List.nil_append, List.getElem?_cons_zero, List.getElem?_cons_succ, ↓reduceIte]
      exact b5
  obtain ⟨w2, l, k1, k2, k3, k4⟩ := go n (Nat.le_refl n)
  have R2 := RX k1
  have z52 := x52 k3 R2.2.2.2.2.2.1 hn (Nat.le_refl n)
  obtain ⟨w3, b3, e5⟩ := x186 R2 (gJ_ext hJ1 k1) hn hk hh hm ho
  rw [sndS_eq hn hwz (fun i hi => (ho i hi).2.2.2.1)] at b3
  have e6 := ext_tr k1 e5
  refine ⟨w3, ?_, ⟨_, _, _, _, _, _, _, RX e6⟩, stp_wk (stp_tr s1 (stp_ext hJ1 e6)) (by omega) (by omega)⟩
  simp only [bx265, bk265_0, p1, bk265_5, Option.bind_some, bct_v, bct_t, otl_s, otl_n, List.cons_append, List.nil_append, List.getElem?_cons_zero, List.getElem?_cons_succ, ↓reduceIte]
  refine Eq.trans qa ?_
  rw [bk265_11, if_pos (by rw [nI_ltS (by decide) (by decide)]; decide), bk265_36]
  refine Eq.trans qb ?_
  rw [bk265_38, if_pos (by rw [nI_leS (by decide) (by decide)]; decide)]
  simp only [bk265_97, gfc Rb.1, oM_0, oM_1, oM_2, oM_3, oM_4, oM_5, oM_6, oM_7, oM_8, oM_9, oM_10, oM_11, bk265_101, kfc L.1, qc, bk265_104, Option.bind_some, bct_v, bct_t, otl_s, otl_n, List.cons_append, List.nil_append, List.getElem?_cons_zero, List.getElem?_cons_succ, ↓reduceIte]
  refine Eq.trans k4 ?_
  simp only [bk265_105, kfc k3, z52, decide_eq_false (Nat.lt_irrefl n), bk265_111, b2i_0, bk265_332, rm_kf R2, b3, bk265_341, Option.bind_some, bct_v, bct_t, otl_s, otl_n, List.cons_append, List.nil_append, List.getElem?_cons_zero, List.getElem?_cons_succ, ↓reduceIte]
  unfold digS
  subst h1 h2
  cases sndS kd hr mi n ws with
  | true => rw [if_neg (by decide), bk265_344, bk265_349]; rfl
  | false => rw [if_pos rfl, bk265_348, bk265_349]; rfl
end DG
end
