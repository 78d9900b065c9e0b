/-! THE REFERENCE'S CALLS: meet, done; both sum alike. Mine. -/
section CM
variable {w : am_Wd} {g : Nat → Nat} {m kq hq ca ba wl ed : Nat} {wad : Nat → Nat} {kd hr : Nat → Nat} {cp br : Nat → Bool} {n : Nat} {ws : Nat → sW} {th mi nd : Nat} {dr me di re : Int32}
variable {i a ho po ch : Nat} {lo ac bu sl : Int32} {may : Nat → Bool} {mp : Nat → Nat}
variable {j ho' po' ch' : Nat} {lo' ac' bu' sl' : Int32} {may' : Nat → Bool} {mp' : Nat → Nat}
theorem y180 (R : RMx w g m kq hq ca ba wl ed wad kd hr cp br n ws th mi nd dr me di re) (hn : n ≤ 3) (hJ : gJ w g) (hi : i < n) (hj : j < n) (hij : i ≠ j) (hy : ws i = (ho, po, ch, lo, ac, bu, sl, may, mp)) (hz : ws j = (ho', po', ch', lo', ac', bu', sl', may', mp')) (hp : po < 144) (hp' : po' < 144) (hm : mpo mp) (hm' : mpo mp') (s1 : cnt 144 may = 1) (s2 : cnt 144 may' = 1) (hc : po / 4 = po' / 4) :
    ∃ w', am_x 180 [.ref m, .int (nI i), .int (nI j)] w = some (.inl (some (.int (nI (cnt 72 (mnP mp mp'))))), w') ∧ RM w' g m kd hr cp br n (up (up ws i (mapY (mrg mp mp') (ws i))) j (mapY (mrg mp' (mrg mp mp')) (ws j))) 0 mi nd dr (me + nI 1) (di + nI (cnt 72 (dsR mp mp'))) re ∧ stp 100 800 g g 0 0 w w' := by
  obtain ⟨w1, e1, R1, f1⟩ := pre180 R hn hJ hi hj hij hy hz hp hp'
  have ev : (!decide (cnt 144 may = 1 ∧ cnt 144 may' = 1 ∧ po / 4 = po' / 4)) = false := by rw [decide_eq_true (show cnt 144 may = 1 ∧ cnt 144 may' = 1 ∧ po / 4 = po' / 4 from ⟨s1, s2, hc⟩)]; rfl
  rw [ev] at e1 R1
  have hJ1 : gJ w1 g := stp_J (stp_frm (lo := 100) (hi := 800) hJ f1 (by decide) (by decide))
  obtain ⟨w2, e2, R2, f2⟩ := loop180 R1 hn hJ1 hi hj hij hy hz hm hm' 36 (Nat.le_refl 36)
  have R3 : RMx w2 g m kq hq ca ba wl ed wad kd hr cp br n (up (up ws i (mapY (mrg mp mp') (ws i))) j (mapY (mrg mp' (mrg mp mp')) (ws j))) 0 mi nd dr me (di + nI (cnt 72 (dsR mp mp'))) re := by
    refine rm_mp R2 fun k hk => ?_
    have hk2 := R2.2.2.2.2.2.2.1 k hk
    by_cases q1 : k = j
    · subst q1
      rw [up_s] at hk2
      rw [up_s, hz]
      exact mk_mp hk2 fun p hp => mgA_b hp
    · rw [up_n q1] at hk2
      rw [up_n q1]
      by_cases q2 : k = i
      · subst q2
        rw [up_s] at hk2
        rw [up_s, hy]
        exact mk_mp hk2 fun p hp => if_pos hp
      · rw [up_n q2] at hk2
        rw [up_n q2]
        exact hk2
  obtain ⟨R4, f4⟩ := rm_m (th' := 0) (mi' := mi) (nd' := nd) (dr' := dr) (me' := me + nI 1) (di' := di + nI (cnt 72 (dsR mp mp'))) (re' := re) R3 hn
  have pf : am_pf w2 m 11 4 (.int (me + nI 1)) = some (am_pt w2 m (.inr (11, oM 0 mi nd dr (me + nI 1) (di + nI (cnt 72 (dsR mp mp'))) re kq hq ca ba wl))) := pfc R3.1 (by show 4 < 12; decide) (by decide)
  refine ⟨_, ?_, ⟨_, _, _, _, _, _, _, R4⟩, stp_frm hJ (frm_tr (frm_wk f1 (show 100 ≤ 100 by decide) (show 101 ≤ 736 by decide)) (frm_tr f2 (frm_wk f4 (by decide) (by decide)))) (Nat.le_refl 100) (show 736 ≤ 800 by decide)⟩
  rw [e1, bk180_113, if_pos (by rw [b2i_0]), bk180_118]
  refine Eq.trans e2 ?_
  rw [bk180_124, if_pos (by rw [nI_leS (by decide) (by decide)]; decide)]
  simp only [bk180_244, gfc R3.1, oM_0, oM_1, oM_2, oM_3, oM_4, oM_5, oM_6, oM_7, oM_8, oM_9, oM_10, oM_11, bk180_249, pf, bk180_254, Option.bind_some, bct_v, bct_t, otl_s, otl_n, List.cons_append, List.nil_append, List.getElem?_cons_zero, List.getElem?_cons_succ, ↓reduceIte]
theorem y180m (R : RMx w g m kq hq ca ba wl ed wad kd hr cp br n ws th mi nd dr me di re) (hn : n ≤ 3) (hJ : gJ w g) (hi : i < n) (hj : j < n) (hij : i ≠ j) (hy : ws i = (ho, po, ch, lo, ac, bu, sl, may, mp)) (hz : ws j = (ho', po', ch', lo', ac', bu', sl', may', mp')) (hp : po < 144) (hp' : po' < 144) (h0 : ¬ (cnt 144 may = 1 ∧ cnt 144 may' = 1 ∧ po / 4 = po' / 4)) :
    ∃ w', am_x 180 [.ref m, .int (nI i), .int (nI j)] w = some (.inl (some (.int (nI 0))), w') ∧ RM w' g m kd hr cp br n ws 3 mi nd dr me di re ∧ stp 100 800 g g 0 0 w w' := by
  obtain ⟨w1, e1, R1, f1⟩ := pre180 R hn hJ hi hj hij hy hz hp hp'
  rw [decide_eq_false h0] at e1 R1
  refine ⟨w1, ?_, ⟨_, _, _, _, _, _, _, R1⟩, stp_frm hJ f1 (by decide) (by decide)⟩
  rw [e1, bk180_113, if_neg (by rw [b2i_0]; decide), bk180_116]
theorem y180e (R : RMx w g m kq hq ca ba wl ed wad kd hr cp br n ws th mi nd dr me di re) (hn : n ≤ 3) (hJ : gJ w g) (hi : i < n) : ∃ w', am_x 180 [.ref m, .int (nI i), .int (nI i)] w = some (.inl (some (.int (nI 0))), w') ∧ RM w' g m kd hr cp br n ws 2 mi nd dr me di re ∧ stp 100 800 g g 0 0 w w' := by
  have z1 := x99 R (nI i)
  rw [nwk_f hn hi] at z1
  obtain ⟨w1, a1, R1, f1⟩ := x96 R hn false (c := 1) (by decide)
  have a1' : am_x 96 [.ref m, .int (nI 0), .int (nI 1)] w = _ := a1
  obtain ⟨w2, a2, R2, f2⟩ := x40 R1 hn true (c := 2) (by decide)
  have a2' : am_x 40 [.ref m, .int (nI 1), .int (nI 2)] w1 = _ := a2
  refine ⟨w2, ?_, ⟨_, _, _, _, _, _, _, R2⟩, stp_frm hJ (frm_tr f1 f2) (by decide) (by decide)⟩
  simp only [bx180, bk180_0, rm_kf R, z1, bk180_6, b2i_0, not_true_eq_false, bk180_9, bk180_14, bk180_21, bk180_22, a1', bk180_26, bk180_29, bk180_35, bk180_40, rm_kf R1, a2', bk180_44, reduceCtorEq, bk180_47, Option.bind_some, bct_v, bct_t, otl_s, otl_n, List.cons_append, List.nil_append, List.getElem?_cons_zero, List.getElem?_cons_succ, ↓reduceIte]
theorem y180n (R : RMx w g m kq hq ca ba wl ed wad kd hr cp br n ws th mi nd dr me di re) (hn : n ≤ 3) (hJ : gJ w g) {z z2 : Int32} (hz : z < nI 0 ∨ nI n ≤ z) : ∃ w', am_x 180 [.ref m, .int z, .int z2] w = some (.inl (some (.int (nI 0))), w') ∧ RM w' g m kd hr cp br n ws 1 mi nd dr me di re ∧ stp 100 800 g g 0 0 w w' := by
  have z1 := x99 R z
  rw [nwk_t hn hz] at z1
  obtain ⟨w1, a1, R1, f1⟩ := x96 R hn true (c := 1) (by decide)
  have a1' : am_x 96 [.ref m, .int (nI 1), .int (nI 1)] w = _ := a1
  refine ⟨w1, ?_, ⟨_, _, _, _, _, _, _, R1⟩, stp_frm hJ f1 (by decide) (by decide)⟩
  simp only [bx180, bk180_0, rm_kf R, z1, bk180_6, b2i_0, reduceCtorEq, not_false_eq_true, bk180_17, bk180_22, a1', bk180_26, bk180_47, Option.bind_some, bct_v, bct_t, otl_s, otl_n, List.cons_append, List.nil_append, List.getElem?_cons_zero, List.getElem?_cons_succ, ↓reduceIte]
theorem y180o (R : RMx w g m kq hq ca ba wl ed wad kd hr cp br n ws th mi nd dr me di re) (hn : n ≤ 3) (hJ : gJ w g) (hi : i < n) {z2 : Int32} (hz : z2 < nI 0 ∨ nI n ≤ z2) : ∃ w', am_x 180 [.ref m, .int (nI i), .int z2] w = some (.inl (some (.int (nI 0))), w') ∧ RM w' g m kd hr cp br n ws 1 mi nd dr me di re ∧ stp 100 800 g g 0 0 w w' := by
  have z1 := x99 R (nI i)
  rw [nwk_f hn hi] at z1
  have z2' := x99 R z2
  rw [nwk_t hn hz] at z2'
  obtain ⟨w1, a1, R1, f1⟩ := x96 R hn true (c := 1) (by decide)
  have a1' : am_x 96 [.ref m, .int (nI 1), .int (nI 1)] w = _ := a1
  refine ⟨w1, ?_, ⟨_, _, _, _, _, _, _, R1⟩, stp_frm hJ f1 (by decide) (by decide)⟩
  simp only [bx180, bk180_0, rm_kf R, z1, bk180_6, b2i_0, reduceCtorEq, not_true_eq_false, not_false_eq_true, bk180_9, z2', bk180_14, bk180_17, bk180_22, a1', bk180_26, bk180_47, Option.bind_some, bct_v, bct_t, otl_s, otl_n, List.cons_append, List.nil_append, List.getElem?_cons_zero, List.getElem?_cons_succ, ↓reduceIte]
end CM
/-! the sums of a meeting -/
theorem unk_c {mp : Nat → Nat} : unkN mp = cnt 72 (fun k => wiP k && mp k == 0) := by
  unfold unkN
  show _ = cnt (2 * 36) (fun k => wiP k && mp k == 0)
  rw [cnt_2]
  refine congr (congrArg HAdd.hAdd (cnt_cg 36 fun c hc => ?_)) (cnt_cg 36 fun c hc => ?_)
  · unfold unkP
    rw [kno_1]
    cases wiP (2 * c) <;> simp
  · unfold unkP
    rw [kno_2]
    cases wiP (2 * c + 1) <;> simp
theorem cnt_f0 : cnt 72 (fun _ => false) = 0 := cnt_ff 72
theorem meet_n {mp mq : Nat → Nat} (hz : mpz mp) (hz' : mpz mq) : nI (unkN mp) - nI (unkN (mrg mp mq)) + (nI (unkN mq) - nI (unkN (mrg mq (mrg mp mq)))) = nI (cnt 72 (mnP mp mq)) := by
  have a : cnt 72 (fun k => wiP k && mp k == 0) + cnt 72 (fun _ => false) = cnt 72 (fun k => wiP k && mrg mp mq k == 0) + cnt 72 (fun k => wiP k && (mp k == 0 && !(mq k == 0))) := cnt_ad 72 fun k hk => by
    unfold mrg
    cases wiP k with
    | false => rfl
    | true =>
      by_cases e : mp k = 0
      · rw [if_pos e, e]
        by_cases e2 : mq k = 0
        · rw [e2]; rfl
        · have : (mq k == 0) = false := by simpa using e2
          rw [this]; rfl
      · rw [if_neg e]
        have : (mp k == 0) = false := by simpa using e
        rw [this]; rfl
  have b : cnt 72 (fun k => wiP k && mq k == 0) + cnt 72 (fun _ => false) = cnt 72 (fun k => wiP k && mrg mq (mrg mp mq) k == 0) + cnt 72 (fun k => wiP k && (mq k == 0 && !(mp k == 0))) := cnt_ad 72 fun k hk => by
    unfold mrg
    cases wiP k with
    | false => rfl
    | true =>
      by_cases e : mq k = 0
      · rw [if_pos e, e]
        by_cases e2 : mp k = 0
        · rw [e2]; rfl
        · rw [if_neg e2]
          have : (mp k == 0) = false := by simpa using e2
          rw [this]; rfl
      · rw [if_neg e]
        have : (mq k == 0) = false := by simpa using e
        rw [this]; rfl
  have c : cnt 72 (mnP mp mq) + cnt 72 (fun _ => false) = cnt 72 (fun k => wiP k && (mp k == 0 && !(mq k == 0))) + cnt 72 (fun k => wiP k && (mq k == 0 && !(mp k == 0))) := cnt_ad 72 fun k hk => by
    unfold mnP
    cases e : wiP k with
    | false => rw [hz k hk e, hz' k hk e]; rfl
    | true =>
      by_cases e1 : mp k = 0
      · by_cases e2 : mq k = 0
        · rw [e1, e2]; rfl
        · have h1 : (mq k == 0) = false := by simpa using e2
          have h2 : (0 == mq k) = false := by simpa using fun x => e2 x.symm
          rw [e1, h1, h2]; rfl
      · have h1 : (mp k == 0) = false := by simpa using e1
        by_cases e2 : mq k = 0
        · rw [e2, h1]; rfl
        · have h2 : (mq k == 0) = false := by simpa using e2
          rw [h1, h2]
          simp
  rw [cnt_f0] at a b c
  rw [unk_c, unk_c, unk_c, unk_c, nI_subS (by omega), nI_subS (by omega), nI_add]
  exact congrArg nI (by omega)
theorem dsp_c {mp mq : Nat → Nat} (hz : mpz mp) (hz' : mpz mq) (hm : mpo mp) (hm' : mpo mq) : dspN mp mq = cnt 72 (dsR mp mq) := by
  have a : cnt 72 (dsR mp mq) + cnt 72 (fun _ => false) = cnt 72 (fun k => wiP k && (mp k == 1 && mq k == 2)) + cnt 72 (fun k => wiP k && (mp k == 2 && mq k == 1)) := cnt_ad 72 fun k hk => by
    unfold dsR
    cases e : wiP k with
    | false => rw [hz k hk e, hz' k hk e]; rfl
    | true =>
      have h1 := hm k
      have h2 := hm' k
      rcases (show mp k = 0 ∨ mp k = 1 ∨ mp k = 2 by omega) with e1 | e1 | e1 <;> rcases (show mq k = 0 ∨ mq k = 1 ∨ mq k = 2 by omega) with e2 | e2 | e2 <;> rw [e1, e2] <;> rfl
  have b1 : cnt 72 (fun k => wiP k && (mp k == 1 && mq k == 2)) = cnt 36 (fun c => kno mp c 1 == 1 && kno mq c 1 == 2) + cnt 36 (fun c => kno mp c 2 == 1 && kno mq c 2 == 2) := by
    show cnt (2 * 36) _ = _
    rw [cnt_2]
    refine congr (congrArg HAdd.hAdd (cnt_cg 36 fun c hc => ?_)) (cnt_cg 36 fun c hc => ?_)
    · rw [kno_1, kno_1]
      cases wiP (2 * c) <;> rfl
    · rw [kno_2, kno_2]
      cases wiP (2 * c + 1) <;> rfl
  have b2 : cnt 72 (fun k => wiP k && (mp k == 2 && mq k == 1)) = cnt 36 (fun c => kno mp c 1 == 2 && kno mq c 1 == 1) + cnt 36 (fun c => kno mp c 2 == 2 && kno mq c 2 == 1) := by
    show cnt (2 * 36) _ = _
    rw [cnt_2]
    refine congr (congrArg HAdd.hAdd (cnt_cg 36 fun c hc => ?_)) (cnt_cg 36 fun c hc => ?_)
    · rw [kno_1, kno_1]
      cases wiP (2 * c) <;> rfl
    · rw [kno_2, kno_2]
      cases wiP (2 * c + 1) <;> rfl
  rw [cnt_f0] at a
  unfold dspN dspP
  omega
