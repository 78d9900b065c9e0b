/-! THE REFERENCE'S CALLS: forward. Mine. -/
theorem i_add0 (x : Int32) : x + nI 0 = x := Int32.add_zero x
section CG
variable {w : am_Wd} {g : Nat → Nat} {m kq hq ca ba wl ed : Nat} {wad : Nat → Nat} {kd hr : Nat → Nat} {cp br : Nat → Bool} {n : Nat} {ws : Nat → sW} {th mi nd : Nat} {dr me di re : Int32}
variable {i a ho po ch : Nat} {lo ac bu sl : Int32} {may : Nat → Bool} {mp : Nat → Nat}
theorem pre260 (R : RMx w g m kq hq ca ba wl ed wad kd hr cp br n ws th mi nd dr me di re) (hn : n ≤ 3) (hJ : gJ w g) (hm : mi ≤ 3000) (hi : i < n) (hy : ws i = (ho, po, ch, lo, ac, bu, sl, may, mp)) (hc : ch ≤ 500) (hho : ho < 36) (hmp : mpo mp) (f : Bool) :
    ∃ w', am_x 260 [.ref m, .int (nI i), .int (b2i f)] w = am_run 260 91 [some (.ref m), none, none, some (.ref (wad i)), some (.int (no (sureP may))), none, none, none, none, none] [.int (b2i (refW mi (ws i) f || barA may br))] w' ∧ RMx w' g m kq hq ca ba wl ed wad kd hr cp br n ws (if (refW mi (ws i) f || barA may br) = true then 2 else 0) mi nd dr me di re ∧ stp 100 800 g g 4 144 w w' := by
  have z1 := x99 R (nI i)
  rw [nwk_f hn hi] at z1
  obtain ⟨w1, a1, R1, f1⟩ := x96 R hn false (c := 1) (by decide)
  have s1 := stp_frm (lo := 100) (hi := 800) hJ f1 (by decide) (by decide)
  have v1 := x150 (rm_L R1) hn hi
  have h1 := rm_get R1 hi hy
  have k1 := mk_kf h1
  have z95 := x95 h1
  obtain ⟨w2, a2, e2⟩ := x258 R1 hn (stp_J s1) hm hi hy hmp hho hc f
  rw [← hy] at a2
  have R2 := rm_ext R1 hn (stp_J s1) e2
  have s2 := stp_tr s1 (stp_ext (stp_J s1) e2)
  obtain ⟨w3, a3, R3, f3⟩ := x40 R2 hn (refW mi (ws i) f || barA may br) (c := 2) (by decide)
  have s3 := stp_tr s2 (stp_frm (lo := 100) (hi := 800) (stp_J s2) f3 (by decide) (by decide))
  refine ⟨w3, ?_, R3, stp_wk s3 (by omega) (by omega)⟩
  -- to the refusal
  have fin : ∀ v, (refW mi (ws i) f || barA may br) = v → am_run 260 87 [some (.ref m), none, none, some (.ref (wad i)), some (.int (no (sureP may))), none, none, none, none, none] [.int (b2i v), .ref m] w2 = am_run 260 91 [some (.ref m), none, none, some (.ref (wad i)), some (.int (no (sureP may))), none, none, none, none, none] [.int (b2i v)] w3 := by
    intro v hv
    rw [hv] at a3
    simp only [bk260_87, rm_kf R2, a3, Option.bind_some, bct_v, bct_t, otl_s, otl_n, List.cons_append, List.nil_append, List.getElem?_cons_zero, List.getElem?_cons_succ, ↓reduceIte]
  have mid : ∀ t : Option Nat, (∀ d, t = some d → d < 36) → barA may br = (match t with | none => false | some d => br d) → am_run 260 54 [some (.ref m), none, some (.int (b2i f)), some (.ref (wad i)), some (.int (no (sureP may))), none, none, none, none, none] [.int (no t)] w1 = am_run 260 91 [some (.ref m), none, none, some (.ref (wad i)), some (.int (no (sureP may))), none, none, none, none, none] [.int (b2i (refW mi (ws i) f || barA may br))] w3 := by
    intro t ht hbt
    simp only [bk260_54, rm_kf R1, a2, bk260_63, b2i_0, Option.bind_some, bct_v, bct_t, otl_s, otl_n, List.cons_append, List.nil_append, List.getElem?_cons_zero, List.getElem?_cons_succ, ↓reduceIte]
    cases q : refW mi (ws i) f with
    | true =>
      rw [if_pos (fun x => nomatch x), bk260_82]
      exact fin true (by rw [q]; rfl)
    | false =>
      rw [if_neg (fun x => x rfl), bk260_66]
      cases t with
      | none =>
        rw [if_pos (show no none = (-1 : Int32) from rfl), bk260_86, hbt]
        exact fin false (by rw [q, hbt]; rfl)
      | some d =>
        have hd := ht d rfl
        rw [if_neg (no_hd hd)]
        have rb := ric R2.2.2.2.2.1 (i := d) rfl hd (by decide)
        have rb' : am_ri 2 w2 ba (nI d) = some (b2i (br d)) := rb
        simp only [no, bk260_72, gfc R2.1, oM_0, oM_1, oM_2, oM_3, oM_4, oM_5, oM_6, oM_7, oM_8, oM_9, oM_10, oM_11, bk260_76, rb', bk260_79, b2i_0, Option.bind_some, bct_v, bct_t, otl_s, otl_n, List.cons_append, List.nil_append, List.getElem?_cons_zero, List.getElem?_cons_succ, ↓reduceIte]
        cases y : br d with
        | true =>
          rw [if_neg (fun x => nomatch x), bk260_82, hbt]
          show _ = am_run 260 91 _ [.int (b2i (false || br d))] w3
          rw [y]
          exact fin true (by rw [q, hbt]; exact y)
        | false =>
          rw [if_pos rfl, bk260_86, hbt]
          show _ = am_run 260 91 _ [.int (b2i (false || br d))] w3
          rw [y]
          exact fin false (by rw [q, hbt]; exact y)
  cases es : sureP may with
  | none =>
    rw [es] at z95 mid
    have z95' : am_x 95 [.ref (wad i)] w1 = some (.inl (some (.int (-1))), w1) := z95
    have mid' := mid none (fun d h => nomatch h) (by unfold barA; rw [es])
    refine Eq.trans ?_ mid'
    simp only [bx260, bk260_0, rm_kf R, z1, bk260_6, a1, bk260_10, b2i_0, bk260_15, gfc R1.1, oM_0, oM_1, oM_2, oM_3, oM_4, oM_5, oM_6, oM_7, oM_8, oM_9, oM_10, oM_11, bk260_19, rm_lk R1, v1, bk260_23, k1, bk260_26, z95', bk260_31, not_true_eq_false, bk260_39, no, Option.bind_some, bct_v, bct_t, otl_s, otl_n, List.cons_append, List.nil_append, List.getElem?_cons_zero, List.getElem?_cons_succ, ↓reduceIte]
  | some p =>
    have hp := (sure_lt es).1
    rw [es] at z95 mid
    have z95' : am_x 95 [.ref (wad i)] w1 = some (.inl (some (.int (nI p))), w1) := z95
    have y := x100 (w := w1) (c := p / 4) (s := p % 4) (by omega) (by omega)
    have mid' := mid (nb (p / 4) (p % 4)) (fun d h => nb_lt (by omega) (by omega) h) (by unfold barA; rw [es]; rfl)
    refine Eq.trans ?_ mid'
    simp only [bx260, bk260_0, rm_kf R, z1, bk260_6, a1, bk260_10, b2i_0, bk260_15, gfc R1.1, oM_0, oM_1, oM_2, oM_3, oM_4, oM_5, oM_6, oM_7, oM_8, oM_9, oM_10, oM_11, bk260_19, rm_lk R1, v1, bk260_23, k1, bk260_26, z95', bk260_31, nI_m1S (show p < 2147483648 by omega), not_false_eq_true, bk260_43, nI_divS (show p < 2147483648 by omega) (show 0 < 4 by decide) (show 4 < 2147483648 by decide), nI_remS (show p < 2147483648 by omega) (show 0 < 4 by decide) (show 4 < 2147483648 by decide), y, Option.bind_some, bct_v, bct_t, otl_s, otl_n, List.cons_append, List.nil_append, List.getElem?_cons_zero, List.getElem?_cons_succ, ↓reduceIte]
    rfl
/-- a step, or a slip -/
theorem mid260 (R : RMx w g m kq hq ca ba wl ed wad kd hr cp br n ws th mi nd dr me di re) (hn : n ≤ 3) (hJ : gJ w g) (hd : nd < 127) (hi : i < n) (hy : ws i = (ho, po, ch, lo, ac, bu, sl, may, mp)) (hp : po < 144) (b : Bool) (hb : b = false → nb (po / 4) (po % 4) ≠ none) (q : Int32) :
    ∃ w', am_run 260 118 [some (.ref m), none, none, some (.ref (wad i)), some (.int q), none, some (.int (nI (po / 4))), some (.int (nI (po % 4))), none, none] [.int (b2i b)] w = am_run 260 221 [some (.ref m), none, none, some (.ref (wad i)), some (.int q), none, none, none, some (.int (b2i b)), none] [] w' ∧ RMx w' g m kq hq ca ba wl ed wad kd hr cp br n (up ws i (ho, (if b = true then po else if slipB cp nd po = true then po else stepW po), ch, lo, ac, bu, (if b = true then sl else if slipB cp nd po = true then sl + nI 1 else sl), may, mp)) th mi (if b = true then nd else if cp (po / 4) = true then (29 * nd + 13) % 127 else nd) (if b = true then dr else if cp (po / 4) = true then dr + nI 1 else dr) me di re ∧ frm g 100 141 w w' := by
  cases b with
  | true =>
    refine ⟨w, ?_, ?_, frm_rf⟩
    · rw [bk260_118, if_pos (by rw [b2i_0]; decide)]
    · rw [if_pos rfl, if_pos rfl, if_pos rfl, if_pos rfl, up_id hy]
      exact R
  | false =>
    simp only [Bool.false_eq_true, if_false]
    have hne := hb rfl
    obtain ⟨ma0, mq0, c0, -⟩ := rm_fld R hn hi hy ho po ch lo ac bu sl
    have rc := ric R.2.2.2.1 (i := po / 4) rfl (by omega) (by decide)
    have rc' : am_ri 2 w ca (nI (po / 4)) = some (b2i (cp (po / 4))) := rc
    obtain ⟨d, ed⟩ : ∃ d, nb (po / 4) (po % 4) = some d := by
      cases e : nb (po / 4) (po % 4) with
      | none => exact absurd e hne
      | some d => exact ⟨d, rfl⟩
    have hd36 := nb_lt (show po / 4 < 36 by omega) (show po % 4 < 4 by omega) ed
    have y := fun w => x100 (w := w) (c := po / 4) (s := po % 4) (by omega) (by omega)
    rw [ed] at y
    have y' : ∀ w, am_x 100 [.int (nI (po / 4)), .int (nI (po % 4))] w = some (.inl (some (.int (nI d))), w) := y
    have es : stepW po = 4 * d + po % 4 := by
      unfold stepW
      rw [ed]
      show d * 4 + po % 4 = _
      omega
    cases e : cp (po / 4) with
    | false =>
      rw [e] at rc'
      have hs : slipB cp nd po = false := by unfold slipB; rw [e]; rfl
      rw [hs]
      simp only [Bool.false_eq_true, if_false]
      -- slips as they were, then the step
      obtain ⟨ma, mq, c1, R1, f1⟩ := rm_fld R hn hi hy ho po ch lo ac bu sl
      have p1 : am_pf w (wad i) 10 8 (.int sl) = some (am_pt w (wad i) (.inr (10, oK po ho ch ma mq lo ac bu sl))) := pfc c1 (by show 8 < 9; decide) (by decide)
      obtain ⟨ma2, mq2, c2, R2, f2⟩ := rm_fld R1 hn hi up_s ho (stepW po) ch lo ac bu sl
      have p2 : am_pf (am_pt w (wad i) (.inr (10, oK po ho ch ma mq lo ac bu sl))) (wad i) 10 0 (.int (nI (stepW po))) = some (am_pt (am_pt w (wad i) (.inr (10, oK po ho ch ma mq lo ac bu sl))) (wad i) (.inr (10, oK (stepW po) ho ch ma2 mq2 lo ac bu sl))) := pfc c2 (by show 0 < 9; decide) (by decide)
      rw [up_up] at R2
      refine ⟨_, ?_, R2, frm_tr (frm_wk f1 (by omega) (by omega)) (frm_wk f2 (by omega) (by omega))⟩
      rw [bk260_118, if_neg (by rw [b2i_0]; decide)]
      simp only [bk260_125, gfc R.1, oM_0, oM_1, oM_2, oM_3, oM_4, oM_5, oM_6, oM_7, oM_8, oM_9, oM_10, oM_11, bk260_132, rc', bk260_135, b2i_0, bk260_181, gfc c1, oK_0, oK_1, oK_2, oK_3, oK_4, oK_5, oK_6, oK_7, oK_8, bk260_186, bk260_195, bk260_196, i_add0, p1, bk260_200, nI_eqS (show 0 < 2147483648 by decide) (show 0 < 2147483648 by decide), not_true_eq_false, bk260_205, y', bk260_214, nI_mulS, nI_add, ← es, p2, Option.bind_some, bct_v, bct_t, otl_s, otl_n, List.cons_append, List.nil_append, List.getElem?_cons_zero, List.getElem?_cons_succ, ↓reduceIte]
    | true =>
      rw [e] at rc'
      have e3 : bj_irem (nI nd) (nI 3) = nI (nd % 3) := nI_remS (by omega) (by decide) (by decide)
      have e0 : (nI (nd % 3) = nI 0) = (nd % 3 = 0) := nI_eqS (by omega) (by decide)
      have ez : bj_irem (nI 29 * nI nd + nI 13) (nI 127) = nI ((29 * nd + 13) % 127) := by rw [nI_mulS, nI_add, nI_remS (by omega) (by decide) (by decide)]
      have ez2 : bj_irem (nI (29 * nd + 13)) (nI 127) = nI ((29 * nd + 13) % 127) := nI_remS (by omega) (by decide) (by decide)
      obtain ⟨Ra, fa⟩ := rm_m (th' := th) (mi' := mi) (nd' := (29 * nd + 13) % 127) (dr' := dr) (me' := me) (di' := di) (re' := re) R hn
      have pa : am_pf w m 11 2 (.int (nI ((29 * nd + 13) % 127))) = some (am_pt w m (.inr (11, oM th mi ((29 * nd + 13) % 127) dr me di re kq hq ca ba wl))) := pfc R.1 (by show 2 < 12; decide) (by decide)
      generalize am_pt w m (.inr (11, oM th mi ((29 * nd + 13) % 127) dr me di re kq hq ca ba wl)) = wa at Ra fa pa
      obtain ⟨Rb, fb⟩ := rm_m (th' := th) (mi' := mi) (nd' := (29 * nd + 13) % 127) (dr' := dr + nI 1) (me' := me) (di' := di) (re' := re) Ra hn
      have pb : am_pf wa m 11 3 (.int (dr + nI 1)) = some (am_pt wa m (.inr (11, oM th mi ((29 * nd + 13) % 127) (dr + nI 1) me di re kq hq ca ba wl))) := pfc Ra.1 (by show 3 < 12; decide) (by decide)
      generalize am_pt wa m (.inr (11, oM th mi ((29 * nd + 13) % 127) (dr + nI 1) me di re kq hq ca ba wl)) = wb at Rb fb pb
      have fab : frm g 100 141 w wb := frm_tr (frm_wk fa (by decide) (by decide)) (frm_wk fb (by decide) (by decide))
      by_cases q3 : nd % 3 = 0
      · have hs : slipB cp nd po = true := by unfold slipB; rw [e, decide_eq_true q3]; rfl
        rw [hs]
        simp only [if_true]
        obtain ⟨ma, mq, c1, R1, f1⟩ := rm_fld Rb hn hi hy ho po ch lo ac bu (sl + nI 1)
        have p1 : am_pf wb (wad i) 10 8 (.int (sl + nI 1)) = some (am_pt wb (wad i) (.inr (10, oK po ho ch ma mq lo ac bu (sl + nI 1)))) := pfc c1 (by show 8 < 9; decide) (by decide)
        refine ⟨_, ?_, R1, frm_tr fab (frm_wk f1 (by omega) (by omega))⟩
        rw [bk260_118, if_neg (by rw [b2i_0]; decide)]
        simp only [bk260_125, gfc R.1, oM_0, oM_1, oM_2, oM_3, oM_4, oM_5, oM_6, oM_7, oM_8, oM_9, oM_10, oM_11, bk260_132, rc', bk260_135, b2i_0, reduceCtorEq, bk260_138, bk260_142, e3, e0, q3, not_true_eq_false, bk260_147, bk260_152, bk260_161, ez, pa, bk260_171, gfc Ra.1, bk260_176, pb, bk260_181, gfc c1, oK_0, oK_1, oK_2, oK_3, oK_4, oK_5, oK_6, oK_7, oK_8, bk260_186, nI_eqS (show 1 < 2147483648 by decide) (show 0 < 2147483648 by decide), show ¬ 1 = 0 from by decide, bk260_191, bk260_196, p1, bk260_200, not_false_eq_true, Option.bind_some, bct_v, bct_t, otl_s, otl_n, List.cons_append, List.nil_append, List.getElem?_cons_zero, List.getElem?_cons_succ, ↓reduceIte]
      · have hs : slipB cp nd po = false := by unfold slipB; rw [e, decide_eq_false q3]; rfl
        rw [hs]
        simp only [Bool.false_eq_true, if_false, if_true]
        obtain ⟨ma, mq, c1, R1, f1⟩ := rm_fld Rb hn hi hy ho po ch lo ac bu sl
        have p1 : am_pf wb (wad i) 10 8 (.int sl) = some (am_pt wb (wad i) (.inr (10, oK po ho ch ma mq lo ac bu sl))) := pfc c1 (by show 8 < 9; decide) (by decide)
        obtain ⟨ma2, mq2, c2, R2, f2⟩ := rm_fld R1 hn hi up_s ho (stepW po) ch lo ac bu sl
        have p2 : am_pf (am_pt wb (wad i) (.inr (10, oK po ho ch ma mq lo ac bu sl))) (wad i) 10 0 (.int (nI (stepW po))) = some (am_pt (am_pt wb (wad i) (.inr (10, oK po ho ch ma mq lo ac bu sl))) (wad i) (.inr (10, oK (stepW po) ho ch ma2 mq2 lo ac bu sl))) := pfc c2 (by show 0 < 9; decide) (by decide)
        rw [up_up] at R2
        refine ⟨_, ?_, R2, frm_tr fab (frm_tr (frm_wk f1 (by omega) (by omega)) (frm_wk f2 (by omega) (by omega)))⟩
        rw [bk260_118, if_neg (by rw [b2i_0]; decide)]
        simp only [bk260_125, gfc R.1, oM_0, oM_1, oM_2, oM_3, oM_4, oM_5, oM_6, oM_7, oM_8, oM_9, oM_10, oM_11, bk260_132, rc', bk260_135, b2i_0, reduceCtorEq, bk260_138, bk260_142, e3, e0, q3, not_false_eq_true, bk260_151, bk260_152, bk260_161, ez2, pa, bk260_171, gfc Ra.1, bk260_176, pb, bk260_181, gfc c1, oK_0, oK_1, oK_2, oK_3, oK_4, oK_5, oK_6, oK_7, oK_8, bk260_186, bk260_195, bk260_196, i_add0, p1, bk260_200, nI_eqS (show 0 < 2147483648 by decide) (show 0 < 2147483648 by decide), not_true_eq_false, bk260_205, y', bk260_214, nI_mulS, nI_add, ← es, p2, Option.bind_some, bct_v, bct_t, otl_s, otl_n, List.cons_append, List.nil_append, List.getElem?_cons_zero, List.getElem?_cons_succ, ↓reduceIte]
end CG
