/-! THE REFERENCE'S CALLS: forward, on. Mine. -/
section CH
variable {w : am_Wd} {g : Nat → Nat} {m kq hq ca ba wl ed : Nat} {wad : Nat → Nat} {kd hr : Nat → Nat} {cp br : Nat → Bool} {n : Nat} {ws : Nat → sW} {th mi nd : Nat} {dr me di re : Int32}
variable {i a ho po ch : Nat} {lo ac bu sl : Int32} {may : Nat → Bool} {mp : Nat → Nat}
theorem rm_lrn (R : RMx w g m kq hq ca ba wl ed wad kd hr cp br n ws th mi nd dr me di re) (hn : n ≤ 3) (hi : i < n) (hy : ws i = (ho, po, ch, lo, ac, bu, sl, may, mp)) {c s : Nat} (hc : c < 36) (hs : s < 4) (b : Bool) : ∃ w', am_x 175 [.ref (wad i), .int (nI c), .int (nI s), .int (b2i b)] w = some (.inl none, w') ∧ RMx w' g m kq hq ca ba wl ed wad kd hr cp br n (up ws i (ho, po, ch, lo, ac, bu, sl, may, putM mp c s b)) th mi nd dr me di re ∧ frm g (400 + 100 * i) (436 + 100 * i) w w' := by
  obtain ⟨w', a1, a2, a3⟩ := x175 (rm_get R hi hy) (by omega) hc hs b
  exact ⟨w', a1, rm_wk R hn hi a2 (fun b _ z2 => a3.1 b z2) (by rw [a3.2]), a3⟩
theorem tail260 (R : RMx w g m kq hq ca ba wl ed wad kd hr cp br n ws th mi nd dr me di re) (hn : n ≤ 3) (hJ : gJ w g) (hi : i < n) (hy : ws i = (ho, po, ch, lo, ac, bu, sl, may, mp)) (hmp : mpo mp) (hch : 1 ≤ ch) (b : Bool) :
    ∃ w' g', am_run 260 221 [some (.ref m), none, none, some (.ref (wad i)), some (.int (no (sureP may))), none, none, none, some (.int (b2i b)), none] [] w = some (.inl (some (.int (b2i b))), w') ∧ RMx w' g' m kq hq ca ba wl ed wad kd hr cp br n (up ws i (ho, po, ch - 1, anewL lo (mayF may (putF may mp b) b), ac + nI 1, (if b = true then bu + nI 1 else bu), sl, anewM (mayF may (putF may mp b) b), putF may mp b)) th (mi + 1) nd dr me di re ∧ stp 100 800 g g' 1 144 w w' := by
  -- the bump
  obtain ⟨ma, mq, c1, R1, f1⟩ := rm_fld R hn hi hy ho po ch lo ac (if b = true then bu + nI 1 else bu) sl
  have p1 : am_pf w (wad i) 10 7 (.int (if b = true then bu + nI 1 else bu)) = some (am_pt w (wad i) (.inr (10, oK po ho ch ma mq lo ac (if b = true then bu + nI 1 else bu) sl))) := pfc c1 (by show 7 < 9; decide) (by decide)
  generalize am_pt w (wad i) (.inr (10, oK po ho ch ma mq lo ac (if b = true then bu + nI 1 else bu) sl)) = w1 at R1 f1 p1
  have s1 := stp_frm (lo := 100) (hi := 800) hJ f1 (by omega) (by omega)
  have e1 : am_run 260 221 [some (.ref m), none, none, some (.ref (wad i)), some (.int (no (sureP may))), none, none, none, some (.int (b2i b)), none] [] w = am_run 260 240 [some (.ref m), none, none, some (.ref (wad i)), some (.int (no (sureP may))), none, none, none, some (.int (b2i b)), none] [] w1 := by
    cases b with
    | true =>
      rw [if_pos rfl] at p1
      simp only [bk260_221, gfc c1, oK_0, oK_1, oK_2, oK_3, oK_4, oK_5, oK_6, oK_7, oK_8, bk260_226, b2i_0, reduceCtorEq, bk260_231, bk260_236, p1, Option.bind_some, bct_v, bct_t, otl_s, otl_n, List.cons_append, List.nil_append, List.getElem?_cons_zero, List.getElem?_cons_succ, ↓reduceIte]
    | false =>
      rw [if_neg (by decide)] at p1
      simp only [bk260_221, gfc c1, oK_0, oK_1, oK_2, oK_3, oK_4, oK_5, oK_6, oK_7, oK_8, bk260_226, b2i_0, bk260_235, bk260_236, i_add0, p1, Option.bind_some, bct_v, bct_t, otl_s, otl_n, List.cons_append, List.nil_append, List.getElem?_cons_zero, List.getElem?_cons_succ, ↓reduceIte]
  -- what is learned
  have lr : ∃ w2, am_run 260 240 [some (.ref m), none, none, some (.ref (wad i)), some (.int (no (sureP may))), none, none, none, some (.int (b2i b)), none] [] w1 = am_run 260 260 [some (.ref m), none, none, some (.ref (wad i)), none, none, none, none, some (.int (b2i b)), none] [] w2 ∧ RMx w2 g m kq hq ca ba wl ed wad kd hr cp br n (up ws i (ho, po, ch, lo, ac, (if b = true then bu + nI 1 else bu), sl, may, putF may mp b)) th mi nd dr me di re ∧ frm g 400 736 w1 w2 := by
    unfold putF
    cases es : sureP may with
    | none =>
      refine ⟨w1, ?_, R1, frm_rf⟩
      rw [bk260_240, if_pos (show no none = (-1 : Int32) from rfl)]
    | some p =>
      have hp := (sure_lt es).1
      obtain ⟨w2, a2, R2, f2⟩ := rm_lrn R1 hn hi up_s (c := p / 4) (s := p % 4) (by omega) (by omega) b
      rw [up_up] at R2
      refine ⟨w2, ?_, R2, frm_wk f2 (by omega) (by omega)⟩
      rw [bk260_240, if_neg (show ¬ no (some p) = (-1 : Int32) by show ¬ nI p = -1; rw [nI_m1S (by omega)]; exact id)]
      simp only [no, bk260_246, nI_divS (show p < 2147483648 by omega) (show 0 < 4 by decide) (show 4 < 2147483648 by decide), nI_remS (show p < 2147483648 by omega) (show 0 < 4 by decide) (show 4 < 2147483648 by decide), a2, Option.bind_some, bct_v, bct_t, otl_s, otl_n, List.cons_append, List.nil_append, List.getElem?_cons_zero, List.getElem?_cons_succ, ↓reduceIte]
  obtain ⟨w2, e2, R2, f2⟩ := lr
  have s2 := stp_tr s1 (stp_frm (lo := 100) (hi := 800) (stp_J s1) f2 (by decide) (by decide))
  have hm2 : mpo (putF may mp b) := by
    unfold putF
    cases sureP may with
    | none => exact hmp
    | some p => exact putM_ok hmp _ _ _
  obtain ⟨F, hF, a3⟩ := x209 (stp_J s2) hm2 (rm_get R2 hi up_s) b
  obtain ⟨w4, a4, R4, s4⟩ := took R2 hn (stp_J s2) hi up_s hF
  rw [up_up] at R4
  obtain ⟨w5, a5, R5, f5⟩ := x46 R4 hn hi up_s hch
  rw [up_up] at R5
  have s5 := stp_tr (stp_tr s2 s4) (stp_frm (lo := 100) (hi := 800) (stp_J s4) f5 (by decide) (by decide))
  refine ⟨w5, _, ?_, R5, stp_wk s5 (by omega) (by omega)⟩
  rw [e1, e2]
  simp only [bk260_260, a3, bk260_267, a4, bk260_270, rm_kf R4, a5, Option.bind_some, bct_v, bct_t, otl_s, otl_n, List.cons_append, List.nil_append, List.getElem?_cons_zero, List.getElem?_cons_succ, ↓reduceIte]
  exact bk260_275 (by cases b <;> rfl)
/-- forward -/
theorem y260 (R : RMx w g m kq hq ca ba wl ed wad kd hr cp br n ws th mi nd dr me di re) (hn : n ≤ 3) (hJ : gJ w g) (hk : kdok kd) (hh : hrok hr) (hd : nd < 127) (hm : mi ≤ 3000) (hi : i < n) (hy : ws i = (ho, po, ch, lo, ac, bu, sl, may, mp)) (hp : po < 144) (hc : ch ≤ 500) (hho : ho < 36) (hmp : mpo mp) (f : Bool) (hr0 : refW mi (ws i) f = false) (hb0 : barA may br = false) :
    ∃ w' g', am_x 260 [.ref m, .int (nI i), .int (b2i f)] w = some (.inl (some (.int (b2i (bmpB kd hr mi po)))), w') ∧ RM w' g' m kd hr cp br n (up ws i (fwdY kd hr cp mi nd (ws i))) 0 (mi + 1) (if bmpB kd hr mi po = true then nd else if cp (po / 4) = true then (29 * nd + 13) % 127 else nd) (if bmpB kd hr mi po = true then dr else if cp (po / 4) = true then dr + nI 1 else dr) me di re ∧ stp 100 800 g g' 5 288 w w' := by
  have hch : 1 ≤ ch := (refW_f (hy ▸ hr0)).1
  obtain ⟨w1, e1, R1, s1⟩ := pre260 R hn hJ hm hi hy hc hho hmp f
  rw [hr0, hb0] at e1 R1
  have e1' : am_x 260 [.ref m, .int (nI i), .int (b2i f)] w = am_run 260 91 [some (.ref m), none, none, some (.ref (wad i)), some (.int (no (sureP may))), none, none, none, none, none] [.int (nI 0)] w1 := e1
  have h1 := rm_get R1 hi hy
  have z173 := x173 R1 hk hh hm (c := po / 4) (s := po % 4) (by omega) (by omega)
  have kf1 := mk_kf h1
  obtain ⟨ma, mq, c1, -⟩ := h1
  have hbn : bmpB kd hr mi po = false → nb (po / 4) (po % 4) ≠ none := fun h q => by
    unfold bmpB clsS at h
    rw [q] at h
    cases h
  obtain ⟨w2, e2, R2, f2⟩ := mid260 R1 hn (stp_J s1) hd hi hy hp (bmpB kd hr mi po) hbn (no (sureP may))
  have s2 := stp_tr s1 (stp_frm (lo := 100) (hi := 800) (stp_J s1) f2 (by decide) (by decide))
  obtain ⟨w3, g3, e3, R3, s3⟩ := tail260 R2 hn (stp_J s2) hi up_s hmp hch (bmpB kd hr mi po)
  rw [up_up] at R3
  refine ⟨w3, g3, ?_, ⟨_, _, _, _, _, _, _, by rw [hy]; exact R3⟩, stp_wk (stp_tr s2 s3) (by omega) (by omega)⟩
  rw [e1']
  refine Eq.trans ?_ (e2.trans e3)
  have z' : am_x 173 [.ref m, .int (nI (po / 4)), .int (nI (po % 4))] w1 = some (.inl (some (.int (b2i (bmpB kd hr mi po)))), w1) := z173
  simp only [bk260_91, bk260_96, kf1, x38 c1 hp, bk260_100, gfc c1, oK_0, oK_1, oK_2, oK_3, oK_4, oK_5, oK_6, oK_7, oK_8, bk260_106, rm_kf R1, nI_remS (show po < 2147483648 by omega) (show 0 < 4 by decide) (show 4 < 2147483648 by decide), z', Option.bind_some, bct_v, bct_t, otl_s, otl_n, List.cons_append, List.nil_append, List.getElem?_cons_zero, List.getElem?_cons_succ, ↓reduceIte]
theorem y260r (R : RMx w g m kq hq ca ba wl ed wad kd hr cp br n ws th mi nd dr me di re) (hn : n ≤ 3) (hJ : gJ w g) (hm : mi ≤ 3000) (hi : i < n) (hy : ws i = (ho, po, ch, lo, ac, bu, sl, may, mp)) (hc : ch ≤ 500) (hho : ho < 36) (hmp : mpo mp) (f : Bool) (h0 : refW mi (ws i) f = true ∨ barA may br = true) :
    ∃ w', am_x 260 [.ref m, .int (nI i), .int (b2i f)] w = some (.inl (some (.int (nI 0))), w') ∧ RM w' g m kd hr cp br n ws 2 mi nd dr me di re ∧ stp 100 800 g g 4 144 w w' := by
  obtain ⟨w1, e1, R1, s1⟩ := pre260 R hn hJ hm hi hy hc hho hmp f
  have ev : (refW mi (ws i) f || barA may br) = true := by rw [Bool.or_eq_true]; exact h0
  rw [ev] at e1 R1
  refine ⟨w1, ?_, ⟨_, _, _, _, _, _, _, R1⟩, s1⟩
  rw [e1, bk260_91, if_neg (by rw [b2i_0]; decide), bk260_94]
theorem y260n (R : RMx w g m kq hq ca ba wl ed wad kd hr cp br n ws th mi nd dr me di re) (hn : n ≤ 3) (hJ : gJ w g) {z z2 : Int32} (hz : z < nI 0 ∨ nI n ≤ z) : ∃ w', am_x 260 [.ref m, .int z, .int z2] w = some (.inl (some (.int (nI 0))), w') ∧ RM w' g m kd hr cp br n ws 1 mi nd dr me di re ∧ stp 100 800 g g 0 0 w w' := by
  have z1 := x99 R z
  rw [nwk_t hn hz] at z1
  obtain ⟨w1, a1, R1, f1⟩ := x96 R hn true (c := 1) (by decide)
  refine ⟨w1, ?_, ⟨_, _, _, _, _, _, _, R1⟩, stp_frm hJ f1 (by decide) (by decide)⟩
  simp only [bx260, bk260_0, rm_kf R, z1, bk260_6, a1, bk260_10, b2i_0, reduceCtorEq, bk260_13, Option.bind_some, bct_v, bct_t, otl_s, otl_n, List.cons_append, List.nil_append, List.getElem?_cons_zero, List.getElem?_cons_succ, ↓reduceIte]
end CH
