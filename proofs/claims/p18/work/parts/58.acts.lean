/-! THE CLASS'S ACTS. Mine. -/
theorem up_up {α : Type} {f : Nat → α} {i : Nat} {a b : α} : up (up f i a) i b = up f i b := by
  funext j
  unfold up
  by_cases h : j = i
  · rw [if_pos h, if_pos h]
  · rw [if_neg h, if_neg h, if_neg h]
theorem up_id {α : Type} {f : Nat → α} {i : Nat} {a : α} (h : f i = a) : up f i a = f := by
  funext j
  unfold up
  by_cases e : j = i
  · rw [if_pos e, e, h]
  · rw [if_neg e]
section ACT
variable {w : am_Wd} {g : Nat → Nat} {x fl ka ha wr C B : Nat} {wad : Nat → Nat} {kd hr : Nat → Nat} {cp br : Nat → Bool} {n : Nat} {ws : Nat → sW} {mi nd : Nat} {dr me di re : Int32}
variable {i ho po ch : Nat} {lo ac bu sl : Int32} {may : Nat → Bool} {mp : Nat → Nat}
theorem rc_get (R : RCx w g x fl ka ha wr C B wad kd hr cp br n ws mi nd dr me di re) (hi : i < n) (hy : ws i = (ho, po, ch, lo, ac, bu, sl, may, mp)) : Wkv w g i (wad i) (ho, po, ch, lo, ac, bu, sl, may, mp) := hy ▸ R.2.2.2.2.2.1 i hi
theorem rc_kf (R : RCx w g x fl ka ha wr C B wad kd hr cp br n ws mi nd dr me di re) : am_kf w x 8 = some () := kfc R.1
theorem wk_kf {a : Nat} (h : Wkv w g i a (ho, po, ch, lo, ac, bu, sl, may, mp)) : am_kf w a 6 = some () := by
  obtain ⟨m, be, fa, wa, ca, F, W, N, h1, -⟩ := h
  exact kfc h1
theorem wk_17 {a : Nat} (h : Wkv w g i a (ho, po, ch, lo, ac, bu, sl, may, mp)) (hp : po < 144) : am_x 17 [.ref a] w = some (.inl (some (.int (nI (po / 4)))), w) := by
  obtain ⟨m, be, fa, wa, ca, F, W, N, h1, -⟩ := h
  exact x17 h1 hp
theorem wk_18 {a : Nat} (h : Wkv w g i a (ho, po, ch, lo, ac, bu, sl, may, mp)) (hp : po < 144) : am_x 18 [.ref a] w = some (.inl (some (.int (nI (po % 4)))), w) := by
  obtain ⟨m, be, fa, wa, ca, F, W, N, h1, -⟩ := h
  exact x18 h1 hp
theorem ref_ch {y : Bool} (h : refW mi (ho, po, ch, lo, ac, bu, sl, may, mp) y = false) : 1 ≤ ch := by
  unfold refW at h
  dsimp only at h
  by_cases e : ch = 0
  · rw [decide_eq_true e] at h
    simp at h
  · omega
/-- is what lies ahead barred -/
def barA (may : Nat → Bool) (br : Nat → Bool) : Bool := match sureP may with
  | none => false
  | some p => match nb (p / 4) (p % 4) with
    | none => false
    | some d => br d
theorem x171 (R : RCx w g x fl ka ha wr C B wad kd hr cp br n ws mi nd dr me di re) {a : Nat} (h : Wkv w g i a (ho, po, ch, lo, ac, bu, sl, may, mp)) : am_x 171 [.ref x, .ref a] w = some (.inl (some (.int (b2i (barA may br)))), w) := by
  obtain ⟨m, be, fa, wa, ca, F, W, N, h1, h2, h3, h4, g1, g2, g3, g4, g5, g6⟩ := h
  have z := x118 h3 h4
  unfold barA
  simp only [bx171, bk171_0, gfc h1, oW_0, oW_1, oW_2, oW_3, oW_4, oW_5, oW_6, oW_7, oW_8, bk171_4, kfc h3.1, z, bk171_7, sure_no, Option.bind_some, bct_v, bct_t, otl_s, otl_n, List.cons_append, List.nil_append, List.getElem?_cons_zero, List.getElem?_cons_succ, ↓reduceIte]
  cases e : sureP may with
  | none =>
    rw [if_neg (fun q => q rfl), bk171_13]
    rfl
  | some p =>
    have hp := (sure_lt e).1
    rw [if_pos (fun q => nomatch q)]
    simp only [no, bk171_15, nI_divS (show p < 2147483648 by omega) (show 0 < 4 by decide) (show 4 < 2147483648 by decide), nI_remS (show p < 2147483648 by omega) (show 0 < 4 by decide) (show 4 < 2147483648 by decide), ahd (show p / 4 < 36 by omega) (show p % 4 < 4 by omega), bk171_24, Option.bind_some, bct_v, bct_t, otl_s, otl_n, List.cons_append, List.nil_append, List.getElem?_cons_zero, List.getElem?_cons_succ, ↓reduceIte]
    cases e2 : nb (p / 4) (p % 4) with
    | none =>
      rw [if_pos rfl, bk171_48, bk171_49 (by rfl)]
      rfl
    | some d =>
      have hd := nb_lt (show p / 4 < 36 by omega) (show p % 4 < 4 by omega) e2
      have hb := has (w := w) (bm_lt R.2.2.2.1) hd
      rw [R.2.2.2.1.2 d hd] at hb
      dsimp only
      rw [if_neg (show ¬ nI d = (-1 : Int32) by rw [nI_m1S (by omega)]; exact id)]
      cases q : br d with
      | true =>
        rw [q] at hb
        simp only [bk171_30, gfc R.1, oX_0, oX_1, oX_2, oX_3, oX_4, oX_5, oX_6, oX_7, oX_8, bk171_34, gfc R.2.1.1, bk171_37, hb, bk171_41, b2i_0, reduceCtorEq, bk171_44, Option.bind_some, bct_v, bct_t, otl_s, otl_n, List.cons_append, List.nil_append, List.getElem?_cons_zero, List.getElem?_cons_succ, ↓reduceIte]
        exact bk171_49 (by rfl)
      | false =>
        rw [q] at hb
        simp only [bk171_30, gfc R.1, oX_0, oX_1, oX_2, oX_3, oX_4, oX_5, oX_6, oX_7, oX_8, bk171_34, gfc R.2.1.1, bk171_37, hb, bk171_41, b2i_0, bk171_48, Option.bind_some, bct_v, bct_t, otl_s, otl_n, List.cons_append, List.nil_append, List.getElem?_cons_zero, List.getElem?_cons_succ, ↓reduceIte]
        exact bk171_49 (by rfl)
def slipB (cp : Nat → Bool) (nd po : Nat) : Bool := cp (po / 4) && decide (nd % 3 = 0)
theorem frm_c {i : Nat} {w w' : am_Wd} (h : frm g (10 + 10 * i) (20 + 10 * i) w w') (hi : i < 3) : frm g 1 40 w w' := frm_wk h (by omega) (by omega)
theorem frm_x {w w' : am_Wd} (h : frm g 1 2 w w') : frm g 1 40 w w' := frm_wk h (by omega) (by omega)
/-- a step, or a slip -/
theorem x141 (R : RCx w g x fl ka ha wr C B wad kd hr cp br n ws mi nd dr me di re) (hn : n ≤ 3) (hd : nd < 127) (hi : i < n) (hy : ws i = (ho, po, ch, lo, ac, bu, sl, may, mp)) (hp : po < 144) :
    ∃ w', am_x 141 [.ref x, .ref (wad i)] w = some (.inl none, w') ∧ RCx w' g x fl ka ha wr C B wad kd hr cp br n (up ws i (ho, (if slipB cp nd po = true then po else stepW po), ch, lo, ac, bu, (if slipB cp nd po = true then sl + nI 1 else sl), may, mp)) mi (if cp (po / 4) = true then (29 * nd + 13) % 127 else nd) (if cp (po / 4) = true then dr + nI 1 else dr) me di re ∧ frm g 1 40 w w' := by
  have h := rc_get R hi hy
  have hb := has (w := w) (c := po / 4) (bm_lt R.2.2.1) (by omega)
  rw [R.2.2.1.2 (po / 4) (by omega)] at hb
  unfold slipB
  cases e : cp (po / 4) with
  | false =>
    rw [e] at hb
    obtain ⟨w1, e1, h1, f1⟩ := x78 h hp
    refine ⟨w1, ?_, rc_wk R h1 f1, frm_c f1 (by omega)⟩
    simp only [bx141, bk141_0, gfc R.1, oX_0, oX_1, oX_2, oX_3, oX_4, oX_5, oX_6, oX_7, oX_8, bk141_4, gfc R.2.1.1, bk141_7, wk_kf h, wk_17 h hp, bk141_11, hb, bk141_14, b2i_0, bk141_39, e1, bk141_43, Option.bind_some, bct_v, bct_t, otl_s, otl_n, List.cons_append, List.nil_append, List.getElem?_cons_zero, List.getElem?_cons_succ, ↓reduceIte]
  | true =>
    rw [e] at hb
    obtain ⟨w1, e1, R1, f1⟩ := x93 R hd
    have h' := rc_get R1 hi hy
    have e3 : (bj_irem (nI nd) (nI 3) = nI 0) = (nd % 3 = 0) := by
      rw [nI_remS (by omega) (by decide) (by decide), nI_eqS (by omega) (by decide)]
    by_cases q : nd % 3 = 0
    · obtain ⟨m, be, fa, wa, ca, F, W, N, h1, h2, h3, h4, g1, g2, g3, g4, g5, g6⟩ := h'
      have pf : am_pf w1 (wad i) 6 8 (.int (sl + nI 1)) = some (am_pt w1 (wad i) (.inr (6, oW ho po ch m be lo ac bu (sl + nI 1)))) := pfc h1 (by show 8 < 9; decide) (by decide)
      obtain ⟨k1, k2⟩ := Wkv_fld (w := w1) (ho' := ho) (po' := po) (ch' := ch) (lo' := lo) (ac' := ac) (bu' := bu) (sl' := sl + nI 1) h2 h3 h4 g1 g2 g3 g4 g5 g6
      have k0 := rc_wk R1 k1 k2
      rw [decide_eq_true q]
      refine ⟨_, ?_, k0, frm_tr (frm_x f1) (frm_c k2 (by omega))⟩
      simp only [bx141, bk141_0, gfc R.1, oX_0, oX_1, oX_2, oX_3, oX_4, oX_5, oX_6, oX_7, oX_8, bk141_4, gfc R.2.1.1, bk141_7, wk_kf h, wk_17 h hp, bk141_11, hb, bk141_14, b2i_0, reduceCtorEq, bk141_17, rc_kf R, e1, bk141_21, e3, q, not_true_eq_false, bk141_26, gfc h1, oW_0, oW_1, oW_2, oW_3, oW_4, oW_5, oW_6, oW_7, oW_8, bk141_31, pf, bk141_36, bk141_43, Option.bind_some, bct_v, bct_t, otl_s, otl_n, List.cons_append, List.nil_append, List.getElem?_cons_zero, List.getElem?_cons_succ, ↓reduceIte]
    · obtain ⟨w2, e2, h1, f2⟩ := x78 h' hp
      have k0 := rc_wk R1 h1 f2
      rw [decide_eq_false q]
      refine ⟨w2, ?_, k0, frm_tr (frm_x f1) (frm_c f2 (by omega))⟩
      simp only [bx141, bk141_0, gfc R.1, oX_0, oX_1, oX_2, oX_3, oX_4, oX_5, oX_6, oX_7, oX_8, bk141_4, gfc R.2.1.1, bk141_7, wk_kf h, wk_17 h hp, bk141_11, hb, bk141_14, b2i_0, reduceCtorEq, bk141_17, rc_kf R, e1, bk141_21, e3, q, not_false_eq_true, bk141_39, wk_kf h', e2, bk141_43, Option.bind_some, bct_v, bct_t, otl_s, otl_n, List.cons_append, List.nil_append, List.getElem?_cons_zero, List.getElem?_cons_succ, ↓reduceIte]
/-- no such walker: each call that asks for one -/
theorem thr_b {E : String} {w1 : am_Wd} {K : Option Value → am_Wd → am_Rs} : (Option.some ((Sum.inr E, w1) : am_Out × am_Wd)).bind (fun r => bct r K) = some (.inr E, w1) := rfl
/-- forward: what comes of it -/
def bmpB (kd hr : Nat → Nat) (mi po : Nat) : Bool := clsS kd hr (mi / 60 % 24) (po / 4) (po % 4)
def fwdY (kd hr : Nat → Nat) (cp : Nat → Bool) (mi nd : Nat) (y : sW) : sW := match y with
  | (ho, po, ch, lo, ac, bu, sl, may, mp) =>
    (ho, (if bmpB kd hr mi po = true then po else if slipB cp nd po = true then po else stepW po), ch - 1, anewL lo (mayF may (putF may mp (bmpB kd hr mi po)) (bmpB kd hr mi po)), ac + nI 1, (if bmpB kd hr mi po = true then bu + nI 1 else bu), (if bmpB kd hr mi po = true then sl else if slipB cp nd po = true then sl + nI 1 else sl), anewM (mayF may (putF may mp (bmpB kd hr mi po)) (bmpB kd hr mi po)), putF may mp (bmpB kd hr mi po))
theorem x239 (R : RCx w g x fl ka ha wr C B wad kd hr cp br n ws mi nd dr me di re) (hn : n ≤ 3) (hk : kdok kd) (hh : hrok hr) (hd : nd < 127) (hm : mi ≤ 3000) (hi : i < n) (hy : ws i = (ho, po, ch, lo, ac, bu, sl, may, mp)) (hp : po < 144) (hc : ch ≤ 500) (hho : ho < 36) (f : Bool) (hr0 : refW mi (ws i) f = false) (hb0 : barA may br = false) :
    ∃ w', am_x 239 [.ref x, .int (nI i), .int (b2i f)] w = some (.inl (some (.int (b2i (bmpB kd hr mi po)))), w') ∧ RCx w' g x fl ka ha wr C B wad kd hr cp br n (up ws i (fwdY kd hr cp mi nd (ws i))) (mi + 1) (if bmpB kd hr mi po = true then nd else if cp (po / 4) = true then (29 * nd + 13) % 127 else nd) (if bmpB kd hr mi po = true then dr else if cp (po / 4) = true then dr + nI 1 else dr) me di re ∧ frm g 1 40 w w' := by
  have h := rc_get R hi hy
  have a31 := x31 R hn hi
  have a225 := x225 R hm h hc hho f
  rw [← hy, hr0, if_neg (by decide)] at a225
  have a171 := x171 R h
  rw [hb0] at a171
  have a126 := x126 R.2.1 hk hh (c := po / 4) (s := po % 4) (h := mi / 60 % 24) (by omega) (by omega) (by omega)
  have hch : 1 ≤ ch := ref_ch (y := f) (by rw [← hy]; exact hr0)
  rw [hy] at hr0 ⊢
  unfold fwdY bmpB
  dsimp only
  -- behind the step
  have tail : ∀ (w1 : am_Wd) (b : Bool) (po1 : Nat) (bu1 sl1 : Int32) (nd1 : Nat) (dr1 : Int32), RCx w1 g x fl ka ha wr C B wad kd hr cp br n (up ws i (ho, po1, ch, lo, ac, bu1, sl1, may, mp)) mi nd1 dr1 me di re → ∃ w', am_run 239 74 [some (.ref x), none, none, some (.ref (wad i)), some (.int (b2i b))] [] w1 = some (.inl (some (.int (b2i b))), w') ∧ RCx w' g x fl ka ha wr C B wad kd hr cp br n (up ws i (ho, po1, ch - 1, anewL lo (mayF may (putF may mp b) b), ac + nI 1, bu1, sl1, anewM (mayF may (putF may mp b) b), putF may mp b)) (mi + 1) nd1 dr1 me di re ∧ frm g 1 40 w1 w' := by
    intro w1 b po1 bu1 sl1 nd1 dr1 R1
    have k1 := rc_get R1 hi up_s
    obtain ⟨w2, e2, k2, f2⟩ := x160 k1 b
    have R2 := rc_wk R1 k2 f2
    rw [up_up] at R2
    have k3 := rc_get R2 hi up_s
    obtain ⟨w3, e3, R3, f3, f4⟩ := x32 R2 k3 hch
    rw [up_up] at R3
    refine ⟨w3, ?_, R3, frm_tr (frm_c f2 (by omega)) ⟨fun b hb => f3 b (by omega) (by omega), f4⟩⟩
    simp only [bk239_74, wk_kf k1, e2, bk239_80, rc_kf R2, e3, bk239_85 (b2i_ok b), Option.bind_some, bct_v, bct_t, otl_s, otl_n, List.cons_append, List.nil_append, List.getElem?_cons_zero, List.getElem?_cons_succ, ↓reduceIte]
  cases hb : clsS kd hr (mi / 60 % 24) (po / 4) (po % 4) with
  | true =>
    rw [hb] at a126
    obtain ⟨m, be, fa, wa, ca, F, W, N, h1, h2, h3, h4, g1, g2, g3, g4, g5, g6⟩ := h
    have pf : am_pf w (wad i) 6 7 (.int (bu + nI 1)) = some (am_pt w (wad i) (.inr (6, oW ho po ch m be lo ac (bu + nI 1) sl))) := pfc h1 (by show 7 < 9; decide) (by decide)
    obtain ⟨k1, k2⟩ := Wkv_fld (w := w) (ho' := ho) (po' := po) (ch' := ch) (lo' := lo) (ac' := ac) (bu' := bu + nI 1) (sl' := sl) h2 h3 h4 g1 g2 g3 g4 g5 g6
    have k0 := rc_wk R k1 k2
    obtain ⟨w', e', R', f'⟩ := tail _ true po (bu + nI 1) sl nd dr k0
    refine ⟨w', ?_, R', frm_tr (frm_c k2 (by omega)) f'⟩
    rw [← e']
    simp only [bk239_0, bk239_5, bk239_12, bk239_17, bk239_30, bk239_20, bk239_34, bk239_38, bk239_42, bk239_46, bk239_49, bk239_69, bk239_56, bk239_61, bk239_66, bx239, rc_kf R, a31, a225, a171, b2i_0, gfc R.1, oX_0, oX_1, oX_2, oX_3, oX_4, oX_5, oX_6, oX_7, oX_8, kfc h1, x17 h1 hp, x18 h1 hp, x33 R hm, kfc R.2.1.1, a126, reduceCtorEq, gfc h1, oW_0, oW_1, oW_2, oW_3, oW_4, oW_5, oW_6, oW_7, oW_8, pf, Option.bind_some, bct_v, bct_t, otl_s, otl_n, List.cons_append, List.nil_append, List.getElem?_cons_zero, List.getElem?_cons_succ, ↓reduceIte]
  | false =>
    rw [hb] at a126
    obtain ⟨w1, e1, R1, f1⟩ := x141 R hn hd hi hy hp
    obtain ⟨w', e', R', f'⟩ := tail _ false _ bu _ _ _ R1
    refine ⟨w', ?_, R', frm_tr f1 f'⟩
    rw [← e']
    simp only [bk239_0, bk239_5, bk239_12, bk239_17, bk239_30, bk239_20, bk239_34, bk239_38, bk239_42, bk239_46, bk239_49, bk239_69, bk239_56, bk239_61, bk239_66, bx239, rc_kf R, a31, a225, a171, b2i_0, gfc R.1, oX_0, oX_1, oX_2, oX_3, oX_4, oX_5, oX_6, oX_7, oX_8, wk_kf h, wk_17 h hp, wk_18 h hp, x33 R hm, kfc R.2.1.1, a126, e1, Option.bind_some, bct_v, bct_t, otl_s, otl_n, List.cons_append, List.nil_append, List.getElem?_cons_zero, List.getElem?_cons_succ, ↓reduceIte]
theorem x239r (R : RCx w g x fl ka ha wr C B wad kd hr cp br n ws mi nd dr me di re) (hn : n ≤ 3) (hm : mi ≤ 3000) (hi : i < n) (hy : ws i = (ho, po, ch, lo, ac, bu, sl, may, mp)) (hc : ch ≤ 500) (hho : ho < 36) (f : Bool) (h0 : refW mi (ws i) f = true ∨ barA may br = true) : am_x 239 [.ref x, .int (nI i), .int (b2i f)] w = some (.inr (am_xn 2), am_jk w 1 6) := by
  have h := rc_get R hi hy
  have a31 := x31 R hn hi
  have a225 := x225 R hm h hc hho f
  have a171 := x171 R h
  rw [← hy] at a225
  cases e : refW mi (ws i) f with
  | true =>
    rw [e, if_pos rfl] at a225
    simp only [bx239, bk239_0, rc_kf R, a31, bk239_5, a225, Option.bind_some, bct_v, bct_t, otl_s, otl_n, List.cons_append, List.nil_append, List.getElem?_cons_zero, List.getElem?_cons_succ, ↓reduceIte]
  | false =>
    rw [e, if_neg (by decide)] at a225
    rw [e] at h0
    have h1 := h0.resolve_left (by decide)
    rw [h1] at a171
    simp only [bx239, bk239_0, rc_kf R, a31, bk239_5, a225, bk239_12, a171, bk239_17, b2i_0, reduceCtorEq, bk239_20, Option.bind_some, bct_v, bct_t, otl_s, otl_n, List.cons_append, List.nil_append, List.getElem?_cons_zero, List.getElem?_cons_succ, ↓reduceIte]
theorem x239n (R : RCx w g x fl ka ha wr C B wad kd hr cp br n ws mi nd dr me di re) (hn : n ≤ 3) {z z2 : Int32} (hz : z < nI 0 ∨ nI n ≤ z) : am_x 239 [.ref x, .int z, .int z2] w = some (.inr (am_xn 0), am_jk w 1 6) := by
  simp only [bx239, bk239_0, rc_kf R, x31n R hn hz, Option.bind_some, bct_v, bct_t, otl_s, otl_n, List.cons_append, List.nil_append, List.getElem?_cons_zero, List.getElem?_cons_succ, ↓reduceIte]
end ACT
