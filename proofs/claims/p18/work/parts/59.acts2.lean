/-! THE CLASS'S ACTS, on. Mine. -/
section AC2
variable {w : am_Wd} {g : Nat → Nat} {x fl ka ha wr C B : Nat} {wad : Nat → Nat} {kd hr : Nat → Nat} {cp br : Nat → Bool} {n : Nat} {ws : Nat → sW} {mi nd : Nat} {dr me di re : Int32}
variable {i ho po ch : Nat} {lo ac bu sl : Int32} {may : Nat → Bool} {mp : Nat → Nat}
theorem rot_cnt (may : Nat → Bool) (b : Bool) : cnt 144 (rotP may (if b = true then 3 else 1)) = cnt 144 may := by
  have e1 := cnt_4 may 36
  have e2 := cnt_4 (rotP may (if b = true then 3 else 1)) 36
  have k : ∀ r s, s < 4 → cnt 36 (fun c => rotP may r (4 * c + s)) = cnt 36 (fun c => may (4 * c + (s + r) % 4)) := fun r s hs => cnt_cg 36 fun c _ => rot_at may hs
  have k0 := fun r => k r 0 (by decide)
  have k1 := fun r => k r 1 (by decide)
  have k2 := fun r => k r 2 (by decide)
  have k3 := fun r => k r 3 (by decide)
  simp only [Nat.add_zero] at k0
  show cnt (4 * 36) _ = cnt (4 * 36) _
  rw [e1, e2, k0, k1, k2, k3]
  cases b
  · show cnt 36 (fun c => may (4 * c + 1)) + cnt 36 (fun c => may (4 * c + 2)) + cnt 36 (fun c => may (4 * c + 3)) + cnt 36 (fun c => may (4 * c)) = _
    omega
  · show cnt 36 (fun c => may (4 * c + 3)) + cnt 36 (fun c => may (4 * c)) + cnt 36 (fun c => may (4 * c + 1)) + cnt 36 (fun c => may (4 * c + 2)) = _
    omega
theorem x72w {a : Nat} (h : Wkv w g i a (ho, po, ch, lo, ac, bu, sl, may, mp)) : ∃ be, (∀ k, k = 2 → am_gf w a 6 k = some (.ref be)) ∧ am_kf w be 4 = some () ∧ am_x 72 [.ref be] w = some (.inl (some (.int (nI (cnt 144 may)))), w) := by
  obtain ⟨m, be, fa, wa, ca, F, W, N, h1, h2, h3, h4, -⟩ := h
  exact ⟨be, fun k hk => by rw [hk, gfc h1]; rfl, kfc h3.1, x72 h3 h4⟩
def turnY (b : Bool) (y : sW) : sW := match y with
  | (ho, po, ch, lo, ac, bu, sl, may, mp) => (ho, turnW po b, ch - 1, lo, ac + nI 1, bu, sl, rotP may (if b = true then 3 else 1), mp)
theorem x240 (R : RCx w g x fl ka ha wr C B wad kd hr cp br n ws mi nd dr me di re) (hn : n ≤ 3) (hm : mi ≤ 3000) (hi : i < n) (hy : ws i = (ho, po, ch, lo, ac, bu, sl, may, mp)) (hp : po < 144) (hc : ch ≤ 500) (hho : ho < 36) (b f : Bool) (hr0 : refW mi (ws i) f = false) :
    ∃ w', am_x 240 [.ref x, .int (nI i), .int (b2i b), .int (b2i f)] w = some (.inl (some (.int (nI (cnt 144 may)))), w') ∧ RCx w' g x fl ka ha wr C B wad kd hr cp br n (up ws i (turnY b (ws i))) (mi + 1) nd dr me di re ∧ frm g 1 40 w w' := by
  have h := rc_get R hi hy
  have a31 := x31 R hn hi
  have a225 := x225 R hm h hc hho f
  rw [← hy, hr0, if_neg (by decide)] at a225
  have hch : 1 ≤ ch := ref_ch (y := f) (by rw [← hy]; exact hr0)
  obtain ⟨w1, e1, k1, f1⟩ := x79 h hp b
  have R1 := rc_wk R k1 f1
  obtain ⟨w2, e2, R2, f2, f3⟩ := x32 R1 (rc_get R1 hi up_s) hch
  rw [up_up] at R2
  have k2 := rc_get R2 hi up_s
  obtain ⟨be, b1, b2, b3⟩ := x72w k2
  rw [rot_cnt] at b3
  rw [hy]
  refine ⟨w2, ?_, R2, frm_tr (frm_c f1 (by omega)) ⟨fun b hb => f2 b (by omega) (by omega), f3⟩⟩
  simp only [bk240_0, bk240_5, bk240_14, bk240_20, bk240_26, bk240_31, bk240_34, bx240, rc_kf R, a31, a225, wk_kf h, e1, rc_kf R1, e2, b1 2 rfl, b2, b3, Option.bind_some, bct_v, bct_t, otl_s, otl_n, List.cons_append, List.nil_append, List.getElem?_cons_zero, List.getElem?_cons_succ, ↓reduceIte]
theorem x240r (R : RCx w g x fl ka ha wr C B wad kd hr cp br n ws mi nd dr me di re) (hn : n ≤ 3) (hm : mi ≤ 3000) (hi : i < n) (hy : ws i = (ho, po, ch, lo, ac, bu, sl, may, mp)) (hc : ch ≤ 500) (hho : ho < 36) (f : Bool) {z : Int32} (h0 : refW mi (ws i) f = true) : am_x 240 [.ref x, .int (nI i), .int z, .int (b2i f)] w = some (.inr (am_xn 2), am_jk w 1 6) := by
  have h := rc_get R hi hy
  have a31 := x31 R hn hi
  have a225 := x225 R hm h hc hho f
  rw [← hy, h0, if_pos rfl] at a225
  simp only [bx240, bk240_0, rc_kf R, a31, bk240_5, a225, Option.bind_some, bct_v, bct_t, otl_s, otl_n, List.cons_append, List.nil_append, List.getElem?_cons_zero, List.getElem?_cons_succ, ↓reduceIte]
theorem x240n (R : RCx w g x fl ka ha wr C B wad kd hr cp br n ws mi nd dr me di re) (hn : n ≤ 3) {z z2 z3 : Int32} (hz : z < nI 0 ∨ nI n ≤ z) : am_x 240 [.ref x, .int z, .int z2, .int z3] w = some (.inr (am_xn 0), am_jk w 1 6) := by
  simp only [bx240, bk240_0, rc_kf R, x31n R hn hz, Option.bind_some, bct_v, bct_t, otl_s, otl_n, List.cons_append, List.nil_append, List.getElem?_cons_zero, List.getElem?_cons_succ, ↓reduceIte]
def feltN (kd hr : Nat → Nat) (mi po : Nat) : Nat := fltS kd hr (mi / 60 % 24) (po / 4) (po % 4)
def feelY (t : Nat) (y : sW) : sW := match y with
  | (ho, po, ch, lo, ac, bu, sl, may, mp) => (ho, po, ch - 1, anewL lo (mayL may (putL may mp t) t), ac + nI 1, bu, sl, anewM (mayL may (putL may mp t) t), putL may mp t)
theorem x241 (R : RCx w g x fl ka ha wr C B wad kd hr cp br n ws mi nd dr me di re) (hn : n ≤ 3) (hk : kdok kd) (hh : hrok hr) (hm : mi ≤ 3000) (hi : i < n) (hy : ws i = (ho, po, ch, lo, ac, bu, sl, may, mp)) (hp : po < 144) (hc : ch ≤ 500) (hho : ho < 36) (f : Bool) (hr0 : refW mi (ws i) f = false) :
    ∃ w', am_x 241 [.ref x, .int (nI i), .int (b2i f)] w = some (.inl (some (.int (nI (feltN kd hr mi po)))), w') ∧ RCx w' g x fl ka ha wr C B wad kd hr cp br n (up ws i (feelY (feltN kd hr mi po) (ws i))) (mi + 1) nd dr me di re ∧ frm g 1 40 w w' := by
  have h := rc_get R hi hy
  have a31 := x31 R hn hi
  have a225 := x225 R hm h hc hho f
  rw [← hy, hr0, if_neg (by decide)] at a225
  have hch : 1 ≤ ch := ref_ch (y := f) (by rw [← hy]; exact hr0)
  have a158 : am_x 158 [.ref fl, .int (nI (po / 4)), .int (nI (po % 4)), .int (nI (mi / 60 % 24))] w = some (.inl (some (.int (nI (feltN kd hr mi po)))), w) := x158 R.2.1 hk hh (by omega) (by omega) (by omega)
  obtain ⟨w1, e1, k1, f1⟩ := x161 h (t := feltN kd hr mi po) (flt3_lt _ _ _)
  have R1 := rc_wk R k1 f1
  obtain ⟨w2, e2, R2, f2, f3⟩ := x32 R1 (rc_get R1 hi up_s) hch
  rw [up_up] at R2
  rw [hy]
  refine ⟨w2, ?_, R2, frm_tr (frm_c f1 (by omega)) ⟨fun b hb => f2 b (by omega) (by omega), f3⟩⟩
  simp only [bk241_0, bk241_5, bk241_12, bk241_16, bk241_20, bk241_24, bk241_28, bk241_31, bk241_39, bk241_44, bx241, rc_kf R, a31, a225, gfc R.1, oX_0, oX_1, oX_2, oX_3, oX_4, oX_5, oX_6, oX_7, oX_8, wk_kf h, wk_17 h hp, wk_18 h hp, x33 R hm, kfc R.2.1.1, a158, e1, rc_kf R1, e2, Option.bind_some, bct_v, bct_t, otl_s, otl_n, List.cons_append, List.nil_append, List.getElem?_cons_zero, List.getElem?_cons_succ, ↓reduceIte]
theorem x241r (R : RCx w g x fl ka ha wr C B wad kd hr cp br n ws mi nd dr me di re) (hn : n ≤ 3) (hm : mi ≤ 3000) (hi : i < n) (hy : ws i = (ho, po, ch, lo, ac, bu, sl, may, mp)) (hc : ch ≤ 500) (hho : ho < 36) (f : Bool) (h0 : refW mi (ws i) f = true) : am_x 241 [.ref x, .int (nI i), .int (b2i f)] w = some (.inr (am_xn 2), am_jk w 1 6) := by
  have h := rc_get R hi hy
  have a31 := x31 R hn hi
  have a225 := x225 R hm h hc hho f
  rw [← hy, h0, if_pos rfl] at a225
  simp only [bk241_0, bk241_5, bk241_12, bk241_16, bk241_20, bk241_24, bk241_28, bk241_31, bk241_39, bk241_44, bx241, rc_kf R, a31, a225, Option.bind_some, bct_v, bct_t, otl_s, otl_n, List.cons_append, List.nil_append, List.getElem?_cons_zero, List.getElem?_cons_succ, ↓reduceIte]
theorem x241n (R : RCx w g x fl ka ha wr C B wad kd hr cp br n ws mi nd dr me di re) (hn : n ≤ 3) {z z2 : Int32} (hz : z < nI 0 ∨ nI n ≤ z) : am_x 241 [.ref x, .int z, .int z2] w = some (.inr (am_xn 0), am_jk w 1 6) := by
  simp only [bk241_0, bk241_5, bk241_12, bk241_16, bk241_20, bk241_24, bk241_28, bk241_31, bk241_39, bk241_44, bx241, rc_kf R, x31n R hn hz, Option.bind_some, bct_v, bct_t, otl_s, otl_n, List.cons_append, List.nil_append, List.getElem?_cons_zero, List.getElem?_cons_succ, ↓reduceIte]
/-- who is near -/
def nearN (ws : Nat → sW) (n i : Nat) : Nat := cnt 3 fun j => decide (j ≠ i ∧ j < n) && near ((ws i).2.1 / 4) ((ws j).2.1 / 4)
def actY (y : sW) : sW := match y with
  | (ho, po, ch, lo, ac, bu, sl, may, mp) => (ho, po, ch - 1, lo, ac + nI 1, bu, sl, may, mp)
theorem x242 (R : RCx w g x fl ka ha wr C B wad kd hr cp br n ws mi nd dr me di re) (hn : n ≤ 3) (hm : mi ≤ 3000) (hi : i < n) (hy : ws i = (ho, po, ch, lo, ac, bu, sl, may, mp)) (hp : ∀ j, j < n → (ws j).2.1 < 144) (hc : ch ≤ 500) (hho : ho < 36) (f : Bool) (hr0 : refW mi (ws i) f = false) :
    ∃ w', am_x 242 [.ref x, .int (nI i), .int (b2i f)] w = some (.inl (some (.int (nI (nearN ws n i)))), w') ∧ RCx w' g x fl ka ha wr C B wad kd hr cp br n (up ws i (actY (ws i))) (mi + 1) nd dr me di re ∧ frm g 1 40 w w' := by
  have h := rc_get R hi hy
  have hpi : po < 144 := by have := hp i hi; rw [hy] at this; exact this
  have a31 := x31 R hn hi
  have a225 := x225 R hm h hc hho f
  rw [← hy, hr0, if_neg (by decide)] at a225
  have hch : 1 ≤ ch := ref_ch (y := f) (by rw [← hy]; exact hr0)
  obtain ⟨w2, e2, R2, f2, f3⟩ := x32 R h hch
  have hQ := R.2.2.2.2.1
  have e := csum (n := 3) (p := fun j => decide (j ≠ i ∧ j < n) && near ((ws i).2.1 / 4) ((ws j).2.1 / 4)) (Q := fun j a => am_run 242 18 [some (.ref x), some (.int (nI i)), none, some (.ref (wad i)), some (.int (nI a)), some (.int (nI j)), none] [] w) (fun j a hj => by
    have rq := rqc hQ (i := j) (Or.inl rfl) hj (by decide)
    by_cases q : j < n
    · rw [show wks n wad j = some (wad j) from if_pos q] at rq
      have rq' : am_rq w wr (nI j) = some (.ref (wad j)) := rq
      have h' := rc_get R q (rfl : ws j = ((ws j).1, (ws j).2.1, (ws j).2.2.1, (ws j).2.2.2.1, (ws j).2.2.2.2.1, (ws j).2.2.2.2.2.1, (ws j).2.2.2.2.2.2.1, (ws j).2.2.2.2.2.2.2.1, (ws j).2.2.2.2.2.2.2.2))
      have hp' := hp j q
      generalize (ws j).2.1 = po' at h' hp' ⊢
      have hnr := nears (w := w) (c := po / 4) (d := po' / 4) (by omega) (by omega)
      have e0 : near ((ws i).2.1 / 4) (po' / 4) = near (po / 4) (po' / 4) := by rw [hy]
      by_cases z : j = i
      · rw [show (decide (j ≠ i ∧ j < n) && near ((ws i).2.1 / 4) (po' / 4)) = false from by rw [decide_eq_false (fun k => k.1 z)]; rfl]
        have hji : (nI j = nI i) = True := by rw [z]; simp
        rw [bk242_18]
        simp only [gfc R.1, oX_0, oX_1, oX_2, oX_3, oX_4, oX_5, oX_6, oX_7, oX_8, bk242_24, lenQ hQ (by decide), bk242_25, nI_leS (show 3 < 2147483648 by decide) (show j < 2147483648 by omega), show ¬ 3 ≤ j from by omega, bk242_28, bk242_32, rq', bk242_35, hji, bk242_66, nI_add, Bool.false_eq_true, Nat.add_zero, Option.bind_some, bct_v, bct_t, otl_s, otl_n, List.cons_append, List.nil_append, List.getElem?_cons_zero, List.getElem?_cons_succ, ↓reduceIte]
      · rw [decide_eq_true (show j ≠ i ∧ j < n from ⟨z, q⟩), e0]
        cases y : near (po / 4) (po' / 4) with
        | true =>
          rw [y] at hnr
          simp only [bk242_24, bk242_25, bk242_28, bk242_32, bk242_35, bk242_35a, bk242_66, bk242_43, bk242_43a, bk242_52, bk242_57, bk242_60, bk242_63, bx242, bk242_18, gfc R.1, oX_0, oX_1, oX_2, oX_3, oX_4, oX_5, oX_6, oX_7, oX_8, lenQ hQ (by decide), nI_leS (show 3 < 2147483648 by decide) (show j < 2147483648 by omega), show ¬ 3 ≤ j from by omega, rq', nI_eqS (show j < 2147483648 by omega) (show i < 2147483648 by omega), z, wk_kf h, wk_17 h hpi, wk_kf h', wk_17 h' hp', hnr, b2i_0, reduceCtorEq, nI_add, Bool.true_and, Option.bind_some, bct_v, bct_t, otl_s, otl_n, List.cons_append, List.nil_append, List.getElem?_cons_zero, List.getElem?_cons_succ, ↓reduceIte]
        | false =>
          rw [y] at hnr
          simp only [bk242_24, bk242_25, bk242_28, bk242_32, bk242_35, bk242_35a, bk242_66, bk242_43, bk242_43a, bk242_52, bk242_57, bk242_60, bk242_63, bx242, bk242_18, gfc R.1, oX_0, oX_1, oX_2, oX_3, oX_4, oX_5, oX_6, oX_7, oX_8, lenQ hQ (by decide), nI_leS (show 3 < 2147483648 by decide) (show j < 2147483648 by omega), show ¬ 3 ≤ j from by omega, rq', nI_eqS (show j < 2147483648 by omega) (show i < 2147483648 by omega), z, wk_kf h, wk_17 h hpi, wk_kf h', wk_17 h' hp', hnr, b2i_0, nI_add, Bool.true_and, Bool.false_eq_true, Nat.add_zero, Option.bind_some, bct_v, bct_t, otl_s, otl_n, List.cons_append, List.nil_append, List.getElem?_cons_zero, List.getElem?_cons_succ, ↓reduceIte]
    · rw [show wks n wad j = none from if_neg q] at rq
      have rq' : am_rq w wr (nI j) = some .null := rq
      rw [show (decide (j ≠ i ∧ j < n) && near ((ws i).2.1 / 4) ((ws j).2.1 / 4)) = false from by rw [decide_eq_false (fun k => q k.2)]; rfl]
      have z : ¬ j = i := fun k => q (k ▸ hi)
      simp only [bk242_24, bk242_25, bk242_28, bk242_32, bk242_35, bk242_35a, bk242_66, bk242_43, bk242_43a, bk242_52, bk242_57, bk242_60, bk242_63, bx242, bk242_18, gfc R.1, oX_0, oX_1, oX_2, oX_3, oX_4, oX_5, oX_6, oX_7, oX_8, lenQ hQ (by decide), nI_leS (show 3 < 2147483648 by decide) (show j < 2147483648 by omega), show ¬ 3 ≤ j from by omega, rq', nI_eqS (show j < 2147483648 by omega) (show i < 2147483648 by omega), z, nI_add, Bool.false_eq_true, Nat.add_zero, Option.bind_some, bct_v, bct_t, otl_s, otl_n, List.cons_append, List.nil_append, List.getElem?_cons_zero, List.getElem?_cons_succ, ↓reduceIte])
  rw [hy]
  refine ⟨w2, ?_, R2, ⟨fun b hb => f2 b (by omega) (by omega), f3⟩⟩
  have e' : am_run 242 18 [some (.ref x), some (.int (nI i)), none, some (.ref (wad i)), some (.int (nI 0)), some (.int (nI 0)), none] [] w = am_run 242 18 [some (.ref x), some (.int (nI i)), none, some (.ref (wad i)), some (.int (nI (nearN ws n i))), some (.int (nI 3)), none] [] w := e
  simp only [bx242, bk242_0, rc_kf R, a31, bk242_5, a225, bk242_12, e', Option.bind_some, bct_v, bct_t, otl_s, otl_n, List.cons_append, List.nil_append, List.getElem?_cons_zero, List.getElem?_cons_succ, ↓reduceIte]
  simp only [bk242_18, gfc R.1, oX_0, oX_1, oX_2, oX_3, oX_4, oX_5, oX_6, oX_7, oX_8, bk242_24, lenQ hQ (by decide), bk242_25, nI_leS (show 3 < 2147483648 by decide) (show 3 < 2147483648 by decide), Nat.le_refl, bk242_72, rc_kf R, e2, bk242_77, Option.bind_some, bct_v, bct_t, otl_s, otl_n, List.cons_append, List.nil_append, List.getElem?_cons_zero, List.getElem?_cons_succ, ↓reduceIte]
theorem x242r (R : RCx w g x fl ka ha wr C B wad kd hr cp br n ws mi nd dr me di re) (hn : n ≤ 3) (hm : mi ≤ 3000) (hi : i < n) (hy : ws i = (ho, po, ch, lo, ac, bu, sl, may, mp)) (hc : ch ≤ 500) (hho : ho < 36) (f : Bool) (h0 : refW mi (ws i) f = true) : am_x 242 [.ref x, .int (nI i), .int (b2i f)] w = some (.inr (am_xn 2), am_jk w 1 6) := by
  have h := rc_get R hi hy
  have a31 := x31 R hn hi
  have a225 := x225 R hm h hc hho f
  rw [← hy, h0, if_pos rfl] at a225
  simp only [bx242, bk242_0, rc_kf R, a31, bk242_5, a225, Option.bind_some, bct_v, bct_t, otl_s, otl_n, List.cons_append, List.nil_append, List.getElem?_cons_zero, List.getElem?_cons_succ, ↓reduceIte]
theorem x242n (R : RCx w g x fl ka ha wr C B wad kd hr cp br n ws mi nd dr me di re) (hn : n ≤ 3) {z z2 : Int32} (hz : z < nI 0 ∨ nI n ≤ z) : am_x 242 [.ref x, .int z, .int z2] w = some (.inr (am_xn 0), am_jk w 1 6) := by
  simp only [bx242, bk242_0, rc_kf R, x31n R hn hz, Option.bind_some, bct_v, bct_t, otl_s, otl_n, List.cons_append, List.nil_append, List.getElem?_cons_zero, List.getElem?_cons_succ, ↓reduceIte]
def chgY (c : Nat) (y : sW) : sW := match y with
  | (ho, po, _, lo, ac, bu, sl, may, mp) => (ho, po, c, lo, ac, bu, sl, may, mp)
theorem x133 (R : RCx w g x fl ka ha wr C B wad kd hr cp br n ws mi nd dr me di re) (hn : n ≤ 3) (hi : i < n) (hy : ws i = (ho, po, ch, lo, ac, bu, sl, may, mp)) (hp : po < 144) (hho : ho < 36) {c : Nat} (h1c : 1 ≤ c) (hc5 : c ≤ 500) (he : po / 4 = ho) :
    ∃ w', am_x 133 [.ref x, .int (nI i), .int (nI c)] w = some (.inl (some (.int (nI ch))), w') ∧ RCx w' g x fl ka ha wr C B wad kd hr cp br n (up ws i (chgY c (ws i))) mi nd dr me di re ∧ frm g 1 40 w w' := by
  have h := rc_get R hi hy
  have a31 := x31 R hn hi
  have a17 := wk_17 h hp
  have akf := wk_kf h
  obtain ⟨m, be, fa, wa, ca, F, W, N, h1, h2, h3, h4, g1, g2, g3, g4, g5, g6⟩ := h
  have pf : am_pf w (wad i) 6 4 (.int (nI c)) = some (am_pt w (wad i) (.inr (6, oW ho po c m be lo ac bu sl))) := pfc h1 (by show 4 < 9; decide) (by decide)
  obtain ⟨k1, k2⟩ := Wkv_fld (w := w) (ho' := ho) (po' := po) (ch' := c) (lo' := lo) (ac' := ac) (bu' := bu) (sl' := sl) h2 h3 h4 g1 g2 g3 g4 g5 g6
  have k0 := rc_wk R k1 k2
  rw [hy]
  refine ⟨_, ?_, k0, frm_c k2 (by omega)⟩
  simp only [bk133_0, bk133_5, bk133_14, bk133_18, bk133_22, bk133_35, bk133_25, bk133_39, bk133_46, bx133, rc_kf R, a31, x92 (show 500 < 2147483648 by decide) h1c hc5, akf, a17, gfc h1, oW_0, oW_1, oW_2, oW_3, oW_4, oW_5, oW_6, oW_7, oW_8, he, pf, Option.bind_some, bct_v, bct_t, otl_s, otl_n, List.cons_append, List.nil_append, List.getElem?_cons_zero, List.getElem?_cons_succ, ↓reduceIte]
theorem x133h (R : RCx w g x fl ka ha wr C B wad kd hr cp br n ws mi nd dr me di re) (hn : n ≤ 3) (hi : i < n) (hy : ws i = (ho, po, ch, lo, ac, bu, sl, may, mp)) (hp : po < 144) (hho : ho < 36) {c : Nat} (h1c : 1 ≤ c) (hc5 : c ≤ 500) (he : ¬ po / 4 = ho) : am_x 133 [.ref x, .int (nI i), .int (nI c)] w = some (.inr (am_xn 2), am_jk w 1 6) := by
  have h := rc_get R hi hy
  have a31 := x31 R hn hi
  have a17 := wk_17 h hp
  have akf := wk_kf h
  obtain ⟨m, be, fa, wa, ca, F, W, N, h1, h2, h3, h4, g1, g2, g3, g4, g5, g6⟩ := h
  simp only [bk133_0, bk133_5, bk133_14, bk133_18, bk133_22, bk133_35, bk133_25, bk133_39, bk133_46, bx133, rc_kf R, a31, x92 (show 500 < 2147483648 by decide) h1c hc5, akf, a17, gfc h1, oW_0, oW_1, oW_2, oW_3, oW_4, oW_5, oW_6, oW_7, oW_8, nI_eqS (show po / 4 < 2147483648 by omega) (show ho < 2147483648 by omega), he, Option.bind_some, bct_v, bct_t, otl_s, otl_n, List.cons_append, List.nil_append, List.getElem?_cons_zero, List.getElem?_cons_succ, ↓reduceIte]
theorem x133c (R : RCx w g x fl ka ha wr C B wad kd hr cp br n ws mi nd dr me di re) (hn : n ≤ 3) (hi : i < n) {z : Int32} (hz : z < nI 1 ∨ nI 500 < z) : am_x 133 [.ref x, .int (nI i), .int z] w = some (.inr (am_xn 1), am_jk w 1 6) := by
  simp only [bk133_0, bk133_5, bk133_14, bk133_18, bk133_22, bk133_35, bk133_25, bk133_39, bk133_46, bx133, rc_kf R, x31 R hn hi, x92n hz, Option.bind_some, bct_v, bct_t, otl_s, otl_n, List.cons_append, List.nil_append, List.getElem?_cons_zero, List.getElem?_cons_succ, ↓reduceIte]
theorem x133n (R : RCx w g x fl ka ha wr C B wad kd hr cp br n ws mi nd dr me di re) (hn : n ≤ 3) {z z2 : Int32} (hz : z < nI 0 ∨ nI n ≤ z) : am_x 133 [.ref x, .int z, .int z2] w = some (.inr (am_xn 0), am_jk w 1 6) := by
  simp only [bk133_0, bk133_5, bk133_14, bk133_18, bk133_22, bk133_35, bk133_25, bk133_39, bk133_46, bx133, rc_kf R, x31n R hn hz, Option.bind_some, bct_v, bct_t, otl_s, otl_n, List.cons_append, List.nil_append, List.getElem?_cons_zero, List.getElem?_cons_succ, ↓reduceIte]
def tellY (y : sW) : sW := match y with
  | (ho, po, ch, lo, ac, bu, sl, _, mp) => (ho, po, ch, lo, ac, bu, sl, (fun q => decide (q = po)), mp)
theorem x134 (R : RCx w g x fl ka ha wr C B wad kd hr cp br n ws mi nd dr me di re) (hn : n ≤ 3) (hi : i < n) (hy : ws i = (ho, po, ch, lo, ac, bu, sl, may, mp)) (hp : po < 144) :
    ∃ w', am_x 134 [.ref x, .int (nI i)] w = some (.inl (some (.int (nI (cnt 144 may)))), w') ∧ RCx w' g x fl ka ha wr C B wad kd hr cp br n (up ws i (tellY (ws i))) mi nd dr me di re ∧ frm g 1 40 w w' := by
  have h := rc_get R hi hy
  have a31 := x31 R hn hi
  obtain ⟨m, be, fa, wa, ca, F, W, N, h1, h2, h3, h4, g1, g2, g3, g4, g5, g6⟩ := h
  have z := x72 h3 h4
  obtain ⟨M, m1, m2⟩ := x2 h3 hp (g_ne g3 g6 (by omega))
  obtain ⟨r1, r2⟩ := Wkv_bel h1 h2 h3 m1 g1 g2 g3 g4 g5 g6
  have k0 := rc_wk R r1 r2
  rw [hy]
  refine ⟨_, ?_, k0, frm_c r2 (by omega)⟩
  simp only [bk134_0, bk134_5, bk134_10, bk134_13, bk134_18, bk134_22, bk134_25, bx134, rc_kf R, a31, gfc h1, oW_0, oW_1, oW_2, oW_3, oW_4, oW_5, oW_6, oW_7, oW_8, kfc h3.1, z, m2, Option.bind_some, bct_v, bct_t, otl_s, otl_n, List.cons_append, List.nil_append, List.getElem?_cons_zero, List.getElem?_cons_succ, ↓reduceIte]
theorem x134n (R : RCx w g x fl ka ha wr C B wad kd hr cp br n ws mi nd dr me di re) (hn : n ≤ 3) {z : Int32} (hz : z < nI 0 ∨ nI n ≤ z) : am_x 134 [.ref x, .int z] w = some (.inr (am_xn 0), am_jk w 1 6) := by
  simp only [bk134_0, bk134_5, bk134_10, bk134_13, bk134_18, bk134_22, bk134_25, bx134, rc_kf R, x31n R hn hz, Option.bind_some, bct_v, bct_t, otl_s, otl_n, List.cons_append, List.nil_append, List.getElem?_cons_zero, List.getElem?_cons_succ, ↓reduceIte]
theorem x135 (R : RCx w g x fl ka ha wr C B wad kd hr cp br n ws mi nd dr me di re) {m : Nat} (h1 : 1 ≤ m) (h2 : m ≤ 600) (h3 : mi + m ≤ 3000) :
    ∃ w', am_x 135 [.ref x, .int (nI m)] w = some (.inl (some (.int (nI (mi + m)))), w') ∧ RCx w' g x fl ka ha wr C B wad kd hr cp br n ws (mi + m) nd dr me di re ∧ frm g 1 40 w w' := by
  have p1 : am_pf w x 8 3 (.int (nI (mi + m))) = some (am_pt w x (.inr (8, oX fl wr n (mi + m) nd dr me di re))) := pfc R.1 (by show 3 < 9; decide) (by decide)
  have q1 : cO (am_pt w x (.inr (8, oX fl wr n (mi + m) nd dr me di re))) x 8 (oX fl wr n (mi + m) nd dr me di re) := pt_s
  obtain ⟨r1, r2⟩ := rc_x (mi' := mi + m) (nd' := nd) (dr' := dr) (me' := me) (di' := di) (re' := re) R
  refine ⟨_, ?_, r1, frm_x r2⟩
  simp only [bk135_0, bk135_8, bk135_12, bk135_30, bk135_20, bk135_35, bk135_40, bk135_44, bx135, x92 (show 600 < 2147483648 by decide) h1 h2, gfc R.1, gfc q1, oX_0, oX_1, oX_2, oX_3, oX_4, oX_5, oX_6, oX_7, oX_8, nI_add, nI_leS (show mi + m < 2147483648 by omega) (show 3000 < 2147483648 by decide), h3, p1, Option.bind_some, bct_v, bct_t, otl_s, otl_n, List.cons_append, List.nil_append, List.getElem?_cons_zero, List.getElem?_cons_succ, ↓reduceIte]
theorem x135m (R : RCx w g x fl ka ha wr C B wad kd hr cp br n ws mi nd dr me di re) (hm : mi ≤ 3000) {m : Nat} (h1 : 1 ≤ m) (h2 : m ≤ 600) (h3 : ¬ mi + m ≤ 3000) : am_x 135 [.ref x, .int (nI m)] w = some (.inr (am_xn 2), am_jk w 1 6) := by
  simp only [bk135_0, bk135_8, bk135_12, bk135_30, bk135_20, bk135_35, bk135_40, bk135_44, bx135, x92 (show 600 < 2147483648 by decide) h1 h2, gfc R.1, oX_0, oX_1, oX_2, oX_3, oX_4, oX_5, oX_6, oX_7, oX_8, nI_add, nI_leS (show mi + m < 2147483648 by omega) (show 3000 < 2147483648 by decide), h3, Option.bind_some, bct_v, bct_t, otl_s, otl_n, List.cons_append, List.nil_append, List.getElem?_cons_zero, List.getElem?_cons_succ, ↓reduceIte]
theorem x135n {z : Int32} (hz : z < nI 1 ∨ nI 600 < z) : am_x 135 [.ref x, .int z] w = some (.inr (am_xn 1), am_jk w 1 6) := by
  simp only [bk135_0, bk135_8, bk135_12, bk135_30, bk135_20, bk135_35, bk135_40, bk135_44, bx135, x92n hz, Option.bind_some, bct_v, bct_t, otl_s, otl_n, List.cons_append, List.nil_append, List.getElem?_cons_zero, List.getElem?_cons_succ, ↓reduceIte]
theorem x24 (R : RCx w g x fl ka ha wr C B wad kd hr cp br n ws mi nd dr me di re) : ∃ w', am_x 24 [.ref x] w = some (.inl (some (.int (re + nI 1))), w') ∧ RCx w' g x fl ka ha wr C B wad kd hr cp br n ws mi nd dr me di (re + nI 1) ∧ frm g 1 40 w w' := by
  have p1 : am_pf w x 8 8 (.int (re + nI 1)) = some (am_pt w x (.inr (8, oX fl wr n mi nd dr me di (re + nI 1)))) := pfc R.1 (by show 8 < 9; decide) (by decide)
  have q1 : cO (am_pt w x (.inr (8, oX fl wr n mi nd dr me di (re + nI 1)))) x 8 (oX fl wr n mi nd dr me di (re + nI 1)) := pt_s
  obtain ⟨r1, r2⟩ := rc_x (mi' := mi) (nd' := nd) (dr' := dr) (me' := me) (di' := di) (re' := re + nI 1) R
  refine ⟨_, ?_, r1, frm_x r2⟩
  simp only [bk24_0, bk24_5, bk24_10, bk24_14, bx24, gfc R.1, gfc q1, oX_0, oX_1, oX_2, oX_3, oX_4, oX_5, oX_6, oX_7, oX_8, p1, Option.bind_some, bct_v, bct_t, otl_s, otl_n, List.cons_append, List.nil_append, List.getElem?_cons_zero, List.getElem?_cons_succ, ↓reduceIte]
/-- the floor written -/
theorem rc_fl {w' : am_Wd} {kd' hr' : Nat → Nat} (R : RCx w g x fl ka ha wr C B wad kd hr cp br n ws mi nd dr me di re) (h : Flv w' fl ka ha kd' hr' C B) (f : frm g 3 5 w w') : RCx w' g x fl ka ha wr C B wad kd' hr' cp br n ws mi nd dr me di re := by
  obtain ⟨h1, h2, h3, h4, h5, h6, g1, g2, g3, g4, g5⟩ := R
  exact ⟨cO_of h1 (f.1 x (by omega)), h, h3, h4, cQ_of h5 (f.1 wr (by omega)), fun i hi => (h6 i hi).of fun b k1 k2 => f.1 b (by omega), g1, g2, g3, g4, g5⟩
theorem x166 (R : RCx w g x fl ka ha wr C B wad kd hr cp br n ws mi nd dr me di re) {c s k h : Nat} (hc : c ≤ 35) (hs : s ≤ 3) (hk : k ≤ 2) (hh : h ≤ 16777215) (hb : nb c s ≠ none) :
    ∃ w', am_x 166 [.ref x, .int (nI c), .int (nI s), .int (nI k), .int (nI h)] w = some (.inl (some (.int (nI (kd (plc c s))))), w') ∧ RCx w' g x fl ka ha wr C B wad (up kd (plc c s) k) (up hr (plc c s) (if k = 2 then h else 0)) cp br n ws mi nd dr me di re ∧ frm g 1 40 w w' := by
  obtain ⟨h1, h2, h3, h4, h5, h6, g1, g2, g3, g4, g5⟩ := R
  have R : RCx w g x fl ka ha wr C B wad kd hr cp br n ws mi nd dr me di re := ⟨h1, h2, h3, h4, h5, h6, g1, g2, g3, g4, g5⟩
  have n1 : fl ≠ ka := g_ne g2 g3 (by decide)
  have n2 : ha ≠ ka := g_ne g4 g3 (by decide)
  have n3 : fl ≠ ha := g_ne g2 g4 (by decide)
  have a124 := x124 h2 (c := c) (s := s) (by omega) (by omega)
  have a123 := x123 h2 (c := c) (s := s) (k := k) (n := h) (by omega) (by omega) hk hb n1 n2
  have f : frm g 3 5 w (two w ka ha (arI (up kd (plc c s) k) 72) (arI (up hr (plc c s) (if k = 2 then h else 0)) 72)) := frm_two (by omega) (by omega) (by omega) (by omega)
  have k0 := rc_fl R (w' := two w ka ha (arI (up kd (plc c s) k) 72) (arI (up hr (plc c s) (if k = 2 then h else 0)) 72)) (kd' := up kd (plc c s) k) (hr' := up hr (plc c s) (if k = 2 then h else 0)) ⟨cO_of h2.1 (two_n n1 n3), two_a n2.symm, two_b⟩ f
  refine ⟨_, ?_, k0, frm_wk f (by decide) (by decide)⟩
  cases e : nb c s with
  | none => exact absurd e hb
  | some d =>
    have hd := nb_lt (show c < 36 by omega) (show s < 4 by omega) e
    have e1 : kndS kd c s = kd (plc c s) := by unfold kndS; rw [e]
    rw [e1] at a124
    have hah : am_x 13 [.int (nI c), .int (nI s)] w = some (.inl (some (.int (nI d))), w) := by rw [ahd (by omega) (by omega), e]; rfl
    have hd1 : (nI d = (-1 : Int32)) = False := nI_m1S (by omega)
    simp only [bk166_0, bk166_4, bk166_8, bk166_13, bk166_21, bk166_17, bk166_22, bk166_25, bk166_31, bk166_39, bk166_43, bk166_48, bk166_54, bk166_62, bx166, x29 hc, x30 hs, hah, hd1, x28t, x92 (show 2 < 2147483648 by decide) (Nat.zero_le k) hk, x92 (show 16777215 < 2147483648 by decide) (Nat.zero_le h) hh, gfc h1, oX_0, oX_1, oX_2, oX_3, oX_4, oX_5, oX_6, oX_7, oX_8, kfc h2.1, a124, a123, Option.bind_some, bct_v, bct_t, otl_s, otl_n, List.cons_append, List.nil_append, List.getElem?_cons_zero, List.getElem?_cons_succ, ↓reduceIte]
    rfl
theorem x166c {z z2 z3 z4 : Int32} (hz : z < nI 0 ∨ nI 35 < z) : am_x 166 [.ref x, .int z, .int z2, .int z3, .int z4] w = some (.inr (am_xn 0), am_jk w 1 6) := by
  simp only [bx166, bk166_0, x29n hz, Option.bind_some, bct_v, bct_t, otl_s, otl_n, List.cons_append, List.nil_append, List.getElem?_cons_zero, List.getElem?_cons_succ, ↓reduceIte]
theorem x166s {c : Nat} (hc : c ≤ 35) {z z3 z4 : Int32} (hz : z < nI 0 ∨ nI 3 < z) : am_x 166 [.ref x, .int (nI c), .int z, .int z3, .int z4] w = some (.inr (am_xn 0), am_jk w 1 6) := by
  simp only [bx166, bk166_0, x29 hc, bk166_4, x30n hz, Option.bind_some, bct_v, bct_t, otl_s, otl_n, List.cons_append, List.nil_append, List.getElem?_cons_zero, List.getElem?_cons_succ, ↓reduceIte]
theorem x166o {c s : Nat} (hc : c ≤ 35) (hs : s ≤ 3) (hb : nb c s = none) {z3 z4 : Int32} : am_x 166 [.ref x, .int (nI c), .int (nI s), .int z3, .int z4] w = some (.inr (am_xn 1), am_jk w 1 6) := by
  have hah : am_x 13 [.int (nI c), .int (nI s)] w = some (.inl (some (.int (-1))), w) := by rw [ahd (by omega) (by omega), hb]; rfl
  simp only [bx166, bk166_0, x29 hc, bk166_4, x30 hs, bk166_8, hah, bk166_13, bk166_21, bk166_22, x28f, Option.bind_some, bct_v, bct_t, otl_s, otl_n, List.cons_append, List.nil_append, List.getElem?_cons_zero, List.getElem?_cons_succ, ↓reduceIte]
theorem x166k {c s : Nat} (hc : c ≤ 35) (hs : s ≤ 3) (hb : nb c s ≠ none) {z3 z4 : Int32} (hz : z3 < nI 0 ∨ nI 2 < z3) : am_x 166 [.ref x, .int (nI c), .int (nI s), .int z3, .int z4] w = some (.inr (am_xn 1), am_jk w 1 6) := by
  cases e : nb c s with
  | none => exact absurd e hb
  | some d =>
    have hd := nb_lt (show c < 36 by omega) (show s < 4 by omega) e
    have hah : am_x 13 [.int (nI c), .int (nI s)] w = some (.inl (some (.int (nI d))), w) := by rw [ahd (by omega) (by omega), e]; rfl
    have hd1 : (nI d = (-1 : Int32)) = False := nI_m1S (by omega)
    simp only [bx166, bk166_0, x29 hc, bk166_4, x30 hs, bk166_8, hah, bk166_13, hd1, bk166_17, bk166_22, x28t, bk166_25, x92n hz, Option.bind_some, bct_v, bct_t, otl_s, otl_n, List.cons_append, List.nil_append, List.getElem?_cons_zero, List.getElem?_cons_succ, ↓reduceIte]
theorem x166h {c s k : Nat} (hc : c ≤ 35) (hs : s ≤ 3) (hb : nb c s ≠ none) (hk : k ≤ 2) {z4 : Int32} (hz : z4 < nI 0 ∨ nI 16777215 < z4) : am_x 166 [.ref x, .int (nI c), .int (nI s), .int (nI k), .int z4] w = some (.inr (am_xn 1), am_jk w 1 6) := by
  cases e : nb c s with
  | none => exact absurd e hb
  | some d =>
    have hd := nb_lt (show c < 36 by omega) (show s < 4 by omega) e
    have hah : am_x 13 [.int (nI c), .int (nI s)] w = some (.inl (some (.int (nI d))), w) := by rw [ahd (by omega) (by omega), e]; rfl
    have hd1 : (nI d = (-1 : Int32)) = False := nI_m1S (by omega)
    simp only [bx166, bk166_0, x29 hc, bk166_4, x30 hs, bk166_8, hah, bk166_13, hd1, bk166_17, bk166_22, x28t, bk166_25, x92 (show 2 < 2147483648 by decide) (Nat.zero_le k) hk, bk166_31, x92n hz, Option.bind_some, bct_v, bct_t, otl_s, otl_n, List.cons_append, List.nil_append, List.getElem?_cons_zero, List.getElem?_cons_succ, ↓reduceIte]
theorem lay_ok {z : sLay} (h : kdok z.2.1) (h' : hrok z.2.2) : ∀ c, kdok (layN c z).2.1 ∧ hrok (layN c z).2.2 := by
  have one : ∀ (c s : Nat) (z : sLay), kdok z.2.1 → hrok z.2.2 → kdok (lay1 c s z).2.1 ∧ hrok (lay1 c s z).2.2 := by
    intro c s z h h'
    unfold lay1
    split
    · exact ⟨h, h'⟩
    · refine ⟨fun k => ?_, fun k => ?_⟩
      · show up _ _ _ k ≤ 2
        unfold up
        split
        · split <;> decide
        · exact h k
      · show up _ _ _ k < _
        unfold up
        split
        · decide
        · exact h' k
  intro c
  induction c with
  | zero => exact ⟨h, h'⟩
  | succ c ih =>
    have h1 := one c 1 _ ih.1 ih.2
    exact one c 2 _ h1.1 h1.2
theorem x200 (R : RCx w g x fl ka ha wr C B wad kd hr cp br n ws mi nd dr me di re) (hk : kdok kd) (hh : hrok hr) {s : Nat} (hs : s ≤ 126) :
    ∃ w', am_x 200 [.ref x, .int (nI s)] w = some (.inl (some (.int (nI (cnt 72 (fun k => (layN 36 (s, kd, hr)).2.1 k == 1))))), w') ∧ RCx w' g x fl ka ha wr C B wad (layN 36 (s, kd, hr)).2.1 (layN 36 (s, kd, hr)).2.2 cp br n ws mi nd dr me di re ∧ frm g 1 40 w w' := by
  obtain ⟨h1, h2, h3, h4, h5, h6, g1, g2, g3, g4, g5⟩ := R
  have R : RCx w g x fl ka ha wr C B wad kd hr cp br n ws mi nd dr me di re := ⟨h1, h2, h3, h4, h5, h6, g1, g2, g3, g4, g5⟩
  have n1 : fl ≠ ka := g_ne g2 g3 (by decide)
  have n2 : ha ≠ ka := g_ne g4 g3 (by decide)
  have n3 : fl ≠ ha := g_ne g2 g4 (by decide)
  have a157 := x157 h2 (n := s) (by omega) n1 n2 n3
  have f : frm g 3 5 w (two w ka ha (arI (layN 36 (s, kd, hr)).2.1 72) (arI (layN 36 (s, kd, hr)).2.2 72)) := frm_two (by omega) (by omega) (by omega) (by omega)
  have fv : Flv (two w ka ha (arI (layN 36 (s, kd, hr)).2.1 72) (arI (layN 36 (s, kd, hr)).2.2 72)) fl ka ha (layN 36 (s, kd, hr)).2.1 (layN 36 (s, kd, hr)).2.2 C B := ⟨cO_of h2.1 (two_n n1 n3), two_a n2.symm, two_b⟩
  have k0 := rc_fl R fv f
  have a10 := x10 fv (lay_ok (z := (s, kd, hr)) hk hh 36).1 (q := 1) (by decide)
  refine ⟨_, ?_, k0, frm_wk f (by decide) (by decide)⟩
  simp only [bk200_0, bk200_7, bk200_11, bk200_15, bk200_19, bk200_23, bx200, x92 (show 126 < 2147483648 by decide) (Nat.zero_le s) hs, gfc h1, gfc k0.1, oX_0, oX_1, oX_2, oX_3, oX_4, oX_5, oX_6, oX_7, oX_8, kfc h2.1, kfc fv.1, a157, a10, Option.bind_some, bct_v, bct_t, otl_s, otl_n, List.cons_append, List.nil_append, List.getElem?_cons_zero, List.getElem?_cons_succ, ↓reduceIte]
theorem x200n {z : Int32} (hz : z < nI 0 ∨ nI 126 < z) : am_x 200 [.ref x, .int z] w = some (.inr (am_xn 1), am_jk w 1 6) := by
  simp only [bk200_0, bk200_7, bk200_11, bk200_15, bk200_19, bk200_23, bx200, x92n hz, Option.bind_some, bct_v, bct_t, otl_s, otl_n, List.cons_append, List.nil_append, List.getElem?_cons_zero, List.getElem?_cons_succ, ↓reduceIte]
theorem x90 (R : RCx w g x fl ka ha wr C B wad kd hr cp br n ws mi nd dr me di re) {c : Nat} (hc : c ≤ 35) (u v : Bool) :
    ∃ w' C' B', am_x 90 [.ref x, .int (nI c), .int (b2i u), .int (b2i v)] w = some (.inl (some (.int (nI (cnt 36 (up br c v))))), w') ∧ RCx w' g x fl ka ha wr C' B' wad kd hr (up cp c u) (up br c v) n ws mi nd dr me di re ∧ frm g 1 40 w w' := by
  obtain ⟨h1, h2, h3, h4, h5, h6, g1, g2, g3, g4, g5⟩ := R
  obtain ⟨C', B', e1, e2, e3⟩ := x8 h2.1 (c := c) (by omega) h3 h4 u v
  have f : frm g 2 3 w (am_pt w fl (.inr (5, [.ref ka, .ref ha, .long (lN C'), .long (lN B')]))) := frm_pt (by omega) (by omega)
  have a50 := bc_36 e3 (am_pt w fl (.inr (5, [.ref ka, .ref ha, .long (lN C'), .long (lN B')])))
  have q1 : cO (am_pt w fl (.inr (5, [.ref ka, .ref ha, .long (lN C'), .long (lN B')]))) fl 5 [.ref ka, .ref ha, .long (lN C'), .long (lN B')] := pt_s
  have q2 : cO (am_pt w fl (.inr (5, [.ref ka, .ref ha, .long (lN C'), .long (lN B')]))) x 8 (oX fl wr n mi nd dr me di re) := cO_of h1 (f.1 x (by omega))
  refine ⟨_, C', B', ?_, ⟨q2, ⟨q1, cI_of h2.2.1 (f.1 ka (by omega)), cI_of h2.2.2 (f.1 ha (by omega))⟩, e2, e3, cQ_of h5 (f.1 wr (by omega)), fun i hi => (h6 i hi).of fun b k1 k2 => f.1 b (by omega), g1, g2, g3, g4, g5⟩, frm_wk f (by decide) (by decide)⟩
  simp only [bk90_0, bk90_4, bk90_8, bk90_14, bk90_18, bk90_21, bk90_24, bx90, x29 hc, gfc h1, gfc q2, oX_0, oX_1, oX_2, oX_3, oX_4, oX_5, oX_6, oX_7, oX_8, kfc h2.1, e1, gfc q1, a50, Option.bind_some, bct_v, bct_t, otl_s, otl_n, List.cons_append, List.nil_append, List.getElem?_cons_zero, List.getElem?_cons_succ, ↓reduceIte]
theorem x90n {z z2 z3 : Int32} (hz : z < nI 0 ∨ nI 35 < z) : am_x 90 [.ref x, .int z, .int z2, .int z3] w = some (.inr (am_xn 0), am_jk w 1 6) := by
  simp only [bk90_0, bk90_4, bk90_8, bk90_14, bk90_18, bk90_21, bk90_24, bx90, x29n hz, Option.bind_some, bct_v, bct_t, otl_s, otl_n, List.cons_append, List.nil_append, List.getElem?_cons_zero, List.getElem?_cons_succ, ↓reduceIte]
end AC2
