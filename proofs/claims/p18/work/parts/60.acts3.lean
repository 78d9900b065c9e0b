/-! THE CLASS'S ACTS: meetings, new walkers, a new object. Mine. -/
section MEE
variable {w : am_Wd} {g : Nat → Nat} {x fl ka ha wr C B : Nat} {wad : Nat → Nat} {kd hr : Nat → Nat} {cp br : Nat → Bool} {n : Nat} {ws : Nat → sW} {mi nd : Nat} {dr me di re : Int32}
variable {i ho po ch : Nat} {lo ac bu sl : Int32} {may : Nat → Bool} {mp : Nat → Nat}
variable {j ho' po' ch' : Nat} {lo' ac' bu' sl' : Int32} {may' : Nat → Bool} {mp' : Nat → Nat}
def unkN (mp : Nat → Nat) : Nat := cnt 36 (unkP mp 1) + cnt 36 (unkP mp 2)
def dspN (mp mq : Nat → Nat) : Nat := dspP mp mq 1 + dspP mp mq 2
def mapY (mp : Nat → Nat) (y : sW) : sW := match y with
  | (ho, po, ch, lo, ac, bu, sl, may, _) => (ho, po, ch, lo, ac, bu, sl, may, mp)
theorem x168 (R : RCx w g x fl ka ha wr C B wad kd hr cp br n ws mi nd dr me di re) (hn : n ≤ 3) (hi : i < n) (hj : j < n) (hij : i ≠ j) (hy : ws i = (ho, po, ch, lo, ac, bu, sl, may, mp)) (hz : ws j = (ho', po', ch', lo', ac', bu', sl', may', mp')) (hp : po < 144) (hp' : po' < 144) (hm : mpo mp) (hm' : mpo mp') (s1 : cnt 144 may = 1) (s2 : cnt 144 may' = 1) (hc : po / 4 = po' / 4) :
    ∃ w', am_x 168 [.ref x, .int (nI i), .int (nI j)] w = some (.inl (some (.int (nI (unkN mp) - nI (unkN (mrg mp mp')) + (nI (unkN mp') - nI (unkN (mrg mp' (mrg mp mp'))))))), w') ∧ RCx w' g x fl ka ha wr C B wad kd hr cp br n (up (up ws i (mapY (mrg mp mp') (ws i))) j (mapY (mrg mp' (mrg mp mp')) (ws j))) mi nd dr (me + nI 1) (di + nI (dspN mp mp')) re ∧ frm g 1 40 w w' := by
  have a1 := x31 R hn hi
  have a2 := x31 R hn hj
  have h := rc_get R hi hy
  have h' := rc_get R hj hz
  have b1 := x128 h
  have b2 := x128 h'
  rw [s1] at b1
  rw [s2] at b2
  have c1 := wk_17 h hp
  have c2 := wk_17 h' hp'
  -- the object's fields
  have p1 : am_pf w x 8 6 (.int (me + nI 1)) = some (am_pt w x (.inr (8, oX fl wr n mi nd dr (me + nI 1) di re))) := pfc R.1 (by show 6 < 9; decide) (by decide)
  obtain ⟨R1, f1⟩ := rc_x (mi' := mi) (nd' := nd) (dr' := dr) (me' := me + nI 1) (di' := di) (re' := re) R
  generalize hw1 : am_pt w x (.inr (8, oX fl wr n mi nd dr (me + nI 1) di re)) = w1 at R1 f1 p1
  have h1 := rc_get R1 hi hy
  have h1' := rc_get R1 hj hz
  have p2 : ∀ z, am_pf w1 x 8 7 (.int z) = some (am_pt w1 x (.inr (8, oX fl wr n mi nd dr (me + nI 1) z re))) := fun z => pfc R1.1 (by show 7 < 9; decide) (by decide)
  obtain ⟨R2, f2⟩ := rc_x (mi' := mi) (nd' := nd) (dr' := dr) (me' := me + nI 1) (di' := di + nI (dspN mp mp')) (re' := re) R1
  have p2' := p2 (di + nI (dspN mp mp'))
  generalize hw2 : am_pt w1 x (.inr (8, oX fl wr n mi nd dr (me + nI 1) (di + nI (dspN mp mp')) re)) = w2 at R2 f2 p2'
  have h2 := rc_get R2 hi hy
  have h2' := rc_get R2 hj hz
  obtain ⟨m, be, fa, wa, ca, F, W, N, o1, o2, o3, o4, g1, g2, g3, g4, g5, g6⟩ := h1
  obtain ⟨m', be', fa', wa', ca', F', W', N', o1', o2', o3', o4', g1', g2', g3', g4', g5', g6'⟩ := h1'
  have a86 : am_x 86 [.ref m, .ref m'] w1 = some (.inl (some (.int (nI (dspN mp mp')))), w1) := x86 o2 o2'
  -- the same cells in w2
  have k2 : ∀ b, g b ≠ 1 → w2.1 b = w1.1 b := fun b hb => f2.1 b (by omega)
  have q1 := cO_of o1 (k2 (wad i) (by omega))
  have q2 := o2.of (k2 m (by omega)) (k2 fa (by omega)) (k2 wa (by omega))
  have q3 := o3.of (k2 be (by omega)) (k2 ca (by omega))
  have q1' := cO_of o1' (k2 (wad j) (by omega))
  have q2' := o2'.of (k2 m' (by omega)) (k2 fa' (by omega)) (k2 wa' (by omega))
  have q3' := o3'.of (k2 be' (by omega)) (k2 ca' (by omega))
  obtain ⟨F1, W1, e1, e2⟩ := x131 q2 q2' hm hm' (g_ne g2 g4 (by omega)) (g_ne g2 g5 (by omega)) (g_ne g4 g5 (by omega)) (g_ne g2' g4 (by omega)) (g_ne g2' g5 (by omega)) (g_ne g4' g4 (by omega)) (g_ne g4' g5 (by omega)) (g_ne g5' g4 (by omega)) (g_ne g5' g5 (by omega))
  obtain ⟨r1, r2⟩ := Wkv_map q1 e2 q3 o4 g1 g2 g3 g4 g5 g6
  have R3 := rc_wk R2 r1 r2
  generalize hw3 : two w2 fa wa (arL F1) (arL W1) = w3 at e1 e2 r1 r2 R3
  have k3 : ∀ b, g b < 10 + 10 * i ∨ 20 + 10 * i ≤ g b → w3.1 b = w2.1 b := r2.1
  have t1 : ∀ b, 10 + 10 * j ≤ g b → g b < 20 + 10 * j → w3.1 b = w2.1 b := fun b z1 z2 => k3 b (by omega)
  have u1 := cO_of q1' (t1 (wad j) (by omega) (by omega))
  have u2 := q2'.of (t1 m' (by omega) (by omega)) (t1 fa' (by omega) (by omega)) (t1 wa' (by omega) (by omega))
  have u3 := q3'.of (t1 be' (by omega) (by omega)) (t1 ca' (by omega) (by omega))
  obtain ⟨F2, W2, e3, e4⟩ := x131 u2 e2 hm' (mrg_le hm hm') (g_ne g2' g4' (by omega)) (g_ne g2' g5' (by omega)) (g_ne g4' g5' (by omega)) (g_ne g2 g4' (by omega)) (g_ne g2 g5' (by omega)) (g_ne g4 g4' (by omega)) (g_ne g4 g5' (by omega)) (g_ne g5 g4' (by omega)) (g_ne g5 g5' (by omega))
  obtain ⟨r3, r4⟩ := Wkv_map u1 e4 u3 o4' g1' g2' g3' g4' g5' g6'
  have R4 := rc_wk R3 r3 r4
  have v1 : cO w3 (wad i) 6 (oW ho po ch m be lo ac bu sl) := by
    obtain ⟨m9, be9, fa9, wa9, ca9, F9, W9, N9, z1, -⟩ := r1
    rw [← hw3]
    exact cO_of q1 (two_n (g_ne g1 g4 (by omega)) (g_ne g1 g5 (by omega)))
  rw [hy, hz]
  refine ⟨_, ?_, R4, frm_tr (frm_x f1) (frm_tr (frm_x f2) (frm_tr (frm_c r2 (by omega)) (frm_c r4 (by omega))))⟩
  have hne : (nI i = nI j) = False := by rw [nI_eqS (by omega) (by omega)]; exact eq_false hij
  have b1' : am_x 128 [.ref (wad i)] w = some (.inl (some (.int (nI 1))), w) := b1
  have b2' : am_x 128 [.ref (wad j)] w = some (.inl (some (.int (nI 1))), w) := b2
  simp only [bx168, bk168_0, rc_kf R, a1, bk168_5, a2, bk168_11, hne, bk168_18, bk168_23, x28t, bk168_26, wk_kf h, b1', bk168_30, nI_eqS (show 1 < 2147483648 by decide) (show 0 < 2147483648 by decide), bk168_33, wk_kf h', b2', bk168_38, bk168_41, c1, bk168_45, c2, bk168_50, hc, bk168_63, gfc R.1, oX_0, oX_1, oX_2, oX_3, oX_4, oX_5, oX_6, oX_7, oX_8, bk168_68, p1, bk168_73, gfc R1.1, bk168_78, gfc o1, gfc o1', oW_0, oW_1, oW_2, oW_3, oW_4, oW_5, oW_6, oW_7, oW_8, bk168_82, bk168_87, kfc o2.1, a86, bk168_90, p2', bk168_94, gfc q1, bk168_98, gfc q1', bk168_103, kfc q2.1, e1, bk168_106, gfc u1, bk168_111, gfc v1, bk168_115, kfc u2.1, e3, bk168_118, Option.bind_some, bct_v, bct_t, otl_s, otl_n, List.cons_append, List.nil_append, List.getElem?_cons_zero, List.getElem?_cons_succ, ↓reduceIte, nI_add, nI_leS, nI_ltS, nI_eqS, nI_m1S, Nat.reduceAdd, Nat.reduceLT, Nat.reduceLeDiff, Nat.reduceMul, Nat.reduceEqDiff, not_true_eq_false, not_false_eq_true]
  rfl
theorem x168m (R : RCx w g x fl ka ha wr C B wad kd hr cp br n ws mi nd dr me di re) (hn : n ≤ 3) (hi : i < n) (hj : j < n) (hij : i ≠ j) (hy : ws i = (ho, po, ch, lo, ac, bu, sl, may, mp)) (hz : ws j = (ho', po', ch', lo', ac', bu', sl', may', mp')) (hp : po < 144) (hp' : po' < 144) (h0 : ¬ (cnt 144 may = 1 ∧ cnt 144 may' = 1 ∧ po / 4 = po' / 4)) : am_x 168 [.ref x, .int (nI i), .int (nI j)] w = some (.inr (am_xn 2), am_jk w 1 6) := by
  have a1 := x31 R hn hi
  have a2 := x31 R hn hj
  have h := rc_get R hi hy
  have h' := rc_get R hj hz
  have b1 := x128 h
  have b2 := x128 h'
  have c1 := wk_17 h hp
  have c2 := wk_17 h' hp'
  have hne : (nI i = nI j) = False := by rw [nI_eqS (by omega) (by omega)]; exact eq_false hij
  by_cases s1 : cnt 144 may = 1
  · rw [decide_eq_true s1] at b1
    by_cases s2 : cnt 144 may' = 1
    · rw [decide_eq_true s2] at b2
      have hc : ¬ po / 4 = po' / 4 := fun q => h0 ⟨s1, s2, q⟩
      simp only [bx168, bk168_0, rc_kf R, a1, bk168_5, a2, bk168_11, hne, bk168_18, bk168_23, x28t, bk168_26, wk_kf h, b1, bk168_30, b2i_0, reduceCtorEq, bk168_33, wk_kf h', b2, bk168_38, bk168_41, c1, bk168_45, c2, bk168_50, nI_eqS (show po / 4 < 2147483648 by omega) (show po' / 4 < 2147483648 by omega), hc, bk168_53, Option.bind_some, bct_v, bct_t, otl_s, otl_n, List.cons_append, List.nil_append, List.getElem?_cons_zero, List.getElem?_cons_succ, ↓reduceIte]
    · rw [decide_eq_false s2] at b2
      simp only [bx168, bk168_0, rc_kf R, a1, bk168_5, a2, bk168_11, hne, bk168_18, bk168_23, x28t, bk168_26, wk_kf h, b1, bk168_30, b2i_0, reduceCtorEq, bk168_33, wk_kf h', b2, bk168_38, bk168_53, Option.bind_some, bct_v, bct_t, otl_s, otl_n, List.cons_append, List.nil_append, List.getElem?_cons_zero, List.getElem?_cons_succ, ↓reduceIte]
  · rw [decide_eq_false s1] at b1
    simp only [bx168, bk168_0, rc_kf R, a1, bk168_5, a2, bk168_11, hne, bk168_18, bk168_23, x28t, bk168_26, wk_kf h, b1, bk168_30, b2i_0, bk168_53, Option.bind_some, bct_v, bct_t, otl_s, otl_n, List.cons_append, List.nil_append, List.getElem?_cons_zero, List.getElem?_cons_succ, ↓reduceIte]
theorem x168e (R : RCx w g x fl ka ha wr C B wad kd hr cp br n ws mi nd dr me di re) (hn : n ≤ 3) (hi : i < n) : am_x 168 [.ref x, .int (nI i), .int (nI i)] w = some (.inr (am_xn 1), am_jk w 1 6) := by
  simp only [bx168, bk168_0, rc_kf R, x31 R hn hi, bk168_5, bk168_11, bk168_22, bk168_23, x28f, Option.bind_some, bct_v, bct_t, otl_s, otl_n, List.cons_append, List.nil_append, List.getElem?_cons_zero, List.getElem?_cons_succ, ↓reduceIte]
theorem x168n (R : RCx w g x fl ka ha wr C B wad kd hr cp br n ws mi nd dr me di re) (hn : n ≤ 3) {z z2 : Int32} (hz : z < nI 0 ∨ nI n ≤ z) : am_x 168 [.ref x, .int z, .int z2] w = some (.inr (am_xn 0), am_jk w 1 6) := by
  simp only [bx168, bk168_0, rc_kf R, x31n R hn hz, Option.bind_some, bct_v, bct_t, otl_s, otl_n, List.cons_append, List.nil_append, List.getElem?_cons_zero, List.getElem?_cons_succ, ↓reduceIte]
theorem x168o (R : RCx w g x fl ka ha wr C B wad kd hr cp br n ws mi nd dr me di re) (hn : n ≤ 3) (hi : i < n) {z2 : Int32} (hz : z2 < nI 0 ∨ nI n ≤ z2) : am_x 168 [.ref x, .int (nI i), .int z2] w = some (.inr (am_xn 0), am_jk w 1 6) := by
  simp only [bx168, bk168_0, rc_kf R, x31 R hn hi, bk168_5, x31n R hn hz, Option.bind_some, bct_v, bct_t, otl_s, otl_n, List.cons_append, List.nil_append, List.getElem?_cons_zero, List.getElem?_cons_succ, ↓reduceIte]
end MEE
/-! what is made -/
theorem nw_s {w : am_Wd} {e : am_En} {k : Nat} : (am_nw w e k).1 w.2.1 = some e := if_pos rfl
theorem nw_n {w : am_Wd} {e : am_En} {k b : Nat} (h : b ≠ w.2.1) : (am_nw w e k).1 b = w.1 b := if_neg h
theorem nw_2 {w : am_Wd} {e : am_En} {k : Nat} : (am_nw w e k).2 = (w.2.1 + 1, w.2.2.1 + k, w.2.2.2) := rfl
/-- the sides' outer cells, a row that stood there before -/
def oc (s : Nat) : Nat := if s = 0 then 63 else if s = 1 then 34905131040 else if s = 2 then 67645734912 else 1090785345
def stO (w : am_Wd) (o : Nat) (xf : Nat → Int64) : Prop := w.2.2.2 0 = some o ∧ w.1 o = some (.inl (9, 4, .inr (.inl xf))) ∧ ∀ s, s < 4 → xf s = lN (oc s)
theorem x12 {w : am_Wd} {o : Nat} {xf : Nat → Int64} (h : stO w o xf) : am_x 12 [] w = some (.inl (some (.ref w.2.1)), am_nw w (.inl (1, 4, .inr (.inl xf))) 4) := by
  rw [bx12]
  refine (bu (ls'' := []) (st' := [.ref o]) bf12_0 bf12_3 (ls' := []) ?_ rfl).trans ?_
  · show some _ = _
    rw [h.1]
    rfl
  refine (bn (ls'' := []) (st' := [.ref w.2.1]) (w' := am_nw w (.inl (1, 4, .inr (.inl xf))) 4) bf12_3 bf12_6 (ls' := []) ?_ rfl (am_ge_nw _ _ _)).trans ?_
  · show (match w.1 o with | some (.inl (t, n, .inr (.inl x))) => (if t = 9 then am_nx (3 + 3) [] (.ref w.2.1 :: []) (am_nw w (.inl (1, n, .inr (.inl x))) n) else none) | _ => none) = _
    rw [h.2.1]
    rfl
  refine (bu (ls'' := []) (st' := [.ref w.2.1]) bf12_6 bf12_9 (ls' := []) ?_ rfl).trans ?_
  · show (am_kt (am_nw w (.inl (1, 4, .inr (.inl xf))) 4) w.2.1 1).bind _ = _
    unfold am_kt
    rw [nw_s]
    rfl
  exact am_e2 bf12_9 rfl (am_ge_rf _)
theorem arL_of (xf : Nat → Int64) : ∃ W : Nat → Nat, (∀ j, W j < 2 ^ 64) ∧ xf = fun j => lN (W j) := by
  refine ⟨fun j => (xf j).toBitVec.toNat, fun j => (xf j).toBitVec.isLt, funext fun j => ?_⟩
  obtain ⟨n, h1, h2⟩ := wb_of (xf j)
  show xf j = lN ((xf j).toBitVec.toNat)
  rw [h2, wb_tn h1]
theorem lN_inj {a b : Nat} (ha : a < 2 ^ 64) (hb : b < 2 ^ 64) (h : lN a = lN b) : a = b := by
  rw [← wb_tn ha, ← wb_tn hb, h]
theorem oc_bm : ∀ s, s < 4 → bm (oc s) (fun c => kno (fun _ => 0) c s == 2) := by
  have k : all36 (fun c s => (oc s).testBit c == (kno (fun _ => 0) c s == 2)) = true := by decide +kernel
  intro s hs
  refine ⟨?_, fun c hc => beq_iff_eq.mp (all36_at k hc hs)⟩
  rcases (show s = 0 ∨ s = 1 ∨ s = 2 ∨ s = 3 by omega) with rfl | rfl | rfl | rfl <;> decide
theorem kn0 : ∀ s, s < 4 → bm 0 (fun c => kno (fun _ => 0) c s == 1) := by
  have k : all36 (fun c s => (false : Bool) == (kno (fun _ => 0) c s == 1)) = true := by decide +kernel
  intro s hs
  exact ⟨by decide, fun c hc => (Nat.zero_testBit c).trans (beq_iff_eq.mp (all36_at k hc hs))⟩
