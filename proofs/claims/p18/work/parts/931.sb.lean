/-! STRINGS BEING BUILT: what they hold, what appending comes to. Mine. -/
theorem byte_ok (x : Int32) : am_ok .byte (.int (vp_nar .byte x)) = true := by
  rw [vp_nar_byte]
  have h1 := Int8.le_toInt x.toInt8
  have h2 := Int8.toInt_lt x.toInt8
  have h3 : (x.toInt8.toInt32).toInt = x.toInt8.toInt := Int8.toInt_toInt32 _
  refine decide_eq_true ⟨?_, ?_⟩
  · rw [Int32.le_iff_toInt_le, h3]
    exact h1
  · rw [Int32.le_iff_toInt_le, h3]
    show x.toInt8.toInt ≤ 127
    omega
theorem byte_0 : am_ok .byte (.int (0 : Int32)) = true := by decide
/-- nothing old is changed but b and va -/
def chB (w w' : am_Wd) (b va k s : Nat) : Prop := (∀ c, c < w.2.1 → c ≠ b → c ≠ va → w'.1 c = w.1 c) ∧ w.2.1 ≤ w'.2.1 ∧ w'.2.1 ≤ w.2.1 + k ∧ w.2.2.1 ≤ w'.2.2.1 ∧ w'.2.2.1 ≤ w.2.2.1 + s ∧ w'.2.2.2 = w.2.2.2
theorem chB_tr {w w' w'' : am_Wd} {b va k s k' s' : Nat} (h : chB w w' b va k s) (h' : chB w' w'' b va k' s') : chB w w'' b va (k + k') (s + s') := by
  obtain ⟨a1, a2, a3, a4, a5, a6⟩ := h
  obtain ⟨b1, b2, b3, b4, b5, b6⟩ := h'
  exact ⟨fun c hc h1 h2 => (b1 c (by omega) h1 h2).trans (a1 c hc h1 h2), by omega, by omega, by omega, by omega, b6.trans a6⟩
theorem chB_pb {w : am_Wd} {b va : Nat} {e : am_En} : chB w (am_pt w b e) b va 0 0 := ⟨fun c _ h1 _ => pt_n h1, Nat.le_refl _, Nat.le_refl _, Nat.le_refl _, Nat.le_refl _, rfl⟩
theorem chB_pv {w : am_Wd} {b va : Nat} {e : am_En} : chB w (am_pt w va e) b va 0 0 := ⟨fun c _ _ h2 => pt_n h2, Nat.le_refl _, Nat.le_refl _, Nat.le_refl _, Nat.le_refl _, rfl⟩
theorem ext_chB {w0 w w' : am_Wd} {b va k s k' s' : Nat} (e : ext w0 w k s) (hb : w0.2.1 ≤ b) (hv : w0.2.1 ≤ va) (h : chB w w' b va k' s') : ext w0 w' (k + k') (s + s') := by
  obtain ⟨a1, a2, a3, a4, a5, a6⟩ := h
  obtain ⟨b1, b2, b3, b4, b5, b6⟩ := e
  exact ⟨fun c hc => (a1 c (by omega) (by omega) (by omega)).trans (b1 c hc), by omega, by omega, by omega, by omega, a6.trans b6⟩
/-- a string being built: k characters in a row of 16, the first k2 places those of the text T -/
def sBx (w : am_Wd) (b va k k2 : Nat) (T : Nat → Int32) : Prop := cO w b 1 [.ref va, .int (nI 0), .int (nI 0), .int (nI k)] ∧ (∃ f, cI w va 3 16 f ∧ ∀ j, j < 16 → am_ok .byte (.int (f j)) = true ∧ (j < k2 → f j = T j)) ∧ b ≠ va
def sB (w : am_Wd) (b va k : Nat) (T : Nat → Int32) : Prop := sBx w b va k k T
theorem sB.ext {w w' : am_Wd} {b va k c s : Nat} {T : Nat → Int32} (h : sB w b va k T) (hb : b < w.2.1) (hv : va < w.2.1) (e : ext w w' c s) : sB w' b va k T := by
  obtain ⟨h1, ⟨f, h2, h3⟩, h4⟩ := h
  exact ⟨cO_of h1 (e.1 b hb), ⟨f, cI_of h2 (e.1 va hv), h3⟩, h4⟩
theorem bO_0 {va k : Nat} : ([.ref va, .int (nI 0), .int (nI 0), .int (nI k)] : List Value)[0]? = some (.ref va) := rfl
theorem bO_1 {va k : Nat} : ([.ref va, .int (nI 0), .int (nI 0), .int (nI k)] : List Value)[1]? = some (.int (nI 0)) := rfl
theorem bO_3 {va k : Nat} : ([.ref va, .int (nI 0), .int (nI 0), .int (nI k)] : List Value)[3]? = some (.int (nI k)) := rfl
theorem n10 : (nI 1 = nI 0) = False := eq_false (by decide)
theorem shr16 : bj_ishr (nI 16) (nI 0) = nI 16 := by decide
theorem sub16 : ∀ j, j ≤ 16 → (nI j - nI 16 ≤ nI 0) = True := by
  intro j hj
  have h : ∀ j : Fin 17, nI j.val - nI 16 ≤ nI 0 := by decide +kernel
  exact eq_true (h ⟨j, by omega⟩)
/-- a text -/
def sT (w : am_Wd) (s v len : Nat) (F : Nat → Int32) : Prop := am_gf w s 0 0 = some (.ref v) ∧ am_gf w s 0 1 = some (.int (nI 0)) ∧ am_kf w s 0 = some () ∧ (∃ t f, w.1 v = some (.inl (t, len, .inl f)) ∧ t % 8 = 3 ∧ ∀ j, j < len → am_ok .byte (.int (f j)) = true ∧ f j = F j) ∧ len ≤ 3
theorem gf_of {w w' : am_Wd} {a ci k : Nat} (e : w'.1 a = w.1 a) : am_gf w' a ci k = am_gf w a ci k := by unfold am_gf; rw [e]
theorem kf_of {w w' : am_Wd} {a ci : Nat} (e : w'.1 a = w.1 a) : am_kf w' a ci = am_kf w a ci := by unfold am_kf; rw [e]
theorem sT.of {w w' : am_Wd} {s v len : Nat} {F : Nat → Int32} (h : sT w s v len F) (e1 : w'.1 s = w.1 s) (e2 : w'.1 v = w.1 v) : sT w' s v len F := by
  obtain ⟨h1, h2, h3, ⟨t, f, h4, h5, h6⟩, h7⟩ := h
  exact ⟨(gf_of e1).trans h1, (gf_of e1).trans h2, (kf_of e1).trans h3, ⟨t, f, e2.trans h4, h5, h6⟩, h7⟩
theorem sT_lit {w : am_Wd} {g : Nat → Nat} (h : StW w g) {r : Nat} (h1 : 24 ≤ r) (h2 : r ≤ 28) : ∃ k v, w.2.2.2 r = some k ∧ sT w k v (if r = 24 then 0 else if r = 28 then 3 else 1) (litS r) ∧ k < w.2.1 ∧ v < w.2.1 := by
  obtain ⟨-, h, -⟩ := h
  obtain ⟨k, v, f, b1, b2, b3, b4, b5, b6, b7, b8⟩ := h r h1 h2
  have q : (if r = 24 then 0 else if r = 28 then 3 else 1) ≤ 3 := by split; decide; split <;> decide
  refine ⟨k, v, b1, ⟨?_, ?_, ?_, ⟨11, f, b3, rfl, fun j hj => ⟨(b4 j (by omega)).1, (b4 j (by omega)).2 hj⟩⟩, q⟩, b5, b6⟩
  · unfold am_gf; rw [b2]; rfl
  · unfold am_gf; rw [b2]; rfl
  · unfold am_kf; rw [b2]; rfl
section SB
variable {w : am_Wd} {b va k s v len : Nat} {T F : Nat → Int32}
theorem sb_kf (h : sB w b va k T) : am_kf w b 1 = some () := kfc h.1
theorem x66 (h : sB w b va k T) : am_x 66 [.ref b] w = some (.inl (some (.int (nI 1))), w) := by
  simp only [bk66_0, bk66_17, bk66_6, bk66_10, bk66_13, bx66, n10, gfc h.1, bO_1, not_true_eq_false, Option.bind_some, bct_v, bct_t, otl_s, otl_n, List.cons_append, List.nil_append, List.getElem?_cons_zero, List.getElem?_cons_succ, ↓reduceIte]
  exact bk66_18 rfl
theorem x63 (h : sB w b va k T) {j : Nat} (hj : j ≤ 16) : am_x 63 [.ref b, .int (nI j)] w = some (.inl none, w) := by
  obtain ⟨h1, ⟨f, h2, h3⟩, h4⟩ := h
  simp only [bk63_0, bk63_4, bk63_5, bk63_9, bk63_38, bk63_17, bx63, gfc h1, bO_0, lenI h2 (by decide), bO_1, shr16, sub16 j hj, Option.bind_some, bct_v, bct_t, otl_s, otl_n, List.cons_append, List.nil_append, List.getElem?_cons_zero, List.getElem?_cons_succ, ↓reduceIte]
theorem x62 {c : Int32} (h : ¬ nI 255 < c) : am_x 62 [.int c] w = some (.inl (some (.int (nI 1))), w) := by
  rw [bx62, bk62_0, if_neg h, bk62_7]
  exact bk62_12 rfl
theorem sB_put (h : sB w b va k T) (hk : k < 16) (x : Int32) (hx : T k = vp_nar .byte x) : ∃ w1 w2, am_pf w b 1 3 (.int (nI (k + 1))) = some w1 ∧ am_wi 3 w1 va (nI k) (vp_nar .byte x) = some w2 ∧ sB w2 b va (k + 1) T ∧ chB w w2 b va 0 0 := by
  obtain ⟨h1, ⟨f, h2, h3⟩, h4⟩ := h
  have p1 : am_pf w b 1 3 (.int (nI (k + 1))) = some (am_pt w b (.inr (1, [.ref va, .int (nI 0), .int (nI 0), .int (nI (k + 1))]))) := pfc h1 (by show 3 < 4; decide) (by decide)
  have c1 : cI (am_pt w b (.inr (1, [.ref va, .int (nI 0), .int (nI 0), .int (nI (k + 1))]))) va 3 16 f := cI_of h2 (pt_n (Ne.symm h4))
  refine ⟨_, _, p1, wic c1 hk (by decide), ⟨cO_of (w := am_pt w b (.inr (1, [.ref va, .int (nI 0), .int (nI 0), .int (nI (k + 1))]))) pt_s (pt_n h4), ⟨_, pt_s, fun j hj => ?_⟩, h4⟩, chB_tr chB_pb chB_pv⟩
  unfold upd
  by_cases e : j = k
  · rw [if_pos e]
    exact ⟨byte_ok x, fun _ => by rw [e]; exact hx.symm⟩
  · rw [if_neg e]
    exact ⟨(h3 j hj).1, fun q => (h3 j hj).2 (by omega)⟩
theorem x113 (h : sB w b va k T) (hk : k < 16) {c : Int32} (hc : ¬ nI 255 < c) (hT : T k = vp_nar .byte (Int32.toInt8 c).toInt32) : ∃ w', am_x 113 [.ref b, .int c] w = some (.inl (some (.ref b)), w') ∧ sB w' b va (k + 1) T ∧ chB w w' b va 0 0 := by
  obtain ⟨w1, w2, p1, p2, h2, e⟩ := sB_put h hk (Int32.toInt8 c).toInt32 hT
  refine ⟨w2, ?_, h2, e⟩
  simp only [bx113, bk113_0, gfc h.1, bO_3, bk113_5, sb_kf h, nI_add, x63 h (show k + 1 ≤ 16 by omega), bk113_10, x66 h, bk113_14, n10, bk113_17, x62 hc, bk113_21, bk113_24, bO_0, bk113_28, bk113_33, p1, bk113_39, p2, bk113_42, bk113_75, Option.bind_some, bct_v, bct_t, otl_s, otl_n, List.cons_append, List.nil_append, List.getElem?_cons_zero, List.getElem?_cons_succ, ↓reduceIte]
theorem x154 (h : sB w b va k T) (hk : k < 16) {c : Int32} (hc : ¬ nI 255 < c) (hT : T k = vp_nar .byte (Int32.toInt8 c).toInt32) : ∃ w', am_x 154 [.ref b, .int c] w = some (.inl (some (.ref b)), w') ∧ sB w' b va (k + 1) T ∧ chB w w' b va 0 0 := by
  obtain ⟨w1, a1, h1, e1⟩ := x113 h hk hc hT
  refine ⟨w1, ?_, h1, e1⟩
  simp only [bk154_0, bk154_5, bx154, sb_kf h, a1, Option.bind_some, bct_v, bct_t, otl_s, otl_n, List.cons_append, List.nil_append, List.getElem?_cons_zero, List.getElem?_cons_succ, ↓reduceIte]
theorem df1 : am_df 1 4 = [.null, .int 0, .int 0, .int 0] := rfl
theorem df0 : am_df 0 4 = [.null, .int 0, .int 0, .int 0] := rfl
theorem in3 : am_in 3 = .inl (fun _ => 0) := rfl
/-- a new one -/
theorem x111 (hb : cO w b 1 [.null, .int 0, .int 0, .int 0]) (hl : b < w.2.1) (T : Nat → Int32) : ∃ w', am_x 111 [.ref b] w = some (.inl none, w') ∧ sB w' b w.2.1 0 T ∧ w.2.1 < w'.2.1 ∧ chB w w' b w.2.1 1 16 := by
  have n1 : am_na w 3 (nI 16) = some (am_nw w (.inl (3, 16, am_in 3)) 16) := nac (by decide)
  have q0 : cO (am_nw w (.inl (3, 16, am_in 3)) 16) b 1 [.null, .int 0, .int 0, .int 0] := cO_of hb (nw_n (by omega))
  have p0 : am_pf (am_nw w (.inl (3, 16, am_in 3)) 16) b 1 0 (.ref w.2.1) = some (am_pt (am_nw w (.inl (3, 16, am_in 3)) 16) b (.inr (1, [.ref w.2.1, .int 0, .int 0, .int 0]))) := pfc q0 (by show 0 < 4; decide) (by decide)
  have q1 : cO (am_pt (am_nw w (.inl (3, 16, am_in 3)) 16) b (.inr (1, [.ref w.2.1, .int 0, .int 0, .int 0]))) b 1 [.ref w.2.1, .int 0, .int 0, .int 0] := pt_s
  have p1 : am_pf (am_pt (am_nw w (.inl (3, 16, am_in 3)) 16) b (.inr (1, [.ref w.2.1, .int 0, .int 0, .int 0]))) b 1 1 (.int (nI 0)) = some (am_pt (am_nw w (.inl (3, 16, am_in 3)) 16) b (.inr (1, [.ref w.2.1, .int (nI 0), .int (nI 0), .int (nI 0)]))) := by
    rw [pfc q1 (by show 1 < 4; decide) (by decide), pt_pt]
    rfl
  have r0 : (am_nw w (.inl (3, 16, am_in 3)) 16).1 w.2.1 = some (.inl (3, 16, .inl (fun _ => 0))) := nw_s
  refine ⟨am_pt (am_nw w (.inl (3, 16, am_in 3)) 16) b (.inr (1, [.ref w.2.1, .int (nI 0), .int (nI 0), .int (nI 0)])), ?_, ⟨pt_s, ⟨_, (pt_n (by omega)).trans r0, fun _ _ => ⟨byte_0, fun q => absurd q (Nat.not_lt_zero _)⟩⟩, by omega⟩, Nat.lt_succ_self _, ⟨fun c hc h1 h2 => (pt_n h1).trans (nw_n (by omega)), Nat.le_succ _, Nat.le_refl _, Nat.le_add_right _ _, Nat.le_refl _, rfl⟩⟩
  simp only [bx111, bk111_0, bx65, bk65_0, n10, bk65_10, n1, bk65_14, p0, bk65_17, p1, bk65_22, bk65_38, bk111_6, Option.bind_some, bct_v, bct_t, otl_s, otl_n, List.cons_append, List.nil_append, List.getElem?_cons_zero, List.getElem?_cons_succ, ↓reduceIte]
theorem x59 (h : sT w s v len F) : am_x 59 [.ref s] w = some (.inl (some (.int (nI 0))), w) := by
  simp only [bk59_0, bk59_13, bk59_6, bk59_10, bx59, n10, h.2.1, Option.bind_some, bct_v, bct_t, otl_s, otl_n, List.cons_append, List.nil_append, List.getElem?_cons_zero, List.getElem?_cons_succ, ↓reduceIte]
  exact bk59_14 rfl
theorem shr3 : ∀ j, j ≤ 16 → bj_ishr (nI j) (nI 0) = nI j ∧ bj_ishl (nI j) (nI 0) = nI j := by
  intro j hj
  have h : ∀ j : Fin 17, bj_ishr (nI j.val) (nI 0) = nI j.val ∧ bj_ishl (nI j.val) (nI 0) = nI j.val := by decide +kernel
  exact h ⟨j, by omega⟩
theorem sT_len (h : sT w s v len F) : am_len w v = some len := by
  obtain ⟨-, -, -, ⟨t, f, h4, h5, -⟩, -⟩ := h
  unfold am_len
  rw [h4]
  exact if_pos (by omega)
theorem x110 (h : sT w s v len F) : am_x 110 [.ref s] w = some (.inl (some (.int (nI len))), w) := by
  have hl := h.2.2.2.2
  simp only [bk110_0, bk110_4, bk110_5, bk110_9, bx110, h.1, sT_len h, h.2.2.1, x59 h, (shr3 len (by omega)).1, Option.bind_some, bct_v, bct_t, otl_s, otl_n, List.cons_append, List.nil_append, List.getElem?_cons_zero, List.getElem?_cons_succ, ↓reduceIte]
theorem x61 (h : sT w s v len F) : am_x 61 [.ref s] w = some (.inl (some (.int (nI 1))), w) := by
  simp only [bk61_0, bk61_17, bk61_6, bk61_10, bk61_13, bx61, n10, h.2.1, not_true_eq_false, Option.bind_some, bct_v, bct_t, otl_s, otl_n, List.cons_append, List.nil_append, List.getElem?_cons_zero, List.getElem?_cons_succ, ↓reduceIte]
  exact bk61_18 rfl
theorem x114 (h : sB w b va k T) (hs : sT w s v len F) : am_x 114 [.ref b, .ref s] w = some (.inl none, w) := by
  simp only [bk114_0, bk114_21, bk114_6, bk114_10, bk114_14, bx114, n10, gfc h.1, bO_1, hs.2.2.1, x59 hs, Option.bind_some, bct_v, bct_t, otl_s, otl_n, List.cons_append, List.nil_append, List.getElem?_cons_zero, List.getElem?_cons_succ, ↓reduceIte]
/-- a row of bytes copied into the one that is built -/
theorem cy_sb (h : sB w b va k T) {t len : Nat} {f : Nat → Int32} (hv : w.1 v = some (.inl (t, len, .inl f))) (ht : t % 8 = 3) (hf : ∀ j, j < len → am_ok .byte (.int (f j)) = true ∧ f j = T (k + j)) (hk : k + len ≤ 16) : ∃ w', am_cy w v (nI 0) va (nI k) (nI len) = some w' ∧ sBx w' b va k (k + len) T ∧ chB w w' b va 0 0 := by
  obtain ⟨h1, ⟨f2, h2, h3⟩, h4⟩ := h
  have z0 : (nI 0).toNatClampNeg = 0 := nI_clamp (by decide)
  have zk : (nI k).toNatClampNeg = k := nI_clamp (by omega)
  have zl : (nI len).toNatClampNeg = len := nI_clamp (by omega)
  have e : am_cy w v (nI 0) va (nI k) (nI len) = some (am_pt w va (.inl (3, 16, .inl (va_cpy f f2 0 k len)))) := by
    unfold am_cy
    rw [hv, show w.1 va = _ from h2]
    dsimp only
    rw [z0, zk, zl]
    refine if_pos ⟨⟨ht, rfl, nI_pos (by decide), nI_pos (by omega), nI_pos (by omega)⟩, ⟨by omega, by omega⟩, fun i hi => ?_⟩
    rw [Nat.zero_add]
    exact (hf i hi).1
  refine ⟨_, e, ⟨cO_of h1 (pt_n h4), ⟨_, pt_s, fun j hj => ?_⟩, h4⟩, chB_pv⟩
  unfold va_cpy
  by_cases e : k ≤ j ∧ j < k + len
  · rw [if_pos e, Nat.zero_add]
    have := hf (j - k) (by omega)
    exact ⟨this.1, fun _ => by rw [this.2, Nat.add_sub_cancel' e.1]⟩
  · rw [if_neg e]
    exact ⟨(h3 j hj).1, fun q => (h3 j hj).2 (by omega)⟩
theorem x109 (h : sB w b va k T) (hs : sT w s v len F) (hk : k + len ≤ 16) (hF : ∀ j, j < len → F j = T (k + j)) : ∃ w', am_x 109 [.ref s, .ref va, .int (nI k), .int (nI 0)] w = some (.inl none, w') ∧ sBx w' b va k (k + len) T ∧ chB w w' b va 0 0 := by
  have hl := sT_len hs
  have q := x59 hs
  obtain ⟨s1, s2, s3, ⟨t, f, s4, s5, s6⟩, s7⟩ := hs
  obtain ⟨w', a, h', e⟩ := cy_sb h s4 s5 (fun j hj => ⟨(s6 j hj).1, (s6 j hj).2.trans (hF j hj)⟩) hk
  refine ⟨w', ?_, h', e⟩
  simp only [bx109, bk109_0, s3, q, bk109_4, not_true_eq_false, bk109_8, s1, bk109_12, bk109_21, hl, bk109_22, (shr3 k (by omega)).2, a, bk109_25, bk109_43, Option.bind_some, bct_v, bct_t, otl_s, otl_n, List.cons_append, List.nil_append, List.getElem?_cons_zero, List.getElem?_cons_succ, ↓reduceIte]
theorem x155 (h : sB w b va k T) (hs : sT w s v len F) (hk : k + len ≤ 16) (hF : ∀ j, j < len → F j = T (k + j)) : ∃ w', am_x 155 [.ref b, .int (nI k), .ref s] w = some (.inl none, w') ∧ sBx w' b va k (k + len) T ∧ chB w w' b va 0 0 := by
  obtain ⟨w', a, h', e⟩ := x109 h hs hk hF
  refine ⟨w', ?_, h', e⟩
  simp only [bk155_0, bk155_5, bk155_10, bk155_15, bk155_18, bx155, sb_kf h, x114 h hs, gfc h.1, bO_0, bO_1, hs.2.2.1, a, Option.bind_some, bct_v, bct_t, otl_s, otl_n, List.cons_append, List.nil_append, List.getElem?_cons_zero, List.getElem?_cons_succ, ↓reduceIte]
theorem x198 (h : sB w b va k T) (hs : sT w s v len F) (hk : k + len ≤ 16) (hF : ∀ j, j < len → F j = T (k + j)) : ∃ w', am_x 198 [.ref b, .ref s] w = some (.inl (some (.ref b)), w') ∧ sB w' b va (k + len) T ∧ chB w w' b va 0 0 := by
  obtain ⟨w1, a, h', e⟩ := x155 h hs hk hF
  obtain ⟨h1, h2, h4⟩ := h'
  have p1 : am_pf w1 b 1 3 (.int (nI (k + len))) = some (am_pt w1 b (.inr (1, [.ref va, .int (nI 0), .int (nI 0), .int (nI (k + len))]))) := pfc h1 (by show 3 < 4; decide) (by decide)
  obtain ⟨f, h2, h3⟩ := h2
  refine ⟨_, ?_, ⟨pt_s, ⟨f, cI_of h2 (pt_n (Ne.symm h4)), h3⟩, h4⟩, chB_tr e chB_pb⟩
  simp only [bk198_0, bk198_13, bk198_19, bk198_24, bk198_29, bk198_33, bk198_38, bk198_43, bx198, hs.2.2.1, x110 hs, gfc h.1, bO_3, sb_kf h, nI_add, x63 h hk, a, gfc h1, p1, Option.bind_some, bct_v, bct_t, otl_s, otl_n, List.cons_append, List.nil_append, List.getElem?_cons_zero, List.getElem?_cons_succ, ↓reduceIte]
theorem x222 (h : sB w b va k T) (hs : sT w s v len F) (hk : k + len ≤ 16) (hF : ∀ j, j < len → F j = T (k + j)) : ∃ w', am_x 222 [.ref b, .ref s] w = some (.inl (some (.ref b)), w') ∧ sB w' b va (k + len) T ∧ chB w w' b va 0 0 := by
  obtain ⟨w1, a, h', e⟩ := x198 h hs hk hF
  refine ⟨w1, ?_, h', e⟩
  simp only [bk222_0, bk222_5, bx222, sb_kf h, a, Option.bind_some, bct_v, bct_t, otl_s, otl_n, List.cons_append, List.nil_append, List.getElem?_cons_zero, List.getElem?_cons_succ, ↓reduceIte]
end SB
