/-! WALKERS, the class's. Mine. -/
/-- home, pose, charge, lost, acts, bumps, slips, what it may be, its map -/
abbrev sW : Type := Nat × Nat × Nat × Int32 × Int32 × Int32 × Int32 × (Nat → Bool) × (Nat → Nat)
def oW (ho po ch m be : Nat) (lo ac bu sl : Int32) : List Value := [.int (nI ho), .ref m, .ref be, .int (nI po), .int (nI ch), .int lo, .int ac, .int bu, .int sl]
theorem oW_0 {ho po ch m be : Nat} {lo ac bu sl : Int32} : (oW ho po ch m be lo ac bu sl)[0]? = some (.int (nI ho)) := rfl
theorem oW_1 {ho po ch m be : Nat} {lo ac bu sl : Int32} : (oW ho po ch m be lo ac bu sl)[1]? = some (.ref m) := rfl
theorem oW_2 {ho po ch m be : Nat} {lo ac bu sl : Int32} : (oW ho po ch m be lo ac bu sl)[2]? = some (.ref be) := rfl
theorem oW_3 {ho po ch m be : Nat} {lo ac bu sl : Int32} : (oW ho po ch m be lo ac bu sl)[3]? = some (.int (nI po)) := rfl
theorem oW_4 {ho po ch m be : Nat} {lo ac bu sl : Int32} : (oW ho po ch m be lo ac bu sl)[4]? = some (.int (nI ch)) := rfl
theorem oW_5 {ho po ch m be : Nat} {lo ac bu sl : Int32} : (oW ho po ch m be lo ac bu sl)[5]? = some (.int lo) := rfl
theorem oW_6 {ho po ch m be : Nat} {lo ac bu sl : Int32} : (oW ho po ch m be lo ac bu sl)[6]? = some (.int ac) := rfl
theorem oW_7 {ho po ch m be : Nat} {lo ac bu sl : Int32} : (oW ho po ch m be lo ac bu sl)[7]? = some (.int bu) := rfl
theorem oW_8 {ho po ch m be : Nat} {lo ac bu sl : Int32} : (oW ho po ch m be lo ac bu sl)[8]? = some (.int sl) := rfl
def Wkv (w : am_Wd) (g : Nat → Nat) (i a : Nat) (x : sW) : Prop := match x with
  | (ho, po, ch, lo, ac, bu, sl, may, mp) => ∃ (m be fa wa ca : Nat) (F W N : Nat → Nat), cO w a 6 (oW ho po ch m be lo ac bu sl) ∧ Mv w m fa wa F W mp ∧ Bv w be ca N ∧ bmy N may ∧ g a = 10 + 10 * i ∧ g m = 11 + 10 * i ∧ g be = 12 + 10 * i ∧ g fa = 13 + 10 * i ∧ g wa = 14 + 10 * i ∧ g ca = 15 + 10 * i
/-- nothing is written but of tags from lo to below hi; nothing is made -/
def frm (g : Nat → Nat) (lo hi : Nat) (w w' : am_Wd) : Prop := (∀ b, g b < lo ∨ hi ≤ g b → w'.1 b = w.1 b) ∧ w'.2 = w.2
theorem frm_rf {g : Nat → Nat} {lo hi : Nat} {w : am_Wd} : frm g lo hi w w := ⟨fun _ _ => rfl, rfl⟩
theorem frm_tr {g : Nat → Nat} {lo hi : Nat} {w w' w'' : am_Wd} (h : frm g lo hi w w') (k : frm g lo hi w' w'') : frm g lo hi w w'' := ⟨fun b hb => (k.1 b hb).trans (h.1 b hb), k.2.trans h.2⟩
theorem frm_pt {g : Nat → Nat} {lo hi a : Nat} {w : am_Wd} {e : am_En} (h : lo ≤ g a) (k : g a < hi) : frm g lo hi w (am_pt w a e) := ⟨fun b hb => pt_n (fun q => by rw [q] at hb; omega), rfl⟩
theorem frm_two {g : Nat → Nat} {lo hi a b : Nat} {w : am_Wd} {e e' : am_En} (h : lo ≤ g a) (k : g a < hi) (h' : lo ≤ g b) (k' : g b < hi) : frm g lo hi w (two w a b e e') := frm_tr (frm_pt h k) (frm_pt h' k')
theorem frm_wk {g : Nat → Nat} {lo hi lo' hi' : Nat} {w w' : am_Wd} (h : frm g lo hi w w') (h1 : lo' ≤ lo) (h2 : hi ≤ hi') : frm g lo' hi' w w' := ⟨fun b hb => h.1 b (by omega), h.2⟩
theorem Wkv.of {w w' : am_Wd} {g : Nat → Nat} {i a : Nat} {x : sW} (h : Wkv w g i a x) (e : ∀ b, 10 + 10 * i ≤ g b → g b < 20 + 10 * i → w'.1 b = w.1 b) : Wkv w' g i a x := by
  obtain ⟨ho, po, ch, lo, ac, bu, sl, may, mp⟩ := x
  obtain ⟨m, be, fa, wa, ca, F, W, N, h1, h2, h3, h4, g1, g2, g3, g4, g5, g6⟩ := h
  exact ⟨m, be, fa, wa, ca, F, W, N, cO_of h1 (e a (by omega) (by omega)), h2.of (e m (by omega) (by omega)) (e fa (by omega) (by omega)) (e wa (by omega) (by omega)), h3.of (e be (by omega) (by omega)) (e ca (by omega) (by omega)), h4, g1, g2, g3, g4, g5, g6⟩
def mpo (mp : Nat → Nat) : Prop := ∀ k, mp k ≤ 2
theorem putM_ok {mp : Nat → Nat} (h : mpo mp) (c s : Nat) (b : Bool) : mpo (putM mp c s b) := by
  unfold putM
  split
  · exact h
  · intro k
    unfold up
    split
    · cases b <;> decide
    · exact h k
/-- the way home -/
def wayW (may : Nat → Bool) (mp : Nat → Nat) (ho : Nat) : Int32 := match sureP may with
  | none => -2
  | some p => no (wayS mp (p / 4) ho)
def goalW (may : Nat → Bool) (mp : Nat → Nat) : Int32 := match sureP may with
  | none => -2
  | some p => no (goalS mp (p / 4))
def costI (x : Int32) : Int32 := if nI 0 ≤ x then nI 2 * x + nI 2 else x
def safeB (ch : Nat) (x : Int32) : Bool := if nI 0 ≤ x then decide (¬ nI ch - nI 1 < x) else decide (¬ nI ch ≤ nI 20)
theorem sure_lt {may : Nat → Bool} {p : Nat} (h : sureP may = some p) : p < 144 ∧ may p = true := by
  unfold sureP at h
  split at h
  · obtain ⟨h1, h2, -⟩ := fst1_some h
    exact ⟨h1, h2⟩
  · cases h
def putF (may : Nat → Bool) (mp : Nat → Nat) (b : Bool) : Nat → Nat := match sureP may with
  | none => mp
  | some p => putM mp (p / 4) (p % 4) b
def putL (may : Nat → Bool) (mp : Nat → Nat) (t : Nat) : Nat → Nat := match sureP may with
  | none => mp
  | some p => putM (putM (putM mp (p / 4) ((p % 4 + 3 + 0) % 4) (t.testBit 0)) (p / 4) ((p % 4 + 3 + 1) % 4) (t.testBit 1)) (p / 4) ((p % 4 + 3 + 2) % 4) (t.testBit 2)
/-- all anew, if there is none -/
def anewM (may : Nat → Bool) : Nat → Bool := if cnt 144 may = 0 then fun _ => true else may
def anewL (lo : Int32) (may : Nat → Bool) : Int32 := if cnt 144 may = 0 then lo + nI 1 else lo
def mayF (may : Nat → Bool) (mp : Nat → Nat) (b : Bool) (q : Nat) : Bool := fwdP may mp b (q % 4) (q / 4)
def mayL (may : Nat → Bool) (mp : Nat → Nat) (t : Nat) (q : Nat) : Bool := feltP may mp t (q % 4) (q / 4)
section WLK
variable {w : am_Wd} {g : Nat → Nat} {i a ho po ch : Nat} {lo ac bu sl : Int32} {may : Nat → Bool} {mp : Nat → Nat}
theorem x17 {m be : Nat} (h : cO w a 6 (oW ho po ch m be lo ac bu sl)) (hp : po < 144) : am_x 17 [.ref a] w = some (.inl (some (.int (nI (po / 4)))), w) := by
  simp only [bk17_0, bk17_4, bx17, gfc h, oW_0, oW_1, oW_2, oW_3, oW_4, oW_5, oW_6, oW_7, oW_8, nI_divS (show po < 2147483648 by omega) (show 0 < 4 by decide) (show 4 < 2147483648 by decide), Option.bind_some, bct_v, bct_t, otl_s, otl_n, List.cons_append, List.nil_append, List.getElem?_cons_zero, List.getElem?_cons_succ, ↓reduceIte]
theorem x18 {m be : Nat} (h : cO w a 6 (oW ho po ch m be lo ac bu sl)) (hp : po < 144) : am_x 18 [.ref a] w = some (.inl (some (.int (nI (po % 4)))), w) := by
  simp only [bk18_0, bk18_4, bx18, gfc h, oW_0, oW_1, oW_2, oW_3, oW_4, oW_5, oW_6, oW_7, oW_8, nI_remS (show po < 2147483648 by omega) (show 0 < 4 by decide) (show 4 < 2147483648 by decide), Option.bind_some, bct_v, bct_t, otl_s, otl_n, List.cons_append, List.nil_append, List.getElem?_cons_zero, List.getElem?_cons_succ, ↓reduceIte]
theorem x19 {x : Int32} : am_x 19 [.int x] w = some (.inl (some (.int (costI x))), w) := by
  unfold costI
  rw [bx19, bk19_0]
  split
  · rw [bk19_8, bk19_13]
  · rw [bk19_4, bk19_13]
theorem x128 (h : Wkv w g i a (ho, po, ch, lo, ac, bu, sl, may, mp)) : am_x 128 [.ref a] w = some (.inl (some (.int (b2i (decide (cnt 144 may = 1))))), w) := by
  obtain ⟨m, be, fa, wa, ca, F, W, N, h1, h2, h3, h4, g1, g2, g3, g4, g5, g6⟩ := h
  have z := x72 h3 h4
  have hl := cnt_le may 144
  simp only [bx128, bk128_0, gfc h1, oW_0, oW_1, oW_2, oW_3, oW_4, oW_5, oW_6, oW_7, oW_8, bk128_4, kfc h3.1, z, bk128_7, nI_eqS (show cnt 144 may < 2147483648 by omega) (show 1 < 2147483648 by decide), Option.bind_some, bct_v, bct_t, otl_s, otl_n, List.cons_append, List.nil_append, List.getElem?_cons_zero, List.getElem?_cons_succ, ↓reduceIte]
  by_cases e : cnt 144 may = 1
  · rw [if_neg (fun q => q e), bk128_11, bk128_16 (by rfl), decide_eq_true e]; rfl
  · rw [if_pos e, bk128_15, bk128_16 (by rfl), decide_eq_false e]; rfl
theorem sure_no {may : Nat → Bool} : (no (sureP may) = (-1 : Int32)) = (sureP may = none) := by
  cases e : sureP may with
  | none => exact propext ⟨fun _ => rfl, fun _ => rfl⟩
  | some p =>
    have := (sure_lt e).1
    show (nI p = (-1 : Int32)) = _
    rw [nI_m1S (by omega)]
    exact propext ⟨False.elim, fun h => nomatch h⟩
theorem x162 (h : Wkv w g i a (ho, po, ch, lo, ac, bu, sl, may, mp)) (hh : ho < 36) : am_x 162 [.ref a] w = some (.inl (some (.int (wayW may mp ho))), w) := by
  obtain ⟨m, be, fa, wa, ca, F, W, N, h1, h2, h3, h4, g1, g2, g3, g4, g5, g6⟩ := h
  have z := x118 h3 h4
  simp only [bx162, bk162_0, gfc h1, oW_0, oW_1, oW_2, oW_3, oW_4, oW_5, oW_6, oW_7, oW_8, bk162_4, kfc h3.1, z, bk162_7, sure_no, Option.bind_some, bct_v, bct_t, otl_s, otl_n, List.cons_append, List.nil_append, List.getElem?_cons_zero, List.getElem?_cons_succ, ↓reduceIte]
  unfold wayW
  cases e : sureP may with
  | none =>
    rw [if_neg (fun q => q rfl), bk162_13, bk162_32]
  | some p =>
    have hp := (sure_lt e).1
    have k := x87 h2 (f := p / 4) (t := ho) (by omega) hh
    rw [if_pos (fun q => nomatch q)]
    simp only [no, bk162_18, gfc h1, oW_0, oW_1, oW_2, oW_3, oW_4, oW_5, oW_6, oW_7, oW_8, bk162_22, nI_divS (show p < 2147483648 by omega) (show 0 < 4 by decide) (show 4 < 2147483648 by decide), bk162_29, kfc h2.1, k, bk162_32, Option.bind_some, bct_v, bct_t, otl_s, otl_n, List.cons_append, List.nil_append, List.getElem?_cons_zero, List.getElem?_cons_succ, ↓reduceIte]
theorem x163 (h : Wkv w g i a (ho, po, ch, lo, ac, bu, sl, may, mp)) (hm : mpo mp) : am_x 163 [.ref a] w = some (.inl (some (.int (goalW may mp))), w) := by
  obtain ⟨m, be, fa, wa, ca, F, W, N, h1, h2, h3, h4, g1, g2, g3, g4, g5, g6⟩ := h
  have z := x118 h3 h4
  simp only [bx163, bk163_0, gfc h1, oW_0, oW_1, oW_2, oW_3, oW_4, oW_5, oW_6, oW_7, oW_8, bk163_4, kfc h3.1, z, bk163_7, sure_no, Option.bind_some, bct_v, bct_t, otl_s, otl_n, List.cons_append, List.nil_append, List.getElem?_cons_zero, List.getElem?_cons_succ, ↓reduceIte]
  unfold goalW
  cases e : sureP may with
  | none =>
    rw [if_neg (fun q => q rfl), bk163_13, bk163_28]
  | some p =>
    have hp := (sure_lt e).1
    have k := x132 h2 hm (f := p / 4) (by omega)
    rw [if_pos (fun q => nomatch q)]
    simp only [no, bk163_18, gfc h1, oW_0, oW_1, oW_2, oW_3, oW_4, oW_5, oW_6, oW_7, oW_8, bk163_22, nI_divS (show p < 2147483648 by omega) (show 0 < 4 by decide) (show 4 < 2147483648 by decide), kfc h2.1, k, bk163_28, Option.bind_some, bct_v, bct_t, otl_s, otl_n, List.cons_append, List.nil_append, List.getElem?_cons_zero, List.getElem?_cons_succ, ↓reduceIte]
theorem x199 (h : Wkv w g i a (ho, po, ch, lo, ac, bu, sl, may, mp)) (hh : ho < 36) : am_x 199 [.ref a] w = some (.inl (some (.int (b2i (safeB ch (costI (wayW may mp ho)))))), w) := by
  have z := x162 h hh
  obtain ⟨m, be, fa, wa, ca, F, W, N, h1, h2, h3, h4, g1, g2, g3, g4, g5, g6⟩ := h
  simp only [bx199, bk199_0, kfc h1, z, bk199_4, x19, bk199_7, Option.bind_some, bct_v, bct_t, otl_s, otl_n, List.cons_append, List.nil_append, List.getElem?_cons_zero, List.getElem?_cons_succ, ↓reduceIte]
  unfold safeB
  by_cases e : nI 0 ≤ costI (wayW may mp ho)
  · rw [if_pos e, if_pos e]
    simp only [bk199_29, gfc h1, oW_0, oW_1, oW_2, oW_3, oW_4, oW_5, oW_6, oW_7, oW_8, bk199_33, Option.bind_some, bct_v, bct_t, otl_s, otl_n, List.cons_append, List.nil_append, List.getElem?_cons_zero, List.getElem?_cons_succ, ↓reduceIte]
    by_cases q : nI ch - nI 1 < costI (wayW may mp ho)
    · rw [if_pos q, bk199_43, bk199_44 (by rfl), decide_eq_false (fun z => z q)]; rfl
    · rw [if_neg q, bk199_39, bk199_44 (by rfl), decide_eq_true q]; rfl
  · rw [if_neg e, if_neg e]
    simp only [bk199_12, gfc h1, oW_0, oW_1, oW_2, oW_3, oW_4, oW_5, oW_6, oW_7, oW_8, bk199_16, Option.bind_some, bct_v, bct_t, otl_s, otl_n, List.cons_append, List.nil_append, List.getElem?_cons_zero, List.getElem?_cons_succ, ↓reduceIte]
    by_cases q : nI ch ≤ nI 20
    · rw [if_pos q, bk199_25, bk199_44 (by rfl), decide_eq_false (fun z => z q)]; rfl
    · rw [if_neg q, bk199_21, bk199_44 (by rfl), decide_eq_true q]; rfl
def wrsF (may : Nat → Bool) (mp : Nat → Nat) : Nat := max (cnt 144 (mayF may mp true)) (cnt 144 (mayF may mp false))
def wrsL (may : Nat → Bool) (mp : Nat → Nat) : Nat → Nat
  | 0 => 0
  | t + 1 => max (wrsL may mp t) (cnt 144 (mayL may mp t))
def wrsW (may : Nat → Bool) (mp : Nat → Nat) (act : Nat) : Nat := if act = 0 then wrsF may mp else if act = 3 then wrsL may mp 8 else cnt 144 may
theorem wrsL_le (may : Nat → Bool) (mp : Nat → Nat) : ∀ t, wrsL may mp t ≤ 144
  | 0 => by show 0 ≤ 144; omega
  | t + 1 => Nat.max_le.mpr ⟨wrsL_le may mp t, cnt_le _ 144⟩
theorem wrsW_le (may : Nat → Bool) (mp : Nat → Nat) (act : Nat) : wrsW may mp act ≤ 144 := by
  unfold wrsW
  split
  · exact Nat.max_le.mpr ⟨cnt_le _ 144, cnt_le _ 144⟩
  · split
    · exact wrsL_le may mp 8
    · exact cnt_le _ 144
theorem x164 (h : Wkv w g i a (ho, po, ch, lo, ac, bu, sl, may, mp)) {act : Nat} (ha : act < 4) : am_x 164 [.ref a, .int (nI act)] w = some (.inl (some (.int (nI (wrsW may mp act)))), w) := by
  obtain ⟨m, be, fa, wa, ca, F, W, N, h1, h2, h3, h4, g1, g2, g3, g4, g5, g6⟩ := h
  unfold wrsW
  simp only [bx164, bk164_0, nI_eqS (show act < 2147483648 by omega) (show 0 < 2147483648 by decide), nI_eqS (show act < 2147483648 by omega) (show 3 < 2147483648 by decide)]
  by_cases e0 : act = 0
  · rw [if_pos e0, if_pos e0]
    have y1 : am_x 121 [.ref be, .int (nI 1), .ref m] w = _ := x121 h3 h4 h2 true
    have y0 : am_x 121 [.ref be, .int (nI 0), .ref m] w = _ := x121 h3 h4 h2 false
    have l1 := cnt_le (fun q => fwdP may mp true (q % 4) (q / 4)) 144
    have l0 := cnt_le (fun q => fwdP may mp false (q % 4) (q / 4)) 144
    simp only [bk164_28, bk164_56, bk164_91, bk164_32, bk164_95, bk164_37, bk164_89, bk164_66, bk164_98, bk164_40, bk164_71, bk164_44, bk164_76, bk164_49, bk164_79, bk164_52, bx164, gfc h1, oW_0, oW_1, oW_2, oW_3, oW_4, oW_5, oW_6, oW_7, oW_8, kfc h3.1, y0, y1, Option.bind_some, bct_v, bct_t, otl_s, otl_n, List.cons_append, List.nil_append, List.getElem?_cons_zero, List.getElem?_cons_succ, ↓reduceIte]
    rw [bj_maxS (by omega) (by omega)]
    rfl
  · rw [if_neg e0, if_neg e0]
    by_cases e3 : act = 3
    · rw [if_pos e3, if_pos e3, bk164_56]
      have go : ∀ t, t ≤ 8 → am_run 164 60 [some (.ref a), none, some (.int (nI 0)), some (.int (nI 0))] [] w = am_run 164 60 [some (.ref a), none, some (.int (nI (wrsL may mp t))), some (.int (nI t))] [] w := by
        intro t
        induction t with
        | zero => exact fun _ => rfl
        | succ t ih =>
          intro ht
          have y := x122 h3 h4 h2 (t := t) (by omega)
          have l1 := cnt_le (fun q => feltP may mp t (q % 4) (q / 4)) 144
          have l0 := wrsL_le may mp t
          rw [ih (by omega), bk164_60, if_neg (by rw [nI_leS (by omega) (by omega)]; omega)]
          simp only [bk164_66, gfc h1, oW_0, oW_1, oW_2, oW_3, oW_4, oW_5, oW_6, oW_7, oW_8, bk164_71, bk164_76, kfc h3.1, y, bk164_79, nI_add, Option.bind_some, bct_v, bct_t, otl_s, otl_n, List.cons_append, List.nil_append, List.getElem?_cons_zero, List.getElem?_cons_succ, ↓reduceIte]
          rw [bj_maxS (by omega) (by omega)]
          rfl
      rw [go 8 (Nat.le_refl 8), bk164_60, if_pos (by rw [nI_leS (by decide) (by decide)]; decide), bk164_89]
    · rw [if_neg e3, if_neg e3]
      have z := x72 h3 h4
      simp only [bk164_91, gfc h1, oW_0, oW_1, oW_2, oW_3, oW_4, oW_5, oW_6, oW_7, oW_8, bk164_95, kfc h3.1, z, bk164_98, Option.bind_some, bct_v, bct_t, otl_s, otl_n, List.cons_append, List.nil_append, List.getElem?_cons_zero, List.getElem?_cons_succ, ↓reduceIte]
theorem x130 (h : Wkv w g i a (ho, po, ch, lo, ac, bu, sl, may, mp)) (hp : po < 144) (hc : ch ≤ 500) (hz : 1 ≤ cnt 144 may) : am_x 130 [.ref a] w = some (.inl (some (.int (b2i (decide (¬ ac < bu + sl))))), w) := by
  obtain ⟨m, be, fa, wa, ca, F, W, N, h1, h2, h3, h4, g1, g2, g3, g4, g5, g6⟩ := h
  have z := x72 h3 h4
  have hl := cnt_le may 144
  simp only [bk130_0, bk130_4, bk130_7, bk130_74, bk130_13, bk130_20, bk130_24, bk130_27, bk130_31, bk130_37, bk130_41, bk130_44, bk130_48, bk130_54, bk130_58, bk130_62, bk130_66, bk130_70, bx130, gfc h1, oW_0, oW_1, oW_2, oW_3, oW_4, oW_5, oW_6, oW_7, oW_8, kfc h3.1, z, nI_ltS (show cnt 144 may < 2147483648 by omega) (show 1 < 2147483648 by decide), nI_ltS (show 144 < 2147483648 by decide) (show cnt 144 may < 2147483648 by omega), nI_ltS (show ch < 2147483648 by omega) (show 0 < 2147483648 by decide), nI_ltS (show 500 < 2147483648 by decide) (show ch < 2147483648 by omega), nI_ltS (show po < 2147483648 by omega) (show 0 < 2147483648 by decide), nI_leS (show 144 < 2147483648 by decide) (show po < 2147483648 by omega), Nat.not_lt_zero, if_neg (show ¬ cnt 144 may < 1 by omega), if_neg (show ¬ 144 < cnt 144 may by omega), if_neg (show ¬ 500 < ch by omega), if_neg (show ¬ 144 ≤ po by omega), Option.bind_some, bct_v, bct_t, otl_s, otl_n, List.cons_append, List.nil_append, List.getElem?_cons_zero, List.getElem?_cons_succ, ↓reduceIte]
  by_cases e : ac < bu + sl
  · rw [if_pos e, bk130_75 (by rfl), decide_eq_false (fun q => q e)]; rfl
  · rw [if_neg e, bk130_75 (by rfl), decide_eq_true e]; rfl
/-- a field of the walker written -/
theorem Wkv_fld {ho' po' ch' : Nat} {lo' ac' bu' sl' : Int32} {m be fa wa ca : Nat} {F W N : Nat → Nat} (h2 : Mv w m fa wa F W mp) (h3 : Bv w be ca N) (h4 : bmy N may) (g1 : g a = 10 + 10 * i) (g2 : g m = 11 + 10 * i) (g3 : g be = 12 + 10 * i) (g4 : g fa = 13 + 10 * i) (g5 : g wa = 14 + 10 * i) (g6 : g ca = 15 + 10 * i) :
    Wkv (am_pt w a (.inr (6, oW ho' po' ch' m be lo' ac' bu' sl'))) g i a (ho', po', ch', lo', ac', bu', sl', may, mp) ∧ frm g (10 + 10 * i) (20 + 10 * i) w (am_pt w a (.inr (6, oW ho' po' ch' m be lo' ac' bu' sl'))) := by
  have n : ∀ b, g b ≠ 10 + 10 * i → (am_pt w a (.inr (6, oW ho' po' ch' m be lo' ac' bu' sl'))).1 b = w.1 b := fun b hb => pt_n (fun q => hb (by rw [q, g1]))
  exact ⟨⟨m, be, fa, wa, ca, F, W, N, pt_s, h2.of (n m (by omega)) (n fa (by omega)) (n wa (by omega)), h3.of (n be (by omega)) (n ca (by omega)), h4, g1, g2, g3, g4, g5, g6⟩, frm_pt (by omega) (by omega)⟩
theorem no_hd {d : Nat} (h : d < 36) : ¬ no (some d) = (-1 : Int32) := by
  show ¬ nI d = -1
  rw [nI_m1S (by omega)]
  exact id
def stepW (po : Nat) : Nat := match nb (po / 4) (po % 4) with
  | none => po
  | some d => d * 4 + po % 4
theorem x78 (h : Wkv w g i a (ho, po, ch, lo, ac, bu, sl, may, mp)) (hp : po < 144) : ∃ w', am_x 78 [.ref a] w = some (.inl none, w') ∧ Wkv w' g i a (ho, stepW po, ch, lo, ac, bu, sl, may, mp) ∧ frm g (10 + 10 * i) (20 + 10 * i) w w' := by
  have h0 := h
  obtain ⟨m, be, fa, wa, ca, F, W, N, h1, h2, h3, h4, g1, g2, g3, g4, g5, g6⟩ := h
  have y1 := x17 h1 hp
  have y2 := x18 h1 hp
  simp only [bx78, bk78_0, kfc h1, y1, bk78_4, y2, bk78_8, ahd (show po / 4 < 36 by omega) (show po % 4 < 4 by omega), bk78_11, Option.bind_some, bct_v, bct_t, otl_s, otl_n, List.cons_append, List.nil_append, List.getElem?_cons_zero, List.getElem?_cons_succ, ↓reduceIte]
  unfold stepW
  cases e : nb (po / 4) (po % 4) with
  | none =>
    refine ⟨w, ?_, h0, frm_rf⟩
    rw [if_pos (show no none = (-1 : Int32) from rfl), bk78_29]
  | some d =>
    have hd := nb_lt (show po / 4 < 36 by omega) (show po % 4 < 4 by omega) e
    have pf : am_pf w a 6 3 (.int (nI (d * 4 + po % 4))) = some (am_pt w a (.inr (6, oW ho (d * 4 + po % 4) ch m be lo ac bu sl))) := pfc h1 (by show 3 < 9; decide) (by decide)
    have k := Wkv_fld (w := w) (ho' := ho) (po' := d * 4 + po % 4) (ch' := ch) (lo' := lo) (ac' := ac) (bu' := bu) (sl' := sl) h2 h3 h4 g1 g2 g3 g4 g5 g6
    refine ⟨_, ?_, k.1, k.2⟩
    rw [if_neg (no_hd hd)]
    simp only [no, bk78_17, kfc h1, y2, nI_mulS, bk78_25, nI_add, pf, bk78_29, Option.bind_some, bct_v, bct_t, otl_s, otl_n, List.cons_append, List.nil_append, List.getElem?_cons_zero, List.getElem?_cons_succ, ↓reduceIte]
/-- the belief written -/
theorem Wkv_bel {m be fa wa ca : Nat} {F W N M : Nat → Nat} {may' : Nat → Bool} (h1 : cO w a 6 (oW ho po ch m be lo ac bu sl)) (h2 : Mv w m fa wa F W mp) (h3 : Bv w be ca N) (h4 : bmy M may') (g1 : g a = 10 + 10 * i) (g2 : g m = 11 + 10 * i) (g3 : g be = 12 + 10 * i) (g4 : g fa = 13 + 10 * i) (g5 : g wa = 14 + 10 * i) (g6 : g ca = 15 + 10 * i) :
    Wkv (am_pt w ca (arL M)) g i a (ho, po, ch, lo, ac, bu, sl, may', mp) ∧ frm g (10 + 10 * i) (20 + 10 * i) w (am_pt w ca (arL M)) := by
  have n : ∀ b, g b ≠ 15 + 10 * i → (am_pt w ca (arL M)).1 b = w.1 b := fun b hb => pt_n (fun q => hb (by rw [q, g6]))
  exact ⟨⟨m, be, fa, wa, ca, F, W, M, cO_of h1 (n a (by omega)), h2.of (n m (by omega)) (n fa (by omega)) (n wa (by omega)), ⟨cO_of h3.1 (n be (by omega)), pt_s⟩, h4, g1, g2, g3, g4, g5, g6⟩, frm_pt (by omega) (by omega)⟩
def turnW (po : Nat) (b : Bool) : Nat := po / 4 * 4 + (po % 4 + (if b = true then 1 else 3)) % 4
theorem x79 (h : Wkv w g i a (ho, po, ch, lo, ac, bu, sl, may, mp)) (hp : po < 144) (b : Bool) : ∃ w', am_x 79 [.ref a, .int (b2i b)] w = some (.inl none, w') ∧ Wkv w' g i a (ho, turnW po b, ch, lo, ac, bu, sl, rotP may (if b = true then 3 else 1), mp) ∧ frm g (10 + 10 * i) (20 + 10 * i) w w' := by
  obtain ⟨m, be, fa, wa, ca, F, W, N, h1, h2, h3, h4, g1, g2, g3, g4, g5, g6⟩ := h
  have y1 := x17 h1 hp
  have y2 := x18 h1 hp
  have pf : ∀ z, am_pf w a 6 3 (.int (nI z)) = some (am_pt w a (.inr (6, oW ho z ch m be lo ac bu sl))) := fun z => pfc h1 (by show 3 < 9; decide) (by decide)
  obtain ⟨k1, k2⟩ := Wkv_fld (w := w) (ho' := ho) (po' := turnW po b) (ch' := ch) (lo' := lo) (ac' := ac) (bu' := bu) (sl' := sl) h2 h3 h4 g1 g2 g3 g4 g5 g6
  generalize hw : am_pt w a (.inr (6, oW ho (turnW po b) ch m be lo ac bu sl)) = w1 at k1 k2
  have q1 : cO w1 a 6 (oW ho (turnW po b) ch m be lo ac bu sl) := by rw [← hw]; exact pt_s
  have n : ∀ b', g b' ≠ 10 + 10 * i → w1.1 b' = w.1 b' := fun b' hb => by rw [← hw]; exact pt_n (fun q => hb (by rw [q, g1]))
  have q2 := h2.of (n m (by omega)) (n fa (by omega)) (n wa (by omega))
  have q3 := h3.of (n be (by omega)) (n ca (by omega))
  have ne : be ≠ ca := g_ne g3 g6 (by omega)
  cases b with
  | true =>
    obtain ⟨M, m1, m2⟩ := x4 q3 h4 ne
    obtain ⟨r1, r2⟩ := Wkv_bel q1 q2 q3 m1 g1 g2 g3 g4 g5 g6
    refine ⟨_, ?_, r1, frm_tr k2 r2⟩
    have e : nI (po / 4) * nI 4 + (nI (po % 4) + nI 1 &&& nI 3) = nI (turnW po true) := by rw [nI_add, nI_and3 (by omega), nI_mulS, nI_add]; rfl
    simp only [bk79_0, bk79_4, bk79_12, bk79_8, bk79_13, bk79_22, bk79_29, bk79_43, bk79_33, bk79_47, bk79_37, bk79_50, bk79_40, bx79, kfc h1, y1, y2, b2i_0, reduceCtorEq, e, pf, hw, gfc q1, oW_0, oW_1, oW_2, oW_3, oW_4, oW_5, oW_6, oW_7, oW_8, kfc q3.1, m2, Option.bind_some, bct_v, bct_t, otl_s, otl_n, List.cons_append, List.nil_append, List.getElem?_cons_zero, List.getElem?_cons_succ, ↓reduceIte]
  | false =>
    obtain ⟨M, m1, m2⟩ := x5 q3 h4 ne
    obtain ⟨r1, r2⟩ := Wkv_bel q1 q2 q3 m1 g1 g2 g3 g4 g5 g6
    refine ⟨_, ?_, r1, frm_tr k2 r2⟩
    have e : nI (po / 4) * nI 4 + (nI (po % 4) + nI 3 &&& nI 3) = nI (turnW po false) := by rw [nI_add, nI_and3 (by omega), nI_mulS, nI_add]; rfl
    simp only [bk79_0, bk79_4, bk79_12, bk79_8, bk79_13, bk79_22, bk79_29, bk79_43, bk79_33, bk79_47, bk79_37, bk79_50, bk79_40, bx79, kfc h1, y1, y2, b2i_0, e, pf, hw, gfc q1, oW_0, oW_1, oW_2, oW_3, oW_4, oW_5, oW_6, oW_7, oW_8, kfc q3.1, m2, Option.bind_some, bct_v, bct_t, otl_s, otl_n, List.cons_append, List.nil_append, List.getElem?_cons_zero, List.getElem?_cons_succ, ↓reduceIte]
theorem x129 (h : Wkv w g i a (ho, po, ch, lo, ac, bu, sl, may, mp)) : ∃ w', am_x 129 [.ref a] w = some (.inl none, w') ∧ Wkv w' g i a (ho, po, ch, anewL lo may, ac, bu, sl, anewM may, mp) ∧ frm g (10 + 10 * i) (20 + 10 * i) w w' := by
  have h0 := h
  obtain ⟨m, be, fa, wa, ca, F, W, N, h1, h2, h3, h4, g1, g2, g3, g4, g5, g6⟩ := h
  have z := x72 h3 h4
  have hl := cnt_le may 144
  unfold anewL anewM
  simp only [bx129, bk129_0, gfc h1, oW_0, oW_1, oW_2, oW_3, oW_4, oW_5, oW_6, oW_7, oW_8, bk129_4, kfc h3.1, z, bk129_7, nI_eqS (show cnt 144 may < 2147483648 by omega) (show 0 < 2147483648 by decide), Option.bind_some, bct_v, bct_t, otl_s, otl_n, List.cons_append, List.nil_append, List.getElem?_cons_zero, List.getElem?_cons_succ, ↓reduceIte]
  by_cases e : cnt 144 may = 0
  · obtain ⟨M, m1, m2⟩ := x1 h3 (g_ne g3 g6 (by omega))
    obtain ⟨r1, r2⟩ := Wkv_bel h1 h2 h3 m1 g1 g2 g3 g4 g5 g6
    obtain ⟨m', be', fa', wa', ca', F', W', N', h1', h2', h3', h4', g1', g2', g3', g4', g5', g6'⟩ := r1
    have pf : am_pf (am_pt w ca (arL M)) a 6 5 (.int (lo + nI 1)) = some (am_pt (am_pt w ca (arL M)) a (.inr (6, oW ho po ch m' be' (lo + nI 1) ac bu sl))) := pfc h1' (by show 5 < 9; decide) (by decide)
    have k := Wkv_fld (w := am_pt w ca (arL M)) (ho' := ho) (po' := po) (ch' := ch) (lo' := lo + nI 1) (ac' := ac) (bu' := bu) (sl' := sl) h2' h3' h4' g1' g2' g3' g4' g5' g6'
    rw [if_pos e, if_pos e]
    refine ⟨_, ?_, k.1, frm_tr r2 k.2⟩
    rw [if_neg (fun q => q e)]
    simp only [bk129_10, gfc h1, oW_0, oW_1, oW_2, oW_3, oW_4, oW_5, oW_6, oW_7, oW_8, bk129_14, kfc h3.1, m2, bk129_17, gfc h1', bk129_22, pf, bk129_27, Option.bind_some, bct_v, bct_t, otl_s, otl_n, List.cons_append, List.nil_append, List.getElem?_cons_zero, List.getElem?_cons_succ, ↓reduceIte]
  · rw [if_neg e, if_neg e]
    refine ⟨w, ?_, h0, frm_rf⟩
    rw [if_pos e, bk129_27]
/-- the map written -/
theorem Wkv_map {m be fa wa ca : Nat} {N F' W' : Nat → Nat} {mp' : Nat → Nat} (h1 : cO w a 6 (oW ho po ch m be lo ac bu sl)) (h2 : Mv (two w fa wa (arL F') (arL W')) m fa wa F' W' mp') (h3 : Bv w be ca N) (h4 : bmy N may) (g1 : g a = 10 + 10 * i) (g2 : g m = 11 + 10 * i) (g3 : g be = 12 + 10 * i) (g4 : g fa = 13 + 10 * i) (g5 : g wa = 14 + 10 * i) (g6 : g ca = 15 + 10 * i) :
    Wkv (two w fa wa (arL F') (arL W')) g i a (ho, po, ch, lo, ac, bu, sl, may, mp') ∧ frm g (10 + 10 * i) (20 + 10 * i) w (two w fa wa (arL F') (arL W')) := by
  have n : ∀ b, g b ≠ 13 + 10 * i → g b ≠ 14 + 10 * i → (two w fa wa (arL F') (arL W')).1 b = w.1 b := fun b hb hb' => two_n (fun q => hb (by rw [q, g4])) (fun q => hb' (by rw [q, g5]))
  exact ⟨⟨m, be, fa, wa, ca, F', W', N, cO_of h1 (n a (by omega) (by omega)), h2, h3.of (n be (by omega) (by omega)) (n ca (by omega) (by omega)), h4, g1, g2, g3, g4, g5, g6⟩, frm_two (by omega) (by omega) (by omega) (by omega)⟩
theorem x160 (h : Wkv w g i a (ho, po, ch, lo, ac, bu, sl, may, mp)) (b : Bool) : ∃ w', am_x 160 [.ref a, .int (b2i b)] w = some (.inl none, w') ∧ Wkv w' g i a (ho, po, ch, anewL lo (mayF may (putF may mp b) b), ac, bu, sl, anewM (mayF may (putF may mp b) b), putF may mp b) ∧ frm g (10 + 10 * i) (20 + 10 * i) w w' := by
  -- ahead of the belief
  have st : ∃ w1, am_x 160 [.ref a, .int (b2i b)] w = am_run 160 27 [some (.ref a), some (.int (b2i b)), none] [] w1 ∧ Wkv w1 g i a (ho, po, ch, lo, ac, bu, sl, may, putF may mp b) ∧ frm g (10 + 10 * i) (20 + 10 * i) w w1 := by
    have h0 := h
    obtain ⟨m, be, fa, wa, ca, F, W, N, h1, h2, h3, h4, g1, g2, g3, g4, g5, g6⟩ := h
    have z := x118 h3 h4
    simp only [bx160, bk160_0, gfc h1, oW_0, oW_1, oW_2, oW_3, oW_4, oW_5, oW_6, oW_7, oW_8, bk160_4, kfc h3.1, z, bk160_7, sure_no, Option.bind_some, bct_v, bct_t, otl_s, otl_n, List.cons_append, List.nil_append, List.getElem?_cons_zero, List.getElem?_cons_succ, ↓reduceIte]
    unfold putF
    cases e : sureP may with
    | none =>
      refine ⟨w, ?_, h0, frm_rf⟩
      rw [if_pos rfl]
    | some p =>
      have hp := (sure_lt e).1
      obtain ⟨F', W', k1, k2⟩ := x82 h2 (c := p / 4) (s := p % 4) (by omega) (by omega) b (g_ne g2 g4 (by omega)) (g_ne g5 g4 (by omega)) (g_ne g2 g5 (by omega))
      obtain ⟨r1, r2⟩ := Wkv_map h1 k2 h3 h4 g1 g2 g3 g4 g5 g6
      refine ⟨_, ?_, r1, r2⟩
      rw [if_neg (fun q => nomatch q)]
      simp only [no, bk160_13, gfc h1, oW_0, oW_1, oW_2, oW_3, oW_4, oW_5, oW_6, oW_7, oW_8, bk160_17, kfc h2.1, nI_divS (show p < 2147483648 by omega) (show 0 < 4 by decide) (show 4 < 2147483648 by decide), nI_remS (show p < 2147483648 by omega) (show 0 < 4 by decide) (show 4 < 2147483648 by decide), k1, Option.bind_some, bct_v, bct_t, otl_s, otl_n, List.cons_append, List.nil_append, List.getElem?_cons_zero, List.getElem?_cons_succ, ↓reduceIte]
      rfl
  obtain ⟨w1, e1, h5, f1⟩ := st
  obtain ⟨m, be, fa, wa, ca, F, W, N, h1, h2, h3, h4, g1, g2, g3, g4, g5, g6⟩ := h5
  obtain ⟨M, m1, m2⟩ := x119 h3 h4 h2 b (g_ne g3 g6 (by omega)) (g_ne g2 g6 (by omega)) (g_ne g4 g6 (by omega)) (g_ne g5 g6 (by omega))
  have m3 : bmy M (mayF may (putF may mp b) b) := fun s hs => bm_cg (m1 s hs) fun c _ => by
    show fwdP may (putF may mp b) b s c = fwdP may (putF may mp b) b ((4 * c + s) % 4) ((4 * c + s) / 4)
    rw [show (4 * c + s) % 4 = s by omega, show (4 * c + s) / 4 = c by omega]
  obtain ⟨r1, r2⟩ := Wkv_bel h1 h2 h3 m3 g1 g2 g3 g4 g5 g6
  obtain ⟨w3, e3, s1, s2⟩ := x129 r1
  obtain ⟨m', be', fa', wa', ca', F', W', N', h1', -⟩ := r1
  refine ⟨w3, ?_, s1, frm_tr f1 (frm_tr r2 s2)⟩
  rw [e1]
  simp only [bk160_27, gfc h1, oW_0, oW_1, oW_2, oW_3, oW_4, oW_5, oW_6, oW_7, oW_8, bk160_31, bk160_36, kfc h3.1, m2, bk160_39, kfc h1', e3, bk160_43, Option.bind_some, bct_v, bct_t, otl_s, otl_n, List.cons_append, List.nil_append, List.getElem?_cons_zero, List.getElem?_cons_succ, ↓reduceIte]
theorem it161 (h : Wkv w g i a (ho, po, ch, lo, ac, bu, sl, may, mp)) {t p k : Nat} (ht : t < 8) (hp : p < 144) (hk : k < 3) : ∃ w', am_run 161 15 [some (.ref a), some (.int (nI t)), some (.int (nI p)), some (.int (nI k))] [] w = am_run 161 15 [some (.ref a), some (.int (nI t)), some (.int (nI p)), some (.int (nI (k + 1)))] [] w' ∧ Wkv w' g i a (ho, po, ch, lo, ac, bu, sl, may, putM mp (p / 4) ((p % 4 + 3 + k) % 4) (t.testBit k)) ∧ frm g (10 + 10 * i) (20 + 10 * i) w w' := by
  obtain ⟨m, be, fa, wa, ca, F, W, N, h1, h2, h3, h4, g1, g2, g3, g4, g5, g6⟩ := h
  obtain ⟨F', W', k1, k2⟩ := x82 h2 (c := p / 4) (s := (p % 4 + 3 + k) % 4) (by omega) (by omega) (t.testBit k) (g_ne g2 g4 (by omega)) (g_ne g5 g4 (by omega)) (g_ne g2 g5 (by omega))
  obtain ⟨r1, r2⟩ := Wkv_map h1 k2 h3 h4 g1 g2 g3 g4 g5 g6
  refine ⟨_, ?_, r1, r2⟩
  rw [bk161_15, if_neg (by rw [nI_leS (by omega) (by omega)]; omega)]
  cases e : t.testBit k with
  | true =>
    rw [e] at k1
    simp only [bk161_60, bk161_65, bk161_20, bk161_68, bk161_24, bk161_72, bk161_34, bk161_46, bk161_42, bk161_47, bk161_50, bx161, gfc h1, oW_0, oW_1, oW_2, oW_3, oW_4, oW_5, oW_6, oW_7, oW_8, nI_divS (show p < 2147483648 by omega) (show 0 < 4 by decide) (show 4 < 2147483648 by decide), nI_remS (show p < 2147483648 by omega) (show 0 < 4 by decide) (show 4 < 2147483648 by decide), fsd (show p % 4 < 4 by omega) hk, told_bit ht hk, e, reduceCtorEq, kfc h2.1, show am_x 82 [.ref m, .int (nI (p / 4)), .int (nI ((p % 4 + 3 + k) % 4)), .int (nI 1)] w = _ from k1, nI_add, Option.bind_some, bct_v, bct_t, otl_s, otl_n, List.cons_append, List.nil_append, List.getElem?_cons_zero, List.getElem?_cons_succ, ↓reduceIte]
    rfl
  | false =>
    rw [e] at k1
    simp only [bk161_60, bk161_65, bk161_20, bk161_68, bk161_24, bk161_72, bk161_34, bk161_46, bk161_42, bk161_47, bk161_50, bx161, gfc h1, oW_0, oW_1, oW_2, oW_3, oW_4, oW_5, oW_6, oW_7, oW_8, nI_divS (show p < 2147483648 by omega) (show 0 < 4 by decide) (show 4 < 2147483648 by decide), nI_remS (show p < 2147483648 by omega) (show 0 < 4 by decide) (show 4 < 2147483648 by decide), fsd (show p % 4 < 4 by omega) hk, told_bit ht hk, e, kfc h2.1, show am_x 82 [.ref m, .int (nI (p / 4)), .int (nI ((p % 4 + 3 + k) % 4)), .int (nI 0)] w = _ from k1, nI_add, Option.bind_some, bct_v, bct_t, otl_s, otl_n, List.cons_append, List.nil_append, List.getElem?_cons_zero, List.getElem?_cons_succ, ↓reduceIte]
    rfl
theorem x161 (h : Wkv w g i a (ho, po, ch, lo, ac, bu, sl, may, mp)) {t : Nat} (ht : t < 8) : ∃ w', am_x 161 [.ref a, .int (nI t)] w = some (.inl none, w') ∧ Wkv w' g i a (ho, po, ch, anewL lo (mayL may (putL may mp t) t), ac, bu, sl, anewM (mayL may (putL may mp t) t), putL may mp t) ∧ frm g (10 + 10 * i) (20 + 10 * i) w w' := by
  have st : ∃ w1, am_x 161 [.ref a, .int (nI t)] w = am_run 161 56 [some (.ref a), some (.int (nI t)), none, none] [] w1 ∧ Wkv w1 g i a (ho, po, ch, lo, ac, bu, sl, may, putL may mp t) ∧ frm g (10 + 10 * i) (20 + 10 * i) w w1 := by
    have h0 := h
    obtain ⟨m, be, fa, wa, ca, F, W, N, h1, h2, h3, h4, g1, g2, g3, g4, g5, g6⟩ := h
    have z := x118 h3 h4
    simp only [bx161, bk161_0, gfc h1, oW_0, oW_1, oW_2, oW_3, oW_4, oW_5, oW_6, oW_7, oW_8, bk161_4, kfc h3.1, z, bk161_7, sure_no, Option.bind_some, bct_v, bct_t, otl_s, otl_n, List.cons_append, List.nil_append, List.getElem?_cons_zero, List.getElem?_cons_succ, ↓reduceIte]
    unfold putL
    cases e : sureP may with
    | none =>
      refine ⟨w, ?_, h0, frm_rf⟩
      rw [if_pos rfl]
    | some p =>
      have hp := (sure_lt e).1
      obtain ⟨w1, a1, b1, c1⟩ := it161 h0 ht hp (k := 0) (by decide)
      obtain ⟨w2, a2, b2, c2⟩ := it161 b1 ht hp (k := 1) (by decide)
      obtain ⟨w3, a3, b3, c3⟩ := it161 b2 ht hp (k := 2) (by decide)
      refine ⟨w3, ?_, b3, frm_tr c1 (frm_tr c2 c3)⟩
      rw [if_neg (fun q => nomatch q)]
      show am_run 161 13 [some (.ref a), some (.int (nI t)), some (.int (nI p)), none] [] w = _
      rw [bk161_13, a1, a2, a3, bk161_15, if_pos (by rw [nI_leS (by decide) (by decide)]; decide)]
  obtain ⟨w1, e1, h5, f1⟩ := st
  obtain ⟨m, be, fa, wa, ca, F, W, N, h1, h2, h3, h4, g1, g2, g3, g4, g5, g6⟩ := h5
  obtain ⟨M, m1, m2⟩ := x120 h3 h4 h2 ht (g_ne g3 g6 (by omega)) (g_ne g2 g6 (by omega)) (g_ne g4 g6 (by omega)) (g_ne g5 g6 (by omega))
  have m3 : bmy M (mayL may (putL may mp t) t) := fun s hs => bm_cg (m1 s hs) fun c _ => by
    show feltP may (putL may mp t) t s c = feltP may (putL may mp t) t ((4 * c + s) % 4) ((4 * c + s) / 4)
    rw [show (4 * c + s) % 4 = s by omega, show (4 * c + s) / 4 = c by omega]
  obtain ⟨r1, r2⟩ := Wkv_bel h1 h2 h3 m3 g1 g2 g3 g4 g5 g6
  obtain ⟨w3, e3, s1, s2⟩ := x129 r1
  obtain ⟨m', be', fa', wa', ca', F', W', N', h1', -⟩ := r1
  refine ⟨w3, ?_, s1, frm_tr f1 (frm_tr r2 s2)⟩
  rw [e1]
  simp only [bk161_56, bk161_60, bk161_65, bk161_20, bk161_68, bk161_24, bk161_72, bk161_34, bk161_46, bk161_42, bk161_47, bk161_50, bx161, gfc h1, oW_0, oW_1, oW_2, oW_3, oW_4, oW_5, oW_6, oW_7, oW_8, kfc h3.1, m2, kfc h1', e3, Option.bind_some, bct_v, bct_t, otl_s, otl_n, List.cons_append, List.nil_append, List.getElem?_cons_zero, List.getElem?_cons_succ, ↓reduceIte]
end WLK
