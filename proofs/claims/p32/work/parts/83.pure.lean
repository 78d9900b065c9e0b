/-! OF BOTH SIDES what is pure: the program as it is told, its sums. Mine. -/
/-- a world grown: nothing old is changed; at most k cells of s slots more -/
def ext (w w' : am_Wd) (k s : Nat) : Prop := (∀ b, b < w.2.1 → w'.1 b = w.1 b) ∧ w.2.1 ≤ w'.2.1 ∧ w'.2.1 ≤ w.2.1 + k ∧ w.2.2.1 ≤ w'.2.2.1 ∧ w'.2.2.1 ≤ w.2.2.1 + s ∧ w'.2.2.2 = w.2.2.2
theorem ext_nw {w : am_Wd} {e : am_En} {n : Nat} : ext w (am_nw w e n) 1 n := ⟨fun b hb => nw_n (by omega), Nat.le_succ _, Nat.le_refl _, Nat.le_add_right _ _, Nat.le_refl _, rfl⟩
section MOD
variable {w w' : am_Wd} {g : Nat → Nat} {m kq hq ca ba wl ed : Nat} {wad : Nat → Nat} {kd hr : Nat → Nat} {cp br : Nat → Bool} {n : Nat} {ws : Nat → sW} {th mi nd : Nat} {dr me di re : Int32}
theorem gJ_ext (hJ : gJ w g) {k s : Nat} (h : ext w w' k s) : gJ w' g := fun b hb => hJ b (Nat.le_trans h.2.1 hb)
theorem lt_J (hJ : gJ w g) {b k : Nat} (h : g b = k) (hk : k ≠ 0) : b < w.2.1 := by
  rcases Nat.lt_or_ge b w.2.1 with q | q
  · exact q
  · exact absurd (hJ b q) (by omega)
end MOD
theorem cnt_ff : ∀ n, cnt n (fun _ => false) = 0
  | 0 => rfl
  | n + 1 => by
    show cnt n (fun _ => false) + (if false = true then 1 else 0) = 0
    rw [cnt_ff n]
    rfl
/-- no way is longer than 35 -/
theorem cnt_le2 {p q : Nat → Bool} : ∀ n, (∀ c, c < n → p c = true → q c = true) → cnt n p ≤ cnt n q ∧ ((∃ c, c < n ∧ q c = true ∧ p c = false) → cnt n p + 1 ≤ cnt n q)
  | 0, _ => ⟨Nat.le_refl 0, fun ⟨c, h, _⟩ => absurd h (by omega)⟩
  | n + 1, h => by
    obtain ⟨h1, h2⟩ := cnt_le2 n (fun c hc => h c (by omega))
    have hn := h n (by omega)
    show cnt n p + (if p n = true then 1 else 0) ≤ cnt n q + (if q n = true then 1 else 0) ∧ (_ → cnt n p + (if p n = true then 1 else 0) + 1 ≤ cnt n q + (if q n = true then 1 else 0))
    refine ⟨?_, fun ⟨c, c1, c2, c3⟩ => ?_⟩
    · by_cases e : p n = true
      · rw [if_pos e, if_pos (hn e)]; omega
      · rw [if_neg e]; omega
    · by_cases e : c = n
      · subst e
        rw [if_pos c2, if_neg (by rw [c3]; decide)]
        omega
      · have := h2 ⟨c, by omega, c2, c3⟩
        by_cases e : p n = true
        · rw [if_pos e, if_pos (hn e)]; omega
        · rw [if_neg e]; omega
def wiP (k : Nat) : Bool := (nb (k / 2) (k % 2 + 1)).isSome
def mpz (mp : Nat → Nat) : Prop := ∀ k, k < 72 → wiP k = false → mp k = 0
theorem cnt_2 (p : Nat → Bool) : ∀ n, cnt (2 * n) p = cnt n (fun c => p (2 * c)) + cnt n (fun c => p (2 * c + 1))
  | 0 => rfl
  | n + 1 => by
    have ih := cnt_2 p n
    have e : cnt (2 * (n + 1)) p = cnt (2 * n) p + (if p (2 * n) = true then 1 else 0) + (if p (2 * n + 1) = true then 1 else 0) := rfl
    rw [e, ih]
    simp only [cnt]
    omega
theorem wi_0 {c : Nat} : wiP (2 * c) = (nb c 1).isSome := by
  unfold wiP
  rw [show 2 * c / 2 = c by omega, show 2 * c % 2 = 0 by omega]
theorem wi_1 {c : Nat} : wiP (2 * c + 1) = (nb c 2).isSome := by
  unfold wiP
  rw [show (2 * c + 1) / 2 = c by omega, show (2 * c + 1) % 2 = 1 by omega]
theorem kno_1 {mp : Nat → Nat} {c : Nat} : kno mp c 1 = if wiP (2 * c) = true then mp (2 * c) else 2 := by
  rw [wi_0]
  unfold kno plc
  cases nb c 1 with
  | none => rfl
  | some d => rfl
theorem kno_2 {mp : Nat → Nat} {c : Nat} : kno mp c 2 = if wiP (2 * c + 1) = true then mp (2 * c + 1) else 2 := by
  rw [wi_1]
  unfold kno plc
  cases nb c 2 with
  | none => rfl
  | some d => rfl
theorem cnt_ad {p q r t : Nat → Bool} : ∀ n, (∀ k, k < n → (if p k = true then 1 else 0) + (if q k = true then 1 else 0) = (if r k = true then 1 else 0) + (if t k = true then (1 : Nat) else 0)) → cnt n p + cnt n q = cnt n r + cnt n t
  | 0, _ => rfl
  | n + 1, h => by
    have ih := cnt_ad n (fun k hk => h k (by omega))
    have hn := h n (by omega)
    show cnt n p + (if p n = true then 1 else 0) + (cnt n q + (if q n = true then 1 else 0)) = cnt n r + (if r n = true then 1 else 0) + (cnt n t + (if t n = true then 1 else 0))
    omega
theorem sumN_cnt {p : Nat → Bool} {f : Nat → Nat} : ∀ n, (∀ c, c < n → f c = (if p (2 * c) = true then 1 else 0) + (if p (2 * c + 1) = true then 1 else 0)) → sumN n f = cnt (2 * n) p
  | 0, _ => rfl
  | n + 1, h => by
    have ih := sumN_cnt n (fun c hc => h c (by omega))
    show sumN n f + f n = cnt (2 * n) p + (if p (2 * n) = true then 1 else 0) + (if p (2 * n + 1) = true then 1 else 0)
    rw [ih, h n (by omega)]
    omega
section SAME
variable {kd hr mp : Nat → Nat}
theorem fr_eq (hz : mpz mp) : cnt 72 (fun k => mp k == 1) = cnt 36 (fun c => kno mp c 1 == 1) + cnt 36 (fun c => kno mp c 2 == 1) := by
  show cnt (2 * 36) (fun k => mp k == 1) = _
  rw [cnt_2]
  refine congr (congrArg HAdd.hAdd (cnt_cg 36 fun c hc => ?_)) (cnt_cg 36 fun c hc => ?_)
  · rw [kno_1]
    cases e : wiP (2 * c) with
    | true => rw [if_pos rfl]
    | false => rw [hz _ (by omega) e, if_neg (fun q => nomatch q)]; rfl
  · rw [kno_2]
    cases e : wiP (2 * c + 1) with
    | true => rw [if_pos rfl]
    | false => rw [hz _ (by omega) e, if_neg (fun q => nomatch q)]; rfl
theorem out_6 : cnt 36 (fun c => !(wiP (2 * c))) = 6 ∧ cnt 36 (fun c => !(wiP (2 * c + 1))) = 6 := by decide +kernel
theorem wl_eq (hz : mpz mp) : cnt 72 (fun k => mp k == 2) + 12 = cnt 36 (fun c => kno mp c 1 == 2) + cnt 36 (fun c => kno mp c 2 == 2) := by
  have a : cnt 36 (fun c => mp (2 * c) == 2) + cnt 36 (fun c => !(wiP (2 * c))) = cnt 36 (fun c => kno mp c 1 == 2) + cnt 36 (fun _ => false) := cnt_ad 36 fun c hc => by
    rw [kno_1]
    cases e : wiP (2 * c) with
    | true => simp
    | false => rw [hz _ (by omega) e]; simp
  have b : cnt 36 (fun c => mp (2 * c + 1) == 2) + cnt 36 (fun c => !(wiP (2 * c + 1))) = cnt 36 (fun c => kno mp c 2 == 2) + cnt 36 (fun _ => false) := cnt_ad 36 fun c hc => by
    rw [kno_2]
    cases e : wiP (2 * c + 1) with
    | true => simp
    | false => rw [hz _ (by omega) e]; simp
  rw [out_6.1, cnt_ff] at a
  rw [out_6.2, cnt_ff] at b
  have c : cnt 72 (fun k => mp k == 2) = cnt 36 (fun c => mp (2 * c) == 2) + cnt 36 (fun c => mp (2 * c + 1) == 2) := cnt_2 _ 36
  omega
def pF (kd hr mp : Nat → Nat) (h : Nat) (b : Bool) (k : Nat) : Bool := wiP k && (!(mp k == 0) && ((clE (kd k) (hr k) h == (mp k == 2)) == b))
theorem knw_1 {h c : Nat} {b : Bool} : knwT kd hr mp h b c 1 = if pF kd hr mp h b (2 * c) = true then 1 else 0 := by
  unfold knwT pF
  rw [kno_1, wi_0]
  unfold clsS plc
  cases e : nb c 1 with
  | none => rfl
  | some d =>
    show (if some d ≠ none ∧ mp (2 * c) ≠ 0 ∧ ((clE (kd (2 * c)) (hr (2 * c)) h == (mp (2 * c) == 2)) == b) = true then 1 else 0) = _
    by_cases q : mp (2 * c) = 0
    · rw [if_neg (fun x => x.2.1 q), if_neg (by rw [q]; simp)]
    · have : (mp (2 * c) == 0) = false := by simpa using q
      rw [this]
      cases ((clE (kd (2 * c)) (hr (2 * c)) h == (mp (2 * c) == 2)) == b) with
      | true => rw [if_pos ⟨(fun x => nomatch x), q, rfl⟩, if_pos (by rfl)]
      | false => rw [if_neg (fun x => nomatch x.2.2), if_neg (by simp)]
theorem knw_2 {h c : Nat} {b : Bool} : knwT kd hr mp h b c 2 = if pF kd hr mp h b (2 * c + 1) = true then 1 else 0 := by
  unfold knwT pF
  rw [kno_2, wi_1]
  unfold clsS plc
  cases e : nb c 2 with
  | none => rfl
  | some d =>
    show (if some d ≠ none ∧ mp (2 * c + 1) ≠ 0 ∧ ((clE (kd (2 * c + 1)) (hr (2 * c + 1)) h == (mp (2 * c + 1) == 2)) == b) = true then 1 else 0) = _
    by_cases q : mp (2 * c + 1) = 0
    · rw [if_neg (fun x => x.2.1 q), if_neg (by rw [q]; simp)]
    · have : (mp (2 * c + 1) == 0) = false := by simpa using q
      rw [this]
      cases ((clE (kd (2 * c + 1)) (hr (2 * c + 1)) h == (mp (2 * c + 1) == 2)) == b) with
      | true => rw [if_pos ⟨(fun x => nomatch x), q, rfl⟩, if_pos (by rfl)]
      | false => rw [if_neg (fun x => nomatch x.2.2), if_neg (by simp)]
theorem knw_c {h : Nat} {b : Bool} : knwS kd hr mp h b = cnt 72 (pF kd hr mp h b) := sumN_cnt 36 fun c _ => by rw [knw_1, knw_2]
theorem all_eq {h : Nat} (hz : mpz mp) (ho : mpo mp) : knwS kd hr mp h true + knwS kd hr mp h false = cnt 72 (fun k => mp k == 1) + cnt 72 (fun k => mp k == 2) := by
  rw [knw_c, knw_c]
  refine cnt_ad 72 fun k hk => ?_
  unfold pF
  cases e : wiP k with
  | true =>
    have := ho k
    rcases (show mp k = 0 ∨ mp k = 1 ∨ mp k = 2 by omega) with q | q | q <;> rw [q] <;> cases clE (kd k) (hr k) h <;> rfl
  | false => rw [hz k hk e]; rfl
end SAME
/-- of the old cells only those of tags from lo to below hi are written; what is new has such a tag or none -/
def stp (lo hi : Nat) (g g' : Nat → Nat) (k s : Nat) (w w' : am_Wd) : Prop := (∀ b, b < w.2.1 → g b < lo ∨ hi ≤ g b → w'.1 b = w.1 b) ∧ (∀ b, b < w.2.1 → g' b = g b) ∧ (∀ b, w.2.1 ≤ b → g' b = 0 ∨ (lo ≤ g' b ∧ g' b < hi)) ∧ gJ w' g' ∧ w.2.1 ≤ w'.2.1 ∧ w'.2.1 ≤ w.2.1 + k ∧ w.2.2.1 ≤ w'.2.2.1 ∧ w'.2.2.1 ≤ w.2.2.1 + s ∧ w'.2.2.2 = w.2.2.2
theorem stp_wk {lo hi : Nat} {g g' : Nat → Nat} {k s k' s' : Nat} {w w' : am_Wd} (h : stp lo hi g g' k s w w') (hk : k ≤ k') (hs : s ≤ s') : stp lo hi g g' k' s' w w' := by
  obtain ⟨a1, a2, a3, a4, a5, a6, a7, a8, a9⟩ := h
  exact ⟨a1, a2, a3, a4, a5, by omega, a7, by omega, a9⟩
theorem stp_rf {lo hi : Nat} {g : Nat → Nat} {w : am_Wd} (hJ : gJ w g) : stp lo hi g g 0 0 w w := ⟨fun _ _ _ => rfl, fun _ _ => rfl, fun b hb => Or.inl (hJ b hb), hJ, Nat.le_refl _, Nat.le_refl _, Nat.le_refl _, Nat.le_refl _, rfl⟩
theorem stp_ext {lo hi : Nat} {g : Nat → Nat} {k s : Nat} {w w' : am_Wd} (hJ : gJ w g) (h : ext w w' k s) : stp lo hi g g k s w w' := ⟨fun b hb _ => h.1 b hb, fun _ _ => rfl, fun b hb => Or.inl (hJ b hb), gJ_ext hJ h, h.2.1, h.2.2.1, h.2.2.2.1, h.2.2.2.2.1, h.2.2.2.2.2⟩
theorem stp_frm {lo hi lo' hi' : Nat} {g : Nat → Nat} {w w' : am_Wd} (hJ : gJ w g) (h : frm g lo' hi' w w') (h1 : lo ≤ lo') (h2 : hi' ≤ hi) : stp lo hi g g 0 0 w w' := by
  refine ⟨fun b hb hg => h.1 b (by omega), fun _ _ => rfl, fun b hb => Or.inl (hJ b hb), fun b hb => hJ b (by rw [← h.2]; exact hb), ?_⟩
  rw [h.2]
  exact ⟨Nat.le_refl _, Nat.le_refl _, Nat.le_refl _, Nat.le_refl _, rfl⟩
theorem jk_ext {w : am_Wd} {k s : Nat} : ext w (am_jk w k s) k s := ⟨fun _ _ => rfl, Nat.le_add_right _ _, Nat.le_refl _, Nat.le_add_right _ _, Nat.le_refl _, rfl⟩
theorem putL_ok {may : Nat → Bool} {mp : Nat → Nat} (h : mpo mp) (t : Nat) : mpo (putL may mp t) := by
  unfold putL
  cases sureP may with
  | none => exact h
  | some p => exact putM_ok (putM_ok (putM_ok h _ _ _) _ _ _) _ _ _
theorem flt_lt (kd hr : Nat → Nat) (h c s : Nat) : fltS kd hr h c s < 8 := flt3_lt _ _ _
/-- kinds, hours, carpets, barred, how many walkers, each, minute, next number, drawn, meetings, disputes, refused -/
abbrev sS : Type := (Nat → Nat) × (Nat → Nat) × (Nat → Bool) × (Nat → Bool) × Nat × (Nat → sW) × Nat × Nat × Int32 × Int32 × Int32 × Int32
def RC (w : am_Wd) (g : Nat → Nat) (x : Nat) (S : sS) : Prop := match S with
  | (kd, hr, cp, br, n, ws, mi, nd, dr, me, di, re) => ∃ (fl ka ha wr C B : Nat) (wad : Nat → Nat), RCx w g x fl ka ha wr C B wad kd hr cp br n ws mi nd dr me di re
def okW (y : sW) : Prop := okY y ∧ mpz y.2.2.2.2.2.2.2.2
def okS (S : sS) : Prop := match S with
  | (kd, hr, _, _, n, ws, mi, nd, _, _, _, _) => kdok kd ∧ hrok hr ∧ mpz kd ∧ n ≤ 3 ∧ mi ≤ 3000 ∧ nd < 127 ∧ ∀ i, i < n → okW (ws i)
def wi36 : Bool := all36 fun c s => (nb c s).isNone || (wiP (plc c s) && decide (plc c s < 72))
theorem wi36_ok : wi36 = true := by decide +kernel
theorem plc_wi {c s : Nat} (hc : c < 36) (hs : s < 4) (h : nb c s ≠ none) : wiP (plc c s) = true := by
  have z := all36_at wi36_ok hc hs
  cases e : nb c s with
  | none => exact absurd e h
  | some d =>
    rw [e] at z
    have z : (wiP (plc c s) && decide (plc c s < 72)) = true := z
    exact (Bool.and_eq_true_iff.mp z).1
theorem mpz_up {mp : Nat → Nat} {p v : Nat} (h : mpz mp) (hp : wiP p = true) : mpz (up mp p v) := by
  intro k hk hw
  unfold up
  split
  · rename_i e
    rw [e, hp] at hw
    cases hw
  · exact h k hk hw
theorem mpz_putM {mp : Nat → Nat} {c s : Nat} {b : Bool} (h : mpz mp) (hc : c < 36) (hs : s < 4) : mpz (putM mp c s b) := by
  unfold putM
  split
  · exact h
  · rename_i e
    exact mpz_up h (plc_wi hc hs e)
theorem lay1_z {c s : Nat} {z : sLay} (hc : c < 36) (hs : s < 4) (h : mpz z.2.1) : mpz (lay1 c s z).2.1 := by
  unfold lay1
  split
  · exact h
  · rename_i e
    exact mpz_up h (plc_wi hc hs e)
theorem layN_z {z : sLay} (h : mpz z.2.1) : ∀ c, c ≤ 36 → mpz (layN c z).2.1
  | 0, _ => h
  | c + 1, hc => lay1_z (by omega) (by decide) (lay1_z (by omega) (by decide) (layN_z h c (by omega)))
theorem putF_z {may : Nat → Bool} {mp : Nat → Nat} {b : Bool} (h : mpz mp) : mpz (putF may mp b) := by
  unfold putF
  cases e : sureP may with
  | none => exact h
  | some p =>
    have := (sure_lt e).1
    exact mpz_putM h (by omega) (by omega)
theorem putF_k {may : Nat → Bool} {mp : Nat → Nat} {b : Bool} (h : mpo mp) : mpo (putF may mp b) := by
  unfold putF
  cases e : sureP may with
  | none => exact h
  | some p => exact putM_ok h _ _ _
theorem putL_z {may : Nat → Bool} {mp : Nat → Nat} {t : Nat} (h : mpz mp) : mpz (putL may mp t) := by
  unfold putL
  cases e : sureP may with
  | none => exact h
  | some p =>
    have := (sure_lt e).1
    exact mpz_putM (mpz_putM (mpz_putM h (by omega) (by omega)) (by omega) (by omega)) (by omega) (by omega)
theorem cnt_tt : ∀ n, cnt n (fun _ => true) = n
  | 0 => rfl
  | n + 1 => by
    show cnt n (fun _ => true) + (if true = true then 1 else 0) = n + 1
    rw [cnt_tt n, if_pos rfl]
theorem anew_1 (may : Nat → Bool) : 1 ≤ cnt 144 (anewM may) := by
  unfold anewM
  split
  · rw [cnt_tt]; decide
  · omega
theorem cnt_1 {n p : Nat} (h : p < n) : 1 ≤ cnt n (fun q => decide (q = p)) := by
  induction n with
  | zero => omega
  | succ n ih =>
    show 1 ≤ cnt n (fun q => decide (q = p)) + (if decide (n = p) = true then 1 else 0)
    by_cases e : n = p
    · rw [if_pos (decide_eq_true e)]; omega
    · have := ih (by omega)
      omega
theorem step_lt {po : Nat} (h : po < 144) : stepW po < 144 := by
  unfold stepW
  cases e : nb (po / 4) (po % 4) with
  | none => exact h
  | some d =>
    have := nb_lt (by omega) (by omega) e
    show d * 4 + po % 4 < 144
    omega
theorem turn_lt {po : Nat} (h : po < 144) (b : Bool) : turnW po b < 144 := by
  unfold turnW
  omega
section OK
variable {ho po ch : Nat} {lo ac bu sl : Int32} {may : Nat → Bool} {mp : Nat → Nat}
theorem okW_up {n : Nat} {ws : Nat → sW} {y : sW} {i : Nat} (h : ∀ j, j < n → okW (ws j)) (hy : okW y) : ∀ j, j < n → okW (up ws i y j) := by
  intro j hj
  unfold up
  split
  · exact hy
  · exact h j hj
theorem okW_fwd {kd hr : Nat → Nat} {cp : Nat → Bool} {mi nd : Nat} {y : sW} (h : okW y) : okW (fwdY kd hr cp mi nd y) := by
  obtain ⟨ho, po, ch, lo, ac, bu, sl, may, mp⟩ := y
  obtain ⟨⟨h1, h2, h3, h4, h5⟩, h6⟩ := h
  have h3 : ch ≤ 500 := h3
  refine ⟨⟨h1, ?_, by show ch - 1 ≤ 500; omega, putF_k h4, anew_1 _⟩, putF_z h6⟩
  show (if _ then po else if _ then po else stepW po) < 144
  split
  · exact h2
  · split
    · exact h2
    · exact step_lt h2
theorem okW_turn {b : Bool} {y : sW} (h : okW y) : okW (turnY b y) := by
  obtain ⟨ho, po, ch, lo, ac, bu, sl, may, mp⟩ := y
  obtain ⟨⟨h1, h2, h3, h4, h5⟩, h6⟩ := h
  have h3 : ch ≤ 500 := h3
  refine ⟨⟨h1, turn_lt h2 b, by show ch - 1 ≤ 500; omega, h4, ?_⟩, h6⟩
  show 1 ≤ cnt 144 (rotP may (if b = true then 3 else 1))
  rw [rot_cnt]
  exact h5
theorem okW_feel {t : Nat} {y : sW} (h : okW y) : okW (feelY t y) := by
  obtain ⟨ho, po, ch, lo, ac, bu, sl, may, mp⟩ := y
  obtain ⟨⟨h1, h2, h3, h4, h5⟩, h6⟩ := h
  have h3 : ch ≤ 500 := h3
  exact ⟨⟨h1, h2, by show ch - 1 ≤ 500; omega, putL_ok h4 t, anew_1 _⟩, putL_z h6⟩
theorem okW_act {y : sW} (h : okW y) : okW (actY y) := by
  obtain ⟨ho, po, ch, lo, ac, bu, sl, may, mp⟩ := y
  obtain ⟨⟨h1, h2, h3, h4, h5⟩, h6⟩ := h
  have h3 : ch ≤ 500 := h3
  exact ⟨⟨h1, h2, by show ch - 1 ≤ 500; omega, h4, h5⟩, h6⟩
theorem okW_new {c f h : Nat} (hc : c ≤ 35) (hf : f ≤ 3) (h5 : h ≤ 500) (b : Bool) : okW (c, c * 4 + f, h, nI 0, nI 0, nI 0, nI 0, may0 (c * 4 + f) b, fun _ => 0) := by
  refine ⟨⟨by show c < 36; omega, by show c * 4 + f < 144; omega, h5, fun _ => Nat.zero_le 2, ?_⟩, fun _ _ _ => rfl⟩
  show 1 ≤ cnt 144 (may0 (c * 4 + f) b)
  unfold may0
  split
  · exact cnt_1 (by omega)
  · rw [cnt_tt]; decide
end OK
