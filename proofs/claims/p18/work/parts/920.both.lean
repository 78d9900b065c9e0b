/-! BOTH SIDES AT ONE STATE: what holds of it, and what keeps it. Mine. -/
/-- kinds, hours, carpets, barred, how many walkers, each, minute, next number, drawn, meetings, disputes, refused -/
abbrev sS : Type := (Nat → Nat) × (Nat → Nat) × (Nat → Bool) × (Nat → Bool) × Nat × (Nat → sW) × Nat × Nat × Int32 × Int32 × Int32 × Int32
def RC (w : am_Wd) (g : Nat → Nat) (x : Nat) (S : sS) : Prop := match S with
  | (kd, hr, cp, br, n, ws, mi, nd, dr, me, di, re) => ∃ (fl ka ha wr C B : Nat) (wad : Nat → Nat), RCx w g x fl ka ha wr C B wad kd hr cp br n ws mi nd dr me di re
def RN (w : am_Wd) (g : Nat → Nat) (m : Nat) (S : sS) (th : Nat) : Prop := match S with
  | (kd, hr, cp, br, n, ws, mi, nd, dr, me, di, re) => RM w g m kd hr cp br n ws th mi nd dr me di re
def okW (y : sW) : Prop := okY y ∧ mpz y.2.2.2.2.2.2.2.2
def okS (S : sS) : Prop := match S with
  | (kd, hr, _, _, n, ws, mi, nd, _, _, _, _) => kdok kd ∧ hrok hr ∧ mpz kd ∧ n ≤ 3 ∧ mi ≤ 3000 ∧ nd < 127 ∧ ∀ i, i < n → okW (ws i)
def wi36 : Bool := all36 fun c s => (nb c s).isNone || (wiP (plc c s) && decide (plc c s < 72))
theorem wi36_ok : wi36 = true := by decide +kernel
theorem plc_wi {c s : Nat} (hc : c < 36) (hs : s < 4) (h : nb c s ≠ none) : wiP (plc c s) = true := by
  have z := all36_at wi36_ok hc hs
  cases e : nb c s with
  | none => exact absurd e h
  | some d =>
    rw [e] at z
    have z : (wiP (plc c s) && decide (plc c s < 72)) = true := z
    exact (Bool.and_eq_true_iff.mp z).1
theorem mpz_up {mp : Nat → Nat} {p v : Nat} (h : mpz mp) (hp : wiP p = true) : mpz (up mp p v) := by
  intro k hk hw
  unfold up
  split
  · rename_i e
    rw [e, hp] at hw
    cases hw
  · exact h k hk hw
theorem mpz_putM {mp : Nat → Nat} {c s : Nat} {b : Bool} (h : mpz mp) (hc : c < 36) (hs : s < 4) : mpz (putM mp c s b) := by
  unfold putM
  split
  · exact h
  · rename_i e
    exact mpz_up h (plc_wi hc hs e)
theorem kdok_up {kd : Nat → Nat} {p v : Nat} (h : kdok kd) (hv : v ≤ 2) : kdok (up kd p v) := by
  intro k
  unfold up
  split
  · exact hv
  · exact h k
theorem hrok_up {hr : Nat → Nat} {p v : Nat} (h : hrok hr) (hv : v < 16777216) : hrok (up hr p v) := by
  intro k
  unfold up
  split
  · exact hv
  · exact h k
theorem lay1_z {c s : Nat} {z : sLay} (hc : c < 36) (hs : s < 4) (h : mpz z.2.1) : mpz (lay1 c s z).2.1 := by
  unfold lay1
  split
  · exact h
  · rename_i e
    exact mpz_up h (plc_wi hc hs e)
theorem layN_z {z : sLay} (h : mpz z.2.1) : ∀ c, c ≤ 36 → mpz (layN c z).2.1
  | 0, _ => h
  | c + 1, hc => lay1_z (by omega) (by decide) (lay1_z (by omega) (by decide) (layN_z h c (by omega)))
theorem putF_z {may : Nat → Bool} {mp : Nat → Nat} {b : Bool} (h : mpz mp) : mpz (putF may mp b) := by
  unfold putF
  cases e : sureP may with
  | none => exact h
  | some p =>
    have := (sure_lt e).1
    exact mpz_putM h (by omega) (by omega)
theorem putF_k {may : Nat → Bool} {mp : Nat → Nat} {b : Bool} (h : mpo mp) : mpo (putF may mp b) := by
  unfold putF
  cases e : sureP may with
  | none => exact h
  | some p => exact putM_ok h _ _ _
theorem putL_z {may : Nat → Bool} {mp : Nat → Nat} {t : Nat} (h : mpz mp) : mpz (putL may mp t) := by
  unfold putL
  cases e : sureP may with
  | none => exact h
  | some p =>
    have := (sure_lt e).1
    exact mpz_putM (mpz_putM (mpz_putM h (by omega) (by omega)) (by omega) (by omega)) (by omega) (by omega)
theorem mrg_z {mp mq : Nat → Nat} (h : mpz mp) (h' : mpz mq) : mpz (mrg mp mq) := by
  intro k hk hw
  unfold mrg
  rw [if_pos (h k hk hw)]
  exact h' k hk hw
theorem cnt_tt : ∀ n, cnt n (fun _ => true) = n
  | 0 => rfl
  | n + 1 => by
    show cnt n (fun _ => true) + (if true = true then 1 else 0) = n + 1
    rw [cnt_tt n, if_pos rfl]
theorem anew_1 (may : Nat → Bool) : 1 ≤ cnt 144 (anewM may) := by
  unfold anewM
  split
  · rw [cnt_tt]; decide
  · omega
theorem cnt_1 {n p : Nat} (h : p < n) : 1 ≤ cnt n (fun q => decide (q = p)) := by
  induction n with
  | zero => omega
  | succ n ih =>
    show 1 ≤ cnt n (fun q => decide (q = p)) + (if decide (n = p) = true then 1 else 0)
    by_cases e : n = p
    · rw [if_pos (decide_eq_true e)]; omega
    · have := ih (by omega)
      omega
theorem step_lt {po : Nat} (h : po < 144) : stepW po < 144 := by
  unfold stepW
  cases e : nb (po / 4) (po % 4) with
  | none => exact h
  | some d =>
    have := nb_lt (by omega) (by omega) e
    show d * 4 + po % 4 < 144
    omega
theorem turn_lt {po : Nat} (h : po < 144) (b : Bool) : turnW po b < 144 := by
  unfold turnW
  omega
section OK
variable {ho po ch : Nat} {lo ac bu sl : Int32} {may : Nat → Bool} {mp : Nat → Nat}
theorem okW_up {n : Nat} {ws : Nat → sW} {y : sW} {i : Nat} (h : ∀ j, j < n → okW (ws j)) (hy : okW y) : ∀ j, j < n → okW (up ws i y j) := by
  intro j hj
  unfold up
  split
  · exact hy
  · exact h j hj
theorem okW_fwd {kd hr : Nat → Nat} {cp : Nat → Bool} {mi nd : Nat} {y : sW} (h : okW y) : okW (fwdY kd hr cp mi nd y) := by
  obtain ⟨ho, po, ch, lo, ac, bu, sl, may, mp⟩ := y
  obtain ⟨⟨h1, h2, h3, h4, h5⟩, h6⟩ := h
  have h3 : ch ≤ 500 := h3
  refine ⟨⟨h1, ?_, by show ch - 1 ≤ 500; omega, putF_k h4, anew_1 _⟩, putF_z h6⟩
  show (if _ then po else if _ then po else stepW po) < 144
  split
  · exact h2
  · split
    · exact h2
    · exact step_lt h2
theorem okW_turn {b : Bool} {y : sW} (h : okW y) : okW (turnY b y) := by
  obtain ⟨ho, po, ch, lo, ac, bu, sl, may, mp⟩ := y
  obtain ⟨⟨h1, h2, h3, h4, h5⟩, h6⟩ := h
  have h3 : ch ≤ 500 := h3
  refine ⟨⟨h1, turn_lt h2 b, by show ch - 1 ≤ 500; omega, h4, ?_⟩, h6⟩
  show 1 ≤ cnt 144 (rotP may (if b = true then 3 else 1))
  rw [rot_cnt]
  exact h5
theorem okW_feel {t : Nat} {y : sW} (h : okW y) : okW (feelY t y) := by
  obtain ⟨ho, po, ch, lo, ac, bu, sl, may, mp⟩ := y
  obtain ⟨⟨h1, h2, h3, h4, h5⟩, h6⟩ := h
  have h3 : ch ≤ 500 := h3
  exact ⟨⟨h1, h2, by show ch - 1 ≤ 500; omega, putL_ok h4 t, anew_1 _⟩, putL_z h6⟩
theorem okW_act {y : sW} (h : okW y) : okW (actY y) := by
  obtain ⟨ho, po, ch, lo, ac, bu, sl, may, mp⟩ := y
  obtain ⟨⟨h1, h2, h3, h4, h5⟩, h6⟩ := h
  have h3 : ch ≤ 500 := h3
  exact ⟨⟨h1, h2, by show ch - 1 ≤ 500; omega, h4, h5⟩, h6⟩
theorem okW_chg {c : Nat} {y : sW} (h : okW y) (hc : c ≤ 500) : okW (chgY c y) := by
  obtain ⟨ho, po, ch, lo, ac, bu, sl, may, mp⟩ := y
  obtain ⟨⟨h1, h2, h3, h4, h5⟩, h6⟩ := h
  exact ⟨⟨h1, h2, hc, h4, h5⟩, h6⟩
theorem okW_tell {y : sW} (h : okW y) : okW (tellY y) := by
  obtain ⟨ho, po, ch, lo, ac, bu, sl, may, mp⟩ := y
  obtain ⟨⟨h1, h2, h3, h4, h5⟩, h6⟩ := h
  exact ⟨⟨h1, h2, h3, h4, cnt_1 h2⟩, h6⟩
theorem okW_map {mq : Nat → Nat} {y : sW} (h : okW y) (hm : mpo mq) (hz : mpz mq) : okW (mapY mq y) := by
  obtain ⟨ho, po, ch, lo, ac, bu, sl, may, mp⟩ := y
  obtain ⟨⟨h1, h2, h3, h4, h5⟩, h6⟩ := h
  exact ⟨⟨h1, h2, h3, hm, h5⟩, hz⟩
theorem okW_new {c f h : Nat} (hc : c ≤ 35) (hf : f ≤ 3) (h5 : h ≤ 500) (b : Bool) : okW (c, c * 4 + f, h, nI 0, nI 0, nI 0, nI 0, may0 (c * 4 + f) b, fun _ => 0) := by
  refine ⟨⟨by show c < 36; omega, by show c * 4 + f < 144; omega, h5, fun _ => Nat.zero_le 2, ?_⟩, fun _ _ _ => rfl⟩
  show 1 ≤ cnt 144 (may0 (c * 4 + f) b)
  unfold may0
  split
  · exact cnt_1 (by omega)
  · rw [cnt_tt]; decide
theorem wk_c {n : Nat} (hn : n ≤ 3) (z : Int32) : (z < nI 0 ∨ nI n ≤ z) ∨ ∃ i, i < n ∧ z = nI i := by
  rcases ixr_c (a := 0) (b := n) (by omega) (by decide) z with ⟨-, q | q⟩ | ⟨j, -, hj, rfl, -⟩
  · exact Or.inl (Or.inl q)
  · exact Or.inl (Or.inr (Int32.le_of_lt q))
  · by_cases e : j = n
    · subst e
      exact Or.inl (Or.inr (Int32.le_refl _))
    · exact Or.inr ⟨j, by omega, rfl⟩
end OK
/-! what both sides do -/
/-- the literals' characters -/
def litS (r j : Nat) : Int32 := ((if r = 25 then [nI 120] else if r = 26 then [nI 99] else if r = 27 then [nI 46] else if r = 28 then [nI 32, nI 124, nI 47] else [] : List Int32)).getD j 0
/-- what stood there before and is read alone: the outer cells, literals, digits -/
def StW (w : am_Wd) (g : Nat → Nat) : Prop := (∃ (o : Nat) (xf : Nat → Int64), stO w o xf ∧ o < w.2.1 ∧ g o = 0) ∧ (∀ r, 24 ≤ r → r ≤ 28 → ∃ (k v : Nat) (f : Nat → Int32), w.2.2.2 r = some k ∧ w.1 k = some (.inr (12, [.ref v, .int 0])) ∧ w.1 v = some (.inl (11, (if r = 24 then 0 else if r = 28 then 3 else 1), .inl f)) ∧ (∀ j, j < 3 → am_ok .byte (.int (f j)) = true ∧ (j < (if r = 24 then 0 else if r = 28 then 3 else 1) → f j = litS r j)) ∧ k < w.2.1 ∧ v < w.2.1 ∧ g k = 0 ∧ g v = 0) ∧ ∃ (d : Nat) (f : Nat → Int32), w.2.2.2 2 = some d ∧ w.1 d = some (.inl (11, 100, .inl f)) ∧ d < w.2.1 ∧ g d = 0 ∧ ∀ i, i ≤ 2 → f i = nI (48 + i)
theorem StW.stp {w w' : am_Wd} {g g' : Nat → Nat} {lo hi k s : Nat} (h : StW w g) (hl : 1 ≤ lo) (p : stp lo hi g g' k s w w') : StW w' g' := by
  obtain ⟨p1, p2, p3, p4, p5, p6, p7, p8, p9⟩ := p
  obtain ⟨⟨o, xf, ⟨a1, a2, a3⟩, a4, a5⟩, h2, d, f, d1, d2, d3, d4⟩ := h
  refine ⟨⟨o, xf, ⟨by rw [p9]; exact a1, by rw [p1 o a4 (by omega)]; exact a2, a3⟩, by omega, by rw [p2 o a4]; exact a5⟩, fun r r1 r2 => ?_, d, f, by rw [p9]; exact d1, by rw [p1 d d3 (by omega)]; exact d2, by omega, by rw [p2 d d3]; exact d4.1, d4.2⟩
  obtain ⟨k, v, f, b1, b2, b3, b4, b5, b6, b7, b8⟩ := h2 r r1 r2
  exact ⟨k, v, f, by rw [p9]; exact b1, by rw [p1 k b5 (by omega)]; exact b2, by rw [p1 v b6 (by omega)]; exact b3, b4, by omega, by omega, by rw [p2 k b5]; exact b7, by rw [p2 v b6]; exact b8⟩
/-- a call of the class -/
def CC (M : Nat) (as : List Value) (S S' : sS) (r : am_Out) : Prop := ∀ (w : am_Wd) (g : Nat → Nat) (x : Nat), RC w g x S → gJ w g → StW w g → ∃ w1 g1, am_x M (.ref x :: as) w = some (r, w1) ∧ RC w1 g1 x S' ∧ stp 1 40 g g1 100 200 w w1
/-- a call of the reference -/
def MC (M : Nat) (as : List Value) (S S' : sS) (v : Value) (th : Nat) : Prop := ∀ (w : am_Wd) (g : Nat → Nat) (m t : Nat), RN w g m S t → gJ w g → StW w g → ∃ w1 g1, am_x M (.ref m :: as) w = some (.inl (some v), w1) ∧ RN w1 g1 m S' th ∧ stp 100 800 g g1 500 13000 w w1
/-- both: what is refused (ex th is thrown), or the same answer; to one state -/
def JN {α : Type} (F : α → Value) (Mc Mm : Nat) (ex : Nat → Nat) (Bd : Nat) (as : List Value) (S : sS) : Prop := ∃ (th : Nat) (v v' : α) (S' : sS), okS S' ∧ th ≤ Bd ∧ (th = 0 → v' = v) ∧ CC Mc as S S' (if th = 0 then .inl (some (F v)) else .inr (am_xn (ex th))) ∧ MC Mm as S S' (F v') th
theorem JN.good {α : Type} {F : α → Value} {Mc Mm : Nat} {ex : Nat → Nat} {Bd : Nat} {as : List Value} {S S' : sS} {v : α} (h : okS S') (hc : CC Mc as S S' (.inl (some (F v)))) (hm : MC Mm as S S' (F v) 0) : JN F Mc Mm ex Bd as S := ⟨0, v, v, S', h, Nat.zero_le _, fun _ => rfl, hc, hm⟩
theorem JN.bad {α : Type} {F : α → Value} {Mc Mm : Nat} {ex : Nat → Nat} {Bd : Nat} {as : List Value} {S : sS} {v' : α} (th : Nat) (h1 : 1 ≤ th) (h3 : th ≤ Bd) (h : okS S) (hc : CC Mc as S S (.inr (am_xn (ex th)))) (hm : MC Mm as S S (F v') th) : JN F Mc Mm ex Bd as S := ⟨th, v', v', S, h, h3, fun _ => rfl, by rw [if_neg (by omega)]; exact hc, hm⟩
section MK
variable {M : Nat} {as : List Value} {kd hr : Nat → Nat} {cp br : Nat → Bool} {n : Nat} {ws : Nat → sW} {mi nd : Nat} {dr me di re : Int32} {S' : sS}
theorem cc_thr {e : Nat} (hn : n ≤ 3) (h : ∀ (w : am_Wd) (g : Nat → Nat) (x fl ka ha wr C B : Nat) (wad : Nat → Nat), RCx w g x fl ka ha wr C B wad kd hr cp br n ws mi nd dr me di re → am_x M (.ref x :: as) w = some (.inr (am_xn e), am_jk w 1 6)) : CC M as (kd, hr, cp, br, n, ws, mi, nd, dr, me, di, re) (kd, hr, cp, br, n, ws, mi, nd, dr, me, di, re) (.inr (am_xn e)) := by
  intro w g x R hJ _
  obtain ⟨fl, ka, ha, wr, C, B, wad, R⟩ := R
  exact ⟨_, g, h _ _ _ _ _ _ _ _ _ _ R, ⟨fl, ka, ha, wr, C, B, wad, rc_jk R hn 1 6⟩, stp_wk (stp_ext hJ jk_ext) (by decide) (by decide)⟩
theorem cc_ask {v : Value} (h : ∀ (w : am_Wd) (g : Nat → Nat) (x fl ka ha wr C B : Nat) (wad : Nat → Nat), RCx w g x fl ka ha wr C B wad kd hr cp br n ws mi nd dr me di re → am_x M (.ref x :: as) w = some (.inl (some v), w)) : CC M as (kd, hr, cp, br, n, ws, mi, nd, dr, me, di, re) (kd, hr, cp, br, n, ws, mi, nd, dr, me, di, re) (.inl (some v)) := by
  intro w g x R hJ _
  obtain ⟨fl, ka, ha, wr, C, B, wad, R⟩ := R
  exact ⟨w, g, h _ _ _ _ _ _ _ _ _ _ R, ⟨fl, ka, ha, wr, C, B, wad, R⟩, stp_wk (stp_rf hJ) (by decide) (by decide)⟩
theorem cc_do {v : Value} (h : ∀ (w : am_Wd) (g : Nat → Nat) (x fl ka ha wr C B : Nat) (wad : Nat → Nat), RCx w g x fl ka ha wr C B wad kd hr cp br n ws mi nd dr me di re → ∃ w', am_x M (.ref x :: as) w = some (.inl (some v), w') ∧ RC w' g x S' ∧ frm g 1 40 w w') : CC M as (kd, hr, cp, br, n, ws, mi, nd, dr, me, di, re) S' (.inl (some v)) := by
  intro w g x R hJ _
  obtain ⟨fl, ka, ha, wr, C, B, wad, R⟩ := R
  obtain ⟨w', a, b, c⟩ := h _ _ _ _ _ _ _ _ _ _ R
  exact ⟨w', g, a, b, stp_wk (stp_frm hJ c (by decide) (by decide)) (by decide) (by decide)⟩
theorem mc_b {v : Value} {th k s : Nat} (h : ∀ (w : am_Wd) (g : Nat → Nat) (m kq hq ca ba wl ed : Nat) (wad : Nat → Nat) (t : Nat), RMx w g m kq hq ca ba wl ed wad kd hr cp br n ws t mi nd dr me di re → gJ w g → ∃ w', am_x M (.ref m :: as) w = some (.inl (some v), w') ∧ RN w' g m S' th ∧ stp 100 800 g g k s w w') (hk : k ≤ 500 := by decide) (hs : s ≤ 13000 := by decide) : MC M as (kd, hr, cp, br, n, ws, mi, nd, dr, me, di, re) S' v th := by
  intro w g m t R hJ _
  obtain ⟨kq, hq, ca, ba, wl, ed, wad, R⟩ := R
  obtain ⟨w', a, b, c⟩ := h _ _ _ _ _ _ _ _ _ _ _ R hJ
  exact ⟨w', g, a, b, stp_wk c hk hs⟩
theorem mc_g {v : Value} {th k s : Nat} (h : ∀ (w : am_Wd) (g : Nat → Nat) (m kq hq ca ba wl ed : Nat) (wad : Nat → Nat) (t : Nat), RMx w g m kq hq ca ba wl ed wad kd hr cp br n ws t mi nd dr me di re → gJ w g → ∃ w' g', am_x M (.ref m :: as) w = some (.inl (some v), w') ∧ RN w' g' m S' th ∧ stp 100 800 g g' k s w w') (hk : k ≤ 500 := by decide) (hs : s ≤ 13000 := by decide) : MC M as (kd, hr, cp, br, n, ws, mi, nd, dr, me, di, re) S' v th := by
  intro w g m t R hJ _
  obtain ⟨kq, hq, ca, ba, wl, ed, wad, R⟩ := R
  obtain ⟨w', g', a, b, c⟩ := h _ _ _ _ _ _ _ _ _ _ _ R hJ
  exact ⟨w', g', a, b, stp_wk c hk hs⟩
end MK
