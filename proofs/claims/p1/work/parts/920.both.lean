section
/-! BOTH SIDES AT ONE STATE: what holds of it, and what keeps it. Mine. -/
/-- kinds, hours, carpets, barred, how many walkers, each, minute, next number, drawn, meetings, disputes, refused -/
abbrev sS : Type := (Nat → Nat) × (Nat → Nat) × (Nat → Bool) × (Nat → Bool) × Nat × (Nat → sW) × Nat × Nat × Int32 × Int32 × Int32 × Int32
def RC (w : am_Wd) (g : Nat → Nat) (x : Nat) (S : sS) : Prop := match S with
  | (kd, hr, cp, br, n, ws, mi, nd, dr, me, di, re) => ∃ (fl ka ha wr C B : Nat) (wad : Nat → Nat), RCx w g x fl ka ha wr C B wad kd hr cp br n ws mi nd dr me di re
def RN (w : am_Wd) (g : Nat → Nat) (m : Nat) (S : sS) (th : Nat) : Prop := match S with
  | (kd, hr, cp, br, n, ws, mi, nd, dr, me, di, re) => RM w g m kd hr cp br n ws th mi nd dr me di re
def okW (y : sW) : Prop := okY y ∧ mpz y.2.2.2.2.2.2.2.2
def okS (S : sS) : Prop := match S with
  | (kd, hr, _, _, n, ws, mi, nd, _, _, _, _) => kdok kd ∧ hrok hr ∧ mpz kd ∧ n ≤ 3 ∧ mi ≤ 3000 ∧ nd < 127 ∧ ∀ i, i < n → okW (ws i)
def wi36 : Bool := all36 fun c s => (nb c s).isNone || (wiP (plc c s) && decide (plc c s < 72))
theorem wi36_ok : wi36 = true := by decide +kernel
theorem plc_wi {c s : Nat} (hc : c < 36) (hs : s < 4) (h : nb c s ≠ none) : wiP (plc c s) = true := by
  have z := all36_at wi36_ok hc hs
  cases e : nb c s with
  | none => exact absurd e h
  | some d =>
    rw [e] at z
    have z : (wiP (plc c s) && decide (plc c s < 72)) = true := z
    exact (Bool.and_eq_true_iff.mp z).1
theorem mpz_up {mp : Nat → Nat} {p v : Nat} (h : mpz mp) (hp : wiP p = true) : mpz (up mp p v) := by
  intro k hk hw
  unfold up
  split
  · rename_i e
    rw [e, hp] at hw
    cases hw
  · exact h k hk hw
theorem mpz_putM {mp : Nat → Nat} {c s : Nat} {b : Bool} (h : mpz mp) (hc : c < 36) (hs : s < 4) : mpz (putM mp c s b) := by
  unfold putM
  split
  · exact h
  · rename_i e
    exact mpz_up h (plc_wi hc hs e)
theorem kdok_up {kd : Nat → Nat} {p v : Nat} (h : kdok kd) (hv : v ≤ 2) : kdok (up kd p v) := by
  intro k
  unfold up
  split
  · exact hv
  · exact h k
theorem hrok_up {hr : Nat → Nat} {p v : Nat} (h : hrok hr) (hv : v < 16777216) : hrok (up hr p v) := by
  intro k
  unfold up
  split
  · exact hv
  · exact h k
theorem lay1_z {c s : Nat} {z : sLay} (hc : c < 36) (hs : s < 4) (h : mpz z.2.1) : mpz (lay1 c s z).2.1 := by
  unfold lay1
  split
  · exact h
  · rename_i e
    exact mpz_up h (plc_wi hc hs e)
theorem layN_z {z : sLay} (h : mpz z.2.1) : ∀ c, c ≤ 36 → mpz (layN c z).2.1
  | 0, _ => h
  | c + 1, hc => lay1_z (by omega) (by decide) (lay1_z (by omega) (by decide) (layN_z h c (by omega)))
theorem putF_z {may : Nat → Bool} {mp : Nat → Nat} {b : Bool} (h : mpz mp) : mpz (putF may mp b) := by
  unfold putF
  cases e : sureP may with
  | none => exact h
  | some p =>
    have := (sure_lt e).1
    exact mpz_putM h (by omega) (by omega)
theorem putF_k {may : Nat → Bool} {mp : Nat → Nat} {b : Bool} (h : mpo mp) : mpo (putF may mp b) := by
  unfold putF
  cases e : sureP may with
  | none => exact h
  | some p => exact putM_ok h _ _ _
theorem putL_z {may : Nat → Bool} {mp : Nat → Nat} {t : Nat} (h : mpz mp) : mpz (putL may mp t) := by
  unfold putL
  cases e : sureP may with
  | none => exact h
  | some p =>
    have := (sure_lt e).1
    exact mpz_putM (mpz_putM (mpz_putM h (by omega) (by omega)) (by omega) (by omega)) (by omega) (by omega)
theorem mrg_z {mp mq : Nat → Nat} (h : mpz mp) (h' : mpz mq) : mpz (mrg mp mq) := by
  intro k hk hw
  unfold mrg
  rw [if_pos (h k hk hw)]
  exact h' k hk hw
theorem cnt_tt : ∀ n, cnt n (fun _ => true) = n
  | 0 => rfl
  | n + 1 => by
    show cnt n (fun _ => true) + (if true = true then 1 else 0) = n + 1
    rw [cnt_tt n, if_pos rfl]
theorem anew_1 (may : Nat → Bool) : 1 ≤ cnt 144 (anewM may) := by
  unfold anewM
  split
  · rw [cnt_tt]; decide
  · omega
theorem cnt_1 {n p : Nat} (h : p < n) : 1 ≤ cnt n (fun q => decide (q = p)) := by
  induction n with
  | zero => omega
  | succ n ih =>
    show 1 ≤ cnt n (fun q => decide (q = p)) + (if decide (n = p) = true then 1 else 0)
    by_cases e : n = p
    · rw [if_pos (decide_eq_true e)]; omega
    · have := ih (by omega)
      omega
theorem step_lt {po : Nat} (h : po < 144) : stepW po < 144 := by
  unfold stepW
  cases e : nb (po / 4) (po % 4) with
  | none => exact h
  | some d =>
    have := nb_lt (by omega) (by omega) e
    show d * 4 + po % 4 < 144
    omega
theorem turn_lt {po : Nat} (h : po < 144) (b : Bool) : turnW po b < 144 := by
  unfold turnW
  omega
section OK
variable {ho po ch : Nat} {lo ac bu sl : Int32} {may : Nat → Bool} {mp : Nat → Nat}
theorem okW_up {n : Nat} {ws : Nat → sW} {y : sW} {i : Nat} (h : ∀ j, j < n → okW (ws j)) (hy : okW y) : ∀ j, j < n → okW (up ws i y j) := by
  intro j hj
  unfold up
  split
  · exact hy
  · exact h j hj
theorem okW_fwd {kd hr : Nat → Nat} {cp : Nat → Bool} {mi nd : Nat} {y : sW} (h : okW y) : okW (fwdY kd hr cp mi nd y) := by
  obtain ⟨ho, po, ch, lo, ac, bu, sl, may, mp⟩ := y
  obtain ⟨⟨h1, h2, h3, h4, h5⟩, h6⟩ := h
  have h3 : ch ≤ 500 := h3
  refine ⟨⟨h1, ?_, by show ch - 1 ≤ 500; omega, putF_k h4, anew_1 _⟩, putF_z h6⟩
  show (if _ then po else if _ then po else stepW po) < 144
  split
  · exact h2
  · split
    · exact h2
    · exact step_lt h2
theorem okW_turn {b : Bool} {y : sW} (h : okW y) : okW (turnY b y) := by
  obtain ⟨ho, po, ch, lo, ac, bu, sl, may, mp⟩ := y
  obtain ⟨⟨h1, h2, h3, h4, h5⟩, h6⟩ := h
  have h3 : ch ≤ 500 := h3
  refine ⟨⟨h1, turn_lt h2 b, by show ch - 1 ≤ 500; omega, h4, ?_⟩, h6⟩
  show 1 ≤ cnt 144 (rotP may (if b = true then 3 else 1))
  rw [rot_cnt]
  exact h5
theorem okW_feel {t : Nat} {y : sW} (h : okW y) : okW (feelY t y) := by
  obtain ⟨ho, po, ch, lo, ac, bu, sl, may, mp⟩ := y
  obtain ⟨⟨h1, h2, h3, h4, h5⟩, h6⟩ := h
  have h3 : ch ≤ 500 := h3
  exact ⟨⟨h1, h2, by show ch - 1 ≤ 500; omega, putL_ok h4 t, anew_1 _⟩, putL_z h6⟩
theorem okW_act {y : sW} (h : okW y) : okW (actY y) := by
  obtain ⟨ho, po, ch, lo, ac, bu, sl, may, mp⟩ := y
  obtain ⟨⟨h1, h2, h3, h4, h5⟩, h6⟩ := h
  have h3 : ch ≤ 500 := h3
  exact ⟨⟨h1, h2, by show ch - 1 ≤ 500; omega, h4, h5⟩, h6⟩
theorem okW_chg {c : Nat} {y : sW} (h : okW y) (hc : c ≤ 500) : okW (chgY c y) := by
  obtain ⟨ho, po, ch, lo, ac, bu, sl, may, mp⟩ := y
  obtain ⟨⟨h1, h2, h3, h4, h5⟩, h6⟩ := h
  exact ⟨⟨h1, h2, hc, h4, h5⟩, h6⟩
theorem okW_tell {y : sW} (h : okW y) : okW (tellY y) := by
  obtain ⟨ho, po, ch, lo, ac, bu, sl, may, mp⟩ := y
  obtain ⟨⟨h1, h2, h3, h4, h5⟩, h6⟩ := h
  exact ⟨⟨h1, h2, h3, h4, cnt_1 h2⟩, h6⟩
theorem okW_map {mq : Nat → Nat} {y : sW} (h : okW y) (hm : mpo mq) (hz : mpz mq) : okW (mapY mq y) := by
  obtain ⟨ho, po, ch, lo, ac, bu, sl, may, mp⟩ := y
  obtain ⟨⟨h1, h2, h3, h4, h5⟩, h6⟩ := h
  exact ⟨⟨h1, h2, h3, hm, h5⟩, hz⟩
theorem okW_new {c f h : Nat} (hc : c ≤ 35) (hf : f ≤ 3) (h5 : h ≤ 500) (b : Bool) : okW (c, c * 4 + f, h, nI 0, nI 0, nI 0, nI 0, may0 (c * 4 + f) b, fun _ => 0) := by
  refine ⟨⟨by show c < 36; omega, by show c * 4 + f < 144; omega, h5, fun _ => Nat.zero_le 2, ?_⟩, fun _ _ _ => rfl⟩
  show 1 ≤ cnt 144 (may0 (c * 4 + f) b)
  unfold may0
  split
  · exact cnt_1 (by omega)
  · rw [cnt_tt]; decide
theorem wk_c {n : Nat} (hn : n ≤ 3) (z : Int32) : (z < nI 0 ∨ nI n ≤ z) ∨ ∃ i, i < n ∧ z = nI i := by
  rcases ixr_c (a := 0) (b := n) (by omega) (by decide) z with ⟨-, q | q⟩ | ⟨j, -, hj, rfl, -⟩
  · exact Or.inl (Or.inl q)
  · exact Or.inl (Or.inr (Int32.le_of_lt q))
  · by_cases e : j = n
    · subst e
      exact Or.inl (Or.inr (Int32.le_refl _))
    · exact Or.inr ⟨j, by omega, rfl⟩
end OK
/-! what both sides do -/
/-- the literals' characters -/
def litS (r j : Nat) : Int32 := ((if r = 25 then [nI 120] else if r = 26 then [nI 99] else if r = 27 then [nI 46] else if r = 28 then [nI 32, nI 124, nI 47] else [] : List Int32)).getD j 0
/-- what stood there before and is read alone: the outer cells, literals, digits -/
def StW (w : am_Wd) (g : Nat → Nat) : Prop := (∃ (o : Nat) (xf : Nat → Int64), stO w o xf ∧ o < w.2.1 ∧ g o = 0) ∧ (∀ r, 24 ≤ r → r ≤ 28 → ∃ (k v : Nat) (f : Nat → Int32), w.2.2.2 r = some k ∧ w.1 k = some (.inr (12, [.ref v, .int 0])) ∧ w.1 v = some (.inl (11, (if r = 24 then 0 else if r = 28 then 3 else 1), .inl f)) ∧ (∀ j, j < 3 → am_ok .byte (.int (f j)) = true ∧ (j < (if r = 24 then 0 else if r = 28 then 3 else 1) → f j = litS r j)) ∧ k < w.2.1 ∧ v < w.2.1 ∧ g k = 0 ∧ g v = 0) ∧ ∃ (d : Nat) (f : Nat → Int32), w.2.2.2 2 = some d ∧ w.1 d = some (.inl (11, 100, .inl f)) ∧ d < w.2.1 ∧ g d = 0 ∧ ∀ i, i ≤ 2 → f i = nI (48 + i)
theorem StW.stp {w w' : am_Wd} {g g' : Nat → Nat} {lo hi k s : Nat} (h : StW w g) (hl : 1 ≤ lo) (p : stp lo hi g g' k s w w') : StW w' g' := by
  obtain ⟨p1, p2, p3, p4, p5, p6, p7, p8, p9⟩ := p
  obtain ⟨⟨o, xf, ⟨a1, a2, a3⟩, a4, a5⟩, h2, d, f, d1, d2, d3, d4⟩ := h
  refine ⟨⟨o, xf, ⟨by rw [p9]; exact a1, by rw [p1 o a4 (by omega)]; exact a2, a3⟩, by omega, by rw [p2 o a4]; exact a5⟩, fun r r1 r2 => ?_, d, f, by rw [p9]; exact d1, by rw [p1 d d3 (by omega)]; exact d2, by omega, by rw [p2 d d3]; exact d4.1, d4.2⟩
  obtain ⟨k, v, f, b1, b2, b3, b4, b5, b6, b7, b8⟩ := h2 r r1 r2
  exact ⟨k, v, f, by rw [p9]; exact b1, by rw [p1 k b5 (by omega)]; exact b2, by rw [p1 v b6 (by omega)]; exact b3, b4, by omega, by omega, by rw [p2 k b5]; exact b7, by rw [p2 v b6]; exact b8⟩
/-- a call of the class -/
def CC (M : Nat) (as : List Value) (S S' : sS) (r : am_Out) : Prop := ∀ (w : am_Wd) (g : Nat → Nat) (x : Nat), RC w g x S → gJ w g → StW w g → ∃ w1 g1, am_x M (.ref x :: as) w = some (r, w1) ∧ RC w1 g1 x S' ∧ stp 1 40 g g1 100 200 w w1
/-- a call of the reference -/
def MC (M : Nat) (as : List Value) (S S' : sS) (v : Value) (th : Nat) : Prop := ∀ (w : am_Wd) (g : Nat → Nat) (m t : Nat), RN w g m S t → gJ w g → StW w g → ∃ w1 g1, am_x M (.ref m :: as) w = some (.inl (some v), w1) ∧ RN w1 g1 m S' th ∧ stp 100 800 g g1 500 13000 w w1
/-- both: what is refused (ex th is thrown), or the same answer; to one state -/
def JN {α : Type} (F : α → Value) (Mc Mm : Nat) (ex : Nat → Nat) (Bd : Nat) (as : List Value) (S : sS) : Prop := ∃ (th : Nat) (v v' : α) (S' : sS), okS S' ∧ th ≤ Bd ∧ (th = 0 → v' = v) ∧ CC Mc as S S' (if th = 0 then .inl (some (F v)) else .inr (am_xn (ex th))) ∧ MC Mm as S S' (F v') th
theorem JN.good {α : Type} {F : α → Value} {Mc Mm : Nat} {ex : Nat → Nat} {Bd : Nat} {as : List Value} {S S' : sS} {v : α} (h : okS S') (hc : CC Mc as S S' (.inl (some (F v)))) (hm : MC Mm as S S' (F v) 0) : JN F Mc Mm ex Bd as S := ⟨0, v, v, S', h, Nat.zero_le _, fun _ => rfl, hc, hm⟩
theorem JN.bad {α : Type} {F : α → Value} {Mc Mm : Nat} {ex : Nat → Nat} {Bd : Nat} {as : List Value} {S : sS} {v' : α} (th : Nat) (h1 : 1 ≤ th) (h3 : th ≤ Bd) (h : okS S) (hc : CC Mc as S S (.inr (am_xn (ex th)))) (hm : MC Mm as S S (F v') th) : JN F Mc Mm ex Bd as S := ⟨th, v', v', S, h, h3, fun _ => rfl, by rw [if_neg (by omega)]; exact hc, hm⟩
section MK
variable {M : Nat} {as : List Value} {kd hr : Nat → Nat} {cp br : Nat → Bool} {n : Nat} {ws : Nat → sW} {mi nd : Nat} {dr me di re : Int32} {S' : sS}
theorem cc_thr {e : Nat} (hn : n ≤ 3) (h : ∀ (w : am_Wd) (g : Nat → Nat) (x fl ka ha wr C B : Nat) (wad : Nat → Nat), RCx w g x fl ka ha wr C B wad kd hr cp br n ws mi nd dr me di re → am_x M (.ref x :: as) w = some (.inr (am_xn e), am_jk w 1 6)) : CC M as (kd, hr, cp, br, n, ws, mi, nd, dr, me, di, re) (kd, hr, cp, br, n, ws, mi, nd, dr, me, di, re) (.inr (am_xn e)) := by
  intro w g x R hJ _
  obtain ⟨fl, ka, ha, wr, C, B, wad, R⟩ := R
  exact ⟨_, g, h _ _ _ _ _ _ _ _ _ _ R, ⟨fl, ka, ha, wr, C, B, wad, rc_jk R hn 1 6⟩, stp_wk (stp_ext hJ jk_ext) (by decide) (by decide)⟩
theorem cc_ask {v : Value} (h : ∀ (w : am_Wd) (g : Nat → Nat) (x fl ka ha wr C B : Nat) (wad : Nat → Nat), RCx w g x fl ka ha wr C B wad kd hr cp br n ws mi nd dr me di re → am_x M (.ref x :: as) w = some (.inl (some v), w)) : CC M as (kd, hr, cp, br, n, ws, mi, nd, dr, me, di, re) (kd, hr, cp, br, n, ws, mi, nd, dr, me, di, re) (.inl (some v)) := by
  intro w g x R hJ _
  obtain ⟨fl, ka, ha, wr, C, B, wad, R⟩ := R
  exact ⟨w, g, h _ _ _ _ _ _ _ _ _ _ R, ⟨fl, ka, ha, wr, C, B, wad, R⟩, stp_wk (stp_rf hJ) (by decide) (by decide)⟩
theorem cc_do {v : Value} (h : ∀ (w : am_Wd) (g : Nat → Nat) (x fl ka ha wr C B : Nat) (wad : Nat → Nat), RCx w g x fl ka ha wr C B wad kd hr cp br n ws mi nd dr me di re → ∃ w', am_x M (.ref x :: as) w = some (.inl (some v), w') ∧ RC w' g x S' ∧ frm g 1 40 w w') : CC M as (kd, hr, cp, br, n, ws, mi, nd, dr, me, di, re) S' (.inl (some v)) := by
  intro w g x R hJ _
  obtain ⟨fl, ka, ha, wr, C, B, wad, R⟩ := R
  obtain ⟨w', a, b, c⟩ := h _ _ _ _ _ _ _ _ _ _ R
  exact ⟨w', g, a, b, stp_wk (stp_frm hJ c (by decide) (by decide)) (by decide) (by decide)⟩
theorem mc_b {v : Value} {th k s : Nat} (h : ∀ (w : am_Wd) (g : Nat → Nat) (m kq hq ca ba wl ed : Nat) (wad : Nat → Nat) (t : Nat), RMx w g m kq hq ca ba wl ed wad kd hr cp br n ws t mi nd dr me di re → gJ w g → ∃ w', am_x M (.ref m :: as) w = some (.inl (some v), w') ∧ RN w' g m S' th ∧ stp 100 800 g g k s w w') (hk : k ≤ 500 := by decide) (hs : s ≤ 13000 := by decide) : MC M as (kd, hr, cp, br, n, ws, mi, nd, dr, me, di, re) S' v th := by
  intro w g m t R hJ _
  obtain ⟨kq, hq, ca, ba, wl, ed, wad, R⟩ := R
  obtain ⟨w', a, b, c⟩ := h _ _ _ _ _ _ _ _ _ _ _ R hJ
  exact ⟨w', g, a, b, stp_wk c hk hs⟩
theorem mc_g {v : Value} {th k s : Nat} (h : ∀ (w : am_Wd) (g : Nat → Nat) (m kq hq ca ba wl ed : Nat) (wad : Nat → Nat) (t : Nat), RMx w g m kq hq ca ba wl ed wad kd hr cp br n ws t mi nd dr me di re → gJ w g → ∃ w' g', am_x M (.ref m :: as) w = some (.inl (some v), w') ∧ RN w' g' m S' th ∧ stp 100 800 g g' k s w w') (hk : k ≤ 500 := by decide) (hs : s ≤ 13000 := by decide) : MC M as (kd, hr, cp, br, n, ws, mi, nd, dr, me, di, re) S' v th := by
  intro w g m t R hJ _
  obtain ⟨kq, hq, ca, ba, wl, ed, wad, R⟩ := R
  obtain ⟨w', g', a, b, c⟩ := h _ _ _ _ _ _ _ _ _ _ _ R hJ
  exact ⟨w', g', a, b, stp_wk c hk hs⟩
end MK
end
section
/-! BOTH SIDES, call by call: what is done. Mine. -/
def exA : Nat → Nat
  | 1 => 0
  | 2 => 1
  | _ => 2
def exB : Nat → Nat
  | 1 => 0
  | _ => 2
def exC : Nat → Nat
  | 1 => 1
  | _ => 2
section JT
variable {kd hr : Nat → Nat} {cp br : Nat → Bool} {n : Nat} {ws : Nat → sW} {mi nd : Nat} {dr me di re : Int32}
theorem j_edge (ok : okS (kd, hr, cp, br, n, ws, mi, nd, dr, me, di, re)) (z1 z2 z3 z4 : Int32) : JN Value.int 166 176 exA 2 [.int z1, .int z2, .int z3, .int z4] (kd, hr, cp, br, n, ws, mi, nd, dr, me, di, re) := by
  obtain ⟨hk, hh, hz, hn, hm, hd, hw⟩ := id ok
  rcases ixr_c (a := 0) (b := 35) (by decide) (by decide) z1 with ⟨-, q⟩ | ⟨c, -, hc, rfl, -⟩
  · exact .bad 1 (by decide) (by decide) ok (cc_thr hn fun w g x fl ka ha wr C B wad R => x166c q) (mc_b fun w g m kq hq ca ba wl ed wad t R hJ => y176c R hn hJ q)
  rcases ixr_c (a := 0) (b := 3) (by decide) (by decide) z2 with ⟨-, q⟩ | ⟨s, -, hs, rfl, -⟩
  · exact .bad 1 (by decide) (by decide) ok (cc_thr hn fun w g x fl ka ha wr C B wad R => x166s hc q) (mc_b fun w g m kq hq ca ba wl ed wad t R hJ => y176s R hn hJ hc q)
  cases e : nb c s with
  | none => exact .bad 2 (by decide) (by decide) ok (cc_thr hn fun w g x fl ka ha wr C B wad R => x166o hc hs e) (mc_b fun w g m kq hq ca ba wl ed wad t R hJ => y176o R hn hJ hc hs e)
  | some d =>
    have e' : nb c s ≠ none := by rw [e]; exact fun q => nomatch q
    rcases ixr_c (a := 0) (b := 2) (by decide) (by decide) z3 with ⟨-, q⟩ | ⟨k, -, hk2, rfl, -⟩
    · exact .bad 2 (by decide) (by decide) ok (cc_thr hn fun w g x fl ka ha wr C B wad R => x166k hc hs e' q) (mc_b fun w g m kq hq ca ba wl ed wad t R hJ => y176k R hn hJ hc hs e q)
    rcases ixr_c (a := 0) (b := 16777215) (by decide) (by decide) z4 with ⟨-, q⟩ | ⟨h, -, hh2, rfl, -⟩
    · exact .bad 2 (by decide) (by decide) ok (cc_thr hn fun w g x fl ka ha wr C B wad R => x166h hc hs e' hk2 q) (mc_b fun w g m kq hq ca ba wl ed wad t R hJ => y176h R hn hJ hc hs e hk2 q)
    exact .good (S' := (up kd (plc c s) k, up hr (plc c s) (if k = 2 then h else 0), cp, br, n, ws, mi, nd, dr, me, di, re)) ⟨kdok_up hk hk2, hrok_up hh (by split <;> omega), mpz_up hz (plc_wi (by omega) (by omega) e'), hn, hm, hd, hw⟩ (cc_do fun w g x fl ka ha wr C B wad R => by
      obtain ⟨w', a, b, c⟩ := x166 R hc hs hk2 hh2 e'
      exact ⟨w', a, ⟨_, _, _, _, _, _, _, b⟩, c⟩) (mc_b fun w g m kq hq ca ba wl ed wad t R hJ => y176 R hn hJ hc hs hk2 hh2 e)
theorem j_lay (ok : okS (kd, hr, cp, br, n, ws, mi, nd, dr, me, di, re)) (z1 : Int32) : JN Value.int 200 206 exC 1 [.int z1] (kd, hr, cp, br, n, ws, mi, nd, dr, me, di, re) := by
  obtain ⟨hk, hh, hz, hn, hm, hd, hw⟩ := id ok
  rcases ixr_c (a := 0) (b := 126) (by decide) (by decide) z1 with ⟨-, q⟩ | ⟨s, -, hs, rfl, -⟩
  · exact .bad 1 (by decide) (by decide) ok (cc_thr hn fun w g x fl ka ha wr C B wad R => x200n q) (mc_b fun w g m kq hq ca ba wl ed wad t R hJ => y206n R hn hJ q)
  have lz := layN_z (z := (s, kd, hr)) hz 36 (Nat.le_refl _)
  obtain ⟨l1, l2⟩ := lay_ok (z := (s, kd, hr)) hk hh 36
  have ec : cnt 72 (fun k => wiP k && (layN 36 (s, kd, hr)).2.1 k == 1) = cnt 72 (fun k => (layN 36 (s, kd, hr)).2.1 k == 1) := cnt_cg 72 fun k hk => by
    cases q : wiP k with
    | true => rfl
    | false =>
      rw [lz k hk q]
      rfl
  exact .good (S' := ((layN 36 (s, kd, hr)).2.1, (layN 36 (s, kd, hr)).2.2, cp, br, n, ws, mi, nd, dr, me, di, re)) ⟨l1, l2, lz, hn, hm, hd, hw⟩ (cc_do fun w g x fl ka ha wr C B wad R => by
      obtain ⟨w', a, b, c⟩ := x200 R hk hh hs
      exact ⟨w', a, ⟨_, _, _, _, _, _, _, b⟩, c⟩) (mc_b fun w g m kq hq ca ba wl ed wad t R hJ => ec ▸ y206 R hn hJ hk hs)
theorem j_cell (ok : okS (kd, hr, cp, br, n, ws, mi, nd, dr, me, di, re)) (z1 : Int32) (u v : Bool) : JN Value.int 90 144 exA 1 [.int z1, .int (b2i u), .int (b2i v)] (kd, hr, cp, br, n, ws, mi, nd, dr, me, di, re) := by
  obtain ⟨hk, hh, hz, hn, hm, hd, hw⟩ := id ok
  rcases ixr_c (a := 0) (b := 35) (by decide) (by decide) z1 with ⟨-, q⟩ | ⟨c, -, hc, rfl, -⟩
  · exact .bad 1 (by decide) (by decide) ok (cc_thr hn fun w g x fl ka ha wr C B wad R => x90n q) (mc_b fun w g m kq hq ca ba wl ed wad t R hJ => y144n R hn hJ q)
  exact .good (S' := (kd, hr, up cp c u, up br c v, n, ws, mi, nd, dr, me, di, re)) ok (cc_do fun w g x fl ka ha wr C B wad R => by
    obtain ⟨w', C', B', a, b, c⟩ := x90 R hc u v
    exact ⟨w', a, ⟨_, _, _, _, _, _, _, b⟩, c⟩) (mc_b fun w g m kq hq ca ba wl ed wad t R hJ => y144 R hn hJ hc u v)
theorem j_walker (ok : okS (kd, hr, cp, br, n, ws, mi, nd, dr, me, di, re)) (z1 z2 z3 : Int32) (b : Bool) : JN Value.int 167 207 exA 3 [.int z1, .int z2, .int z3, .int (b2i b)] (kd, hr, cp, br, n, ws, mi, nd, dr, me, di, re) := by
  obtain ⟨hk, hh, hz, hn, hm, hd, hw⟩ := id ok
  rcases ixr_c (a := 0) (b := 35) (by decide) (by decide) z1 with ⟨-, q⟩ | ⟨c, -, hc, rfl, -⟩
  · exact .bad 1 (by decide) (by decide) ok (cc_thr hn fun w g x fl ka ha wr C B wad R => x167c q) (mc_b fun w g m kq hq ca ba wl ed wad t R hJ => y207c R hn hJ q)
  rcases ixr_c (a := 0) (b := 3) (by decide) (by decide) z2 with ⟨-, q⟩ | ⟨f, -, hf, rfl, -⟩
  · exact .bad 2 (by decide) (by decide) ok (cc_thr hn fun w g x fl ka ha wr C B wad R => x167f hc q) (mc_b fun w g m kq hq ca ba wl ed wad t R hJ => y207f R hn hJ hc q)
  rcases ixr_c (a := 1) (b := 500) (by decide) (by decide) z3 with ⟨-, q⟩ | ⟨h, h1, h5, rfl, -⟩
  · exact .bad 2 (by decide) (by decide) ok (cc_thr hn fun w g x fl ka ha wr C B wad R => x167h hc hf q) (mc_b fun w g m kq hq ca ba wl ed wad t R hJ => y207h R hn hJ hc hf q)
  by_cases e : n = 3
  · exact .bad 3 (by decide) (by decide) ok (cc_thr hn fun w g x fl ka ha wr C B wad R => x167n R e hc hf h1 h5) (mc_b fun w g m kq hq ca ba wl ed wad t R hJ => y207n R hn hJ e hc hf h1 h5)
  have n3 : n < 3 := by omega
  have hw' : ∀ i, i < n + 1 → okW (up ws n (c, c * 4 + f, h, nI 0, nI 0, nI 0, nI 0, may0 (c * 4 + f) b, fun _ => 0) i) := by
    intro i hi
    unfold up
    split
    · exact okW_new hc hf h5 b
    · exact hw i (by omega)
  exact .good (S' := (kd, hr, cp, br, n + 1, up ws n (c, c * 4 + f, h, nI 0, nI 0, nI 0, nI 0, may0 (c * 4 + f) b, fun _ => 0), mi, nd, dr, me, di, re)) ⟨hk, hh, hz, n3, hm, hd, hw'⟩ (by
    intro w g x R hJ hSt
    obtain ⟨fl, ka, ha, wr, C, B, wad, R⟩ := R
    obtain ⟨⟨o, xf, s1, s2, s3⟩, -⟩ := hSt
    obtain ⟨w', a1, a2, a3, a4⟩ := x167 R n3 hJ s1 s2 hc hf h1 h5 b
    refine ⟨w', gW g w.2.1 n, a1, ⟨_, _, _, _, _, _, _, a2⟩, a3, fun z hz => gW_o (Or.inl hz), fun z hz => ?_, fun z hz => ?_, ?_⟩
    · by_cases q : z < w.2.1 + 6
      · refine Or.inr ?_
        obtain ⟨t1, t2, t3, t4, t5, t6⟩ := gW_at g w.2.1 n
        rcases (show z = w.2.1 ∨ z = w.2.1 + 1 ∨ z = w.2.1 + 2 ∨ z = w.2.1 + 3 ∨ z = w.2.1 + 4 ∨ z = w.2.1 + 5 by omega) with rfl | rfl | rfl | rfl | rfl | rfl <;> omega
      · rw [gW_o (Or.inr (by omega))]
        exact Or.inl (hJ z hz)
    · rw [a4] at hz
      have hz : w.2.1 + 6 ≤ z := hz
      rw [gW_o (Or.inr hz)]
      exact hJ z (by omega)
    · rw [a4]
      exact ⟨Nat.le_add_right _ _, by show w.2.1 + 6 ≤ w.2.1 + 100; omega, Nat.le_add_right _ _, by show w.2.2.1 + 24 ≤ w.2.2.1 + 200; omega, rfl⟩) (mc_g fun w g m kq hq ca ba wl ed wad t R hJ => y207 R hn hJ n3 hc hf h1 h5 b)
theorem j_forward (ok : okS (kd, hr, cp, br, n, ws, mi, nd, dr, me, di, re)) (z1 : Int32) (f : Bool) : JN Value.int 239 260 exB 2 [.int z1, .int (b2i f)] (kd, hr, cp, br, n, ws, mi, nd, dr, me, di, re) := by
  obtain ⟨hk, hh, hz, hn, hm, hd, hw⟩ := id ok
  rcases wk_c hn z1 with q | ⟨i, hi, rfl⟩
  · exact .bad 1 (by decide) (by decide) ok (cc_thr hn fun w g x fl ka ha wr C B wad R => x239n R hn q) (mc_b fun w g m kq hq ca ba wl ed wad t R hJ => y260n R hn hJ q)
  obtain ⟨⟨o1, o2, o3, o4, o5⟩, o6⟩ := hw i hi
  have hy := sW_eta (ws i)
  by_cases h0 : refW mi (ws i) f = true ∨ barA (ws i).2.2.2.2.2.2.2.1 br = true
  · exact .bad 2 (by decide) (by decide) ok (cc_thr hn fun w g x fl ka ha wr C B wad R => x239r R hn hm hi hy o3 o1 f h0) (mc_b fun w g m kq hq ca ba wl ed wad t R hJ => y260r R hn hJ hm hi hy o3 o1 o4 f h0)
  have hr0 : refW mi (ws i) f = false := Bool.eq_false_iff.mpr fun q => h0 (Or.inl q)
  have hb0 : barA (ws i).2.2.2.2.2.2.2.1 br = false := Bool.eq_false_iff.mpr fun q => h0 (Or.inr q)
  have hm1 : mi < 3000 := (refW_f (hy ▸ hr0)).2
  exact .good (S' := (kd, hr, cp, br, n, up ws i (fwdY kd hr cp mi nd (ws i)), mi + 1, (if bmpB kd hr mi (ws i).2.1 = true then nd else if cp ((ws i).2.1 / 4) = true then (29 * nd + 13) % 127 else nd), (if bmpB kd hr mi (ws i).2.1 = true then dr else if cp ((ws i).2.1 / 4) = true then dr + nI 1 else dr), me, di, re)) ⟨hk, hh, hz, hn, by omega, by split; exact hd; split; exact Nat.mod_lt _ (by decide); exact hd, okW_up hw (okW_fwd (hw i hi))⟩ (cc_do fun w g x fl ka ha wr C B wad R => by
      obtain ⟨w', a, b, c⟩ := x239 R hn hk hh hd hm hi hy o2 o3 o1 f hr0 hb0
      exact ⟨w', a, ⟨_, _, _, _, _, _, _, b⟩, c⟩) (mc_g fun w g m kq hq ca ba wl ed wad t R hJ => y260 R hn hJ hk hh hd hm hi hy o2 o3 o1 o4 f hr0 hb0)
theorem j_turn (ok : okS (kd, hr, cp, br, n, ws, mi, nd, dr, me, di, re)) (z1 : Int32) (b f : Bool) : JN Value.int 240 261 exB 2 [.int z1, .int (b2i b), .int (b2i f)] (kd, hr, cp, br, n, ws, mi, nd, dr, me, di, re) := by
  obtain ⟨hk, hh, hz, hn, hm, hd, hw⟩ := id ok
  rcases wk_c hn z1 with q | ⟨i, hi, rfl⟩
  · exact .bad 1 (by decide) (by decide) ok (cc_thr hn fun w g x fl ka ha wr C B wad R => x240n R hn q) (mc_b fun w g m kq hq ca ba wl ed wad t R hJ => y261n R hn hJ q)
  obtain ⟨⟨o1, o2, o3, o4, o5⟩, o6⟩ := hw i hi
  have hy := sW_eta (ws i)
  cases hr0 : refW mi (ws i) f with
  | true => exact .bad 2 (by decide) (by decide) ok (cc_thr hn fun w g x fl ka ha wr C B wad R => x240r R hn hm hi hy o3 o1 f hr0) (mc_b fun w g m kq hq ca ba wl ed wad t R hJ => y261r R hn hJ hm hi hy o3 o1 o4 f hr0)
  | false =>
    have hm1 : mi < 3000 := (refW_f (hy ▸ hr0)).2
    exact .good (S' := (kd, hr, cp, br, n, up ws i (turnY b (ws i)), mi + 1, nd, dr, me, di, re)) ⟨hk, hh, hz, hn, by omega, hd, okW_up hw (okW_turn (hw i hi))⟩ (cc_do fun w g x fl ka ha wr C B wad R => by
      obtain ⟨w', a, b, c⟩ := x240 R hn hm hi hy o2 o3 o1 b f hr0
      exact ⟨w', a, ⟨_, _, _, _, _, _, _, b⟩, c⟩) (mc_g fun w g m kq hq ca ba wl ed wad t R hJ => y261 R hn hJ hm hi hy o2 o3 o1 o4 o5 b f hr0)
theorem j_feel (ok : okS (kd, hr, cp, br, n, ws, mi, nd, dr, me, di, re)) (z1 : Int32) (f : Bool) : JN Value.int 241 262 exB 2 [.int z1, .int (b2i f)] (kd, hr, cp, br, n, ws, mi, nd, dr, me, di, re) := by
  obtain ⟨hk, hh, hz, hn, hm, hd, hw⟩ := id ok
  rcases wk_c hn z1 with q | ⟨i, hi, rfl⟩
  · exact .bad 1 (by decide) (by decide) ok (cc_thr hn fun w g x fl ka ha wr C B wad R => x241n R hn q) (mc_b fun w g m kq hq ca ba wl ed wad t R hJ => y262n R hn hJ q)
  obtain ⟨⟨o1, o2, o3, o4, o5⟩, o6⟩ := hw i hi
  have hy := sW_eta (ws i)
  cases hr0 : refW mi (ws i) f with
  | true => exact .bad 2 (by decide) (by decide) ok (cc_thr hn fun w g x fl ka ha wr C B wad R => x241r R hn hm hi hy o3 o1 f hr0) (mc_b fun w g m kq hq ca ba wl ed wad t R hJ => y262r R hn hJ hm hi hy o3 o1 o4 f hr0)
  | false =>
    have hm1 : mi < 3000 := (refW_f (hy ▸ hr0)).2
    exact .good (S' := (kd, hr, cp, br, n, up ws i (feelY (feltN kd hr mi (ws i).2.1) (ws i)), mi + 1, nd, dr, me, di, re)) ⟨hk, hh, hz, hn, by omega, hd, okW_up hw (okW_feel (hw i hi))⟩ (cc_do fun w g x fl ka ha wr C B wad R => by
      obtain ⟨w', a, b, c⟩ := x241 R hn hk hh hm hi hy o2 o3 o1 f hr0
      exact ⟨w', a, ⟨_, _, _, _, _, _, _, b⟩, c⟩) (mc_g fun w g m kq hq ca ba wl ed wad t R hJ => y262 R hn hJ hk hh hm hi hy o2 o3 o1 o4 f hr0)
theorem j_listen (ok : okS (kd, hr, cp, br, n, ws, mi, nd, dr, me, di, re)) (z1 : Int32) (f : Bool) : JN Value.int 242 263 exB 2 [.int z1, .int (b2i f)] (kd, hr, cp, br, n, ws, mi, nd, dr, me, di, re) := by
  obtain ⟨hk, hh, hz, hn, hm, hd, hw⟩ := id ok
  rcases wk_c hn z1 with q | ⟨i, hi, rfl⟩
  · exact .bad 1 (by decide) (by decide) ok (cc_thr hn fun w g x fl ka ha wr C B wad R => x242n R hn q) (mc_b fun w g m kq hq ca ba wl ed wad t R hJ => y263n R hn hJ q)
  obtain ⟨⟨o1, o2, o3, o4, o5⟩, o6⟩ := hw i hi
  have hpp : ∀ j, j < n → (ws j).2.1 < 144 := fun j hj => (hw j hj).1.2.1
  have hy := sW_eta (ws i)
  cases hr0 : refW mi (ws i) f with
  | true => exact .bad 2 (by decide) (by decide) ok (cc_thr hn fun w g x fl ka ha wr C B wad R => x242r R hn hm hi hy o3 o1 f hr0) (mc_b fun w g m kq hq ca ba wl ed wad t R hJ => y263r R hn hJ hm hi hy o3 o1 o4 f hr0)
  | false =>
    have hm1 : mi < 3000 := (refW_f (hy ▸ hr0)).2
    exact .good (S' := (kd, hr, cp, br, n, up ws i (actY (ws i)), mi + 1, nd, dr, me, di, re)) ⟨hk, hh, hz, hn, by omega, hd, okW_up hw (okW_act (hw i hi))⟩ (cc_do fun w g x fl ka ha wr C B wad R => by
      obtain ⟨w', a, b, c⟩ := x242 R hn hm hi hy hpp o3 o1 f hr0
      exact ⟨w', a, ⟨_, _, _, _, _, _, _, b⟩, c⟩) (mc_b fun w g m kq hq ca ba wl ed wad t R hJ => y263 R hn hJ hm hi hy hpp o3 o1 o4 f hr0)
theorem j_charge (ok : okS (kd, hr, cp, br, n, ws, mi, nd, dr, me, di, re)) (z1 z2 : Int32) : JN Value.int 133 178 exA 3 [.int z1, .int z2] (kd, hr, cp, br, n, ws, mi, nd, dr, me, di, re) := by
  obtain ⟨hk, hh, hz, hn, hm, hd, hw⟩ := id ok
  rcases wk_c hn z1 with q | ⟨i, hi, rfl⟩
  · exact .bad 1 (by decide) (by decide) ok (cc_thr hn fun w g x fl ka ha wr C B wad R => x133n R hn q) (mc_b fun w g m kq hq ca ba wl ed wad t R hJ => y178n R hn hJ q)
  obtain ⟨⟨o1, o2, o3, o4, o5⟩, o6⟩ := hw i hi
  have hy := sW_eta (ws i)
  rcases ixr_c (a := 1) (b := 500) (by decide) (by decide) z2 with ⟨-, q⟩ | ⟨c, h1, h5, rfl, -⟩
  · exact .bad 2 (by decide) (by decide) ok (cc_thr hn fun w g x fl ka ha wr C B wad R => x133c R hn hi q) (mc_b fun w g m kq hq ca ba wl ed wad t R hJ => y178c R hn hJ hi q)
  by_cases he : (ws i).2.1 / 4 = (ws i).1
  · exact .good (S' := (kd, hr, cp, br, n, up ws i (chgY c (ws i)), mi, nd, dr, me, di, re)) ⟨hk, hh, hz, hn, hm, hd, okW_up hw (okW_chg (hw i hi) h5)⟩ (cc_do fun w g x fl ka ha wr C B wad R => by
      obtain ⟨w', a, b, c⟩ := x133 R hn hi hy o2 o1 h1 h5 he
      exact ⟨w', a, ⟨_, _, _, _, _, _, _, b⟩, c⟩) (mc_b fun w g m kq hq ca ba wl ed wad t R hJ => y178 R hn hJ hi hy o2 o1 h1 h5 he)
  · exact .bad 3 (by decide) (by decide) ok (cc_thr hn fun w g x fl ka ha wr C B wad R => x133h R hn hi hy o2 o1 h1 h5 he) (mc_b fun w g m kq hq ca ba wl ed wad t R hJ => y178h R hn hJ hi hy o2 o1 h1 h5 he)
theorem j_tellPose (ok : okS (kd, hr, cp, br, n, ws, mi, nd, dr, me, di, re)) (z1 : Int32) : JN Value.int 134 179 exA 1 [.int z1] (kd, hr, cp, br, n, ws, mi, nd, dr, me, di, re) := by
  obtain ⟨hk, hh, hz, hn, hm, hd, hw⟩ := id ok
  rcases wk_c hn z1 with q | ⟨i, hi, rfl⟩
  · exact .bad 1 (by decide) (by decide) ok (cc_thr hn fun w g x fl ka ha wr C B wad R => x134n R hn q) (mc_b fun w g m kq hq ca ba wl ed wad t R hJ => y179n R hn hJ q)
  obtain ⟨⟨o1, o2, o3, o4, o5⟩, o6⟩ := hw i hi
  have hy := sW_eta (ws i)
  exact .good (S' := (kd, hr, cp, br, n, up ws i (tellY (ws i)), mi, nd, dr, me, di, re)) ⟨hk, hh, hz, hn, hm, hd, okW_up hw (okW_tell (hw i hi))⟩ (cc_do fun w g x fl ka ha wr C B wad R => by
      obtain ⟨w', a, b, c⟩ := x134 R hn hi hy o2
      exact ⟨w', a, ⟨_, _, _, _, _, _, _, b⟩, c⟩) (mc_g fun w g m kq hq ca ba wl ed wad t R hJ => y179 R hn hJ hi hy o2)
theorem j_meet (ok : okS (kd, hr, cp, br, n, ws, mi, nd, dr, me, di, re)) (z1 z2 : Int32) : JN Value.int 168 180 exA 3 [.int z1, .int z2] (kd, hr, cp, br, n, ws, mi, nd, dr, me, di, re) := by
  obtain ⟨hk, hh, hz, hn, hm, hd, hw⟩ := id ok
  rcases wk_c hn z1 with q | ⟨i, hi, rfl⟩
  · exact .bad 1 (by decide) (by decide) ok (cc_thr hn fun w g x fl ka ha wr C B wad R => x168n R hn q) (mc_b fun w g m kq hq ca ba wl ed wad t R hJ => y180n R hn hJ q)
  rcases wk_c hn z2 with q | ⟨j, hj, rfl⟩
  · exact .bad 1 (by decide) (by decide) ok (cc_thr hn fun w g x fl ka ha wr C B wad R => x168o R hn hi q) (mc_b fun w g m kq hq ca ba wl ed wad t R hJ => y180o R hn hJ hi q)
  obtain ⟨⟨o1, o2, o3, o4, o5⟩, o6⟩ := hw i hi
  obtain ⟨⟨p1, p2, p3, p4, p5⟩, p6⟩ := hw j hj
  have hy := sW_eta (ws i)
  have hy' := sW_eta (ws j)
  by_cases hij : i = j
  · subst hij
    exact .bad 2 (by decide) (by decide) ok (cc_thr hn fun w g x fl ka ha wr C B wad R => x168e R hn hi) (mc_b fun w g m kq hq ca ba wl ed wad t R hJ => y180e R hn hJ hi)
  by_cases h0 : cnt 144 (ws i).2.2.2.2.2.2.2.1 = 1 ∧ cnt 144 (ws j).2.2.2.2.2.2.2.1 = 1 ∧ (ws i).2.1 / 4 = (ws j).2.1 / 4
  · obtain ⟨s1, s2, hc⟩ := h0
    have m1 := mrg_le o4 p4
    have z1 := mrg_z o6 p6
    exact .good (S' := (kd, hr, cp, br, n, up (up ws i (mapY (mrg (ws i).2.2.2.2.2.2.2.2 (ws j).2.2.2.2.2.2.2.2) (ws i))) j (mapY (mrg (ws j).2.2.2.2.2.2.2.2 (mrg (ws i).2.2.2.2.2.2.2.2 (ws j).2.2.2.2.2.2.2.2)) (ws j)), mi, nd, dr, me + nI 1, di + nI (cnt 72 (dsR (ws i).2.2.2.2.2.2.2.2 (ws j).2.2.2.2.2.2.2.2)), re)) ⟨hk, hh, hz, hn, hm, hd, okW_up (okW_up hw (okW_map (hw i hi) m1 z1)) (okW_map (hw j hj) (mrg_le p4 m1) (mrg_z p6 z1))⟩ (cc_do fun w g x fl ka ha wr C B wad R => by
      obtain ⟨w', a, b, c⟩ := x168 R hn hi hj hij hy hy' o2 p2 o4 p4 s1 s2 hc
      rw [meet_n o6 p6] at a
      rw [dsp_c o6 p6 o4 p4] at b
      exact ⟨w', a, ⟨_, _, _, _, _, _, _, b⟩, c⟩) (mc_b fun w g m kq hq ca ba wl ed wad t R hJ => y180 R hn hJ hi hj hij hy hy' o2 p2 o4 p4 s1 s2 hc)
  · exact .bad 3 (by decide) (by decide) ok (cc_thr hn fun w g x fl ka ha wr C B wad R => x168m R hn hi hj hij hy hy' o2 p2 h0) (mc_b fun w g m kq hq ca ba wl ed wad t R hJ => y180m R hn hJ hi hj hij hy hy' o2 p2 h0)
theorem j_pass (ok : okS (kd, hr, cp, br, n, ws, mi, nd, dr, me, di, re)) (z1 : Int32) : JN Value.int 135 145 exC 2 [.int z1] (kd, hr, cp, br, n, ws, mi, nd, dr, me, di, re) := by
  obtain ⟨hk, hh, hz, hn, hm, hd, hw⟩ := id ok
  rcases ixr_c (a := 1) (b := 600) (by decide) (by decide) z1 with ⟨-, q⟩ | ⟨j, h1, h2, rfl, -⟩
  · exact .bad 1 (by decide) (by decide) ok (cc_thr hn fun w g x fl ka ha wr C B wad R => x135n q) (mc_b fun w g m kq hq ca ba wl ed wad t R hJ => y145n R hn hJ q)
  by_cases h3 : mi + j ≤ 3000
  · exact .good (S' := (kd, hr, cp, br, n, ws, mi + j, nd, dr, me, di, re)) ⟨hk, hh, hz, hn, h3, hd, hw⟩ (cc_do fun w g x fl ka ha wr C B wad R => by
      obtain ⟨w', a, b, c⟩ := x135 R h1 h2 h3
      exact ⟨w', a, ⟨_, _, _, _, _, _, _, b⟩, c⟩) (mc_b fun w g m kq hq ca ba wl ed wad t R hJ => y145 R hn hJ h1 h2 h3)
  · exact .bad 2 (by decide) (by decide) ok (cc_thr hn fun w g x fl ka ha wr C B wad R => x135m R hm h1 h2 h3) (mc_b fun w g m kq hq ca ba wl ed wad t R hJ => y145m R hn hJ hm h1 h2 h3)
theorem j_call (ok : okS (kd, hr, cp, br, n, ws, mi, nd, dr, me, di, re)) : JN Value.int 24 47 exA 0 [] (kd, hr, cp, br, n, ws, mi, nd, dr, me, di, re) := by
  obtain ⟨hk, hh, hz, hn, hm, hd, hw⟩ := id ok
  exact .good (S' := (kd, hr, cp, br, n, ws, mi, nd, dr, me, di, re + nI 1)) ok (cc_do fun w g x fl ka ha wr C B wad R => by
      obtain ⟨w', a, b, c⟩ := x24 R
      exact ⟨w', a, ⟨_, _, _, _, _, _, _, b⟩, c⟩) (mc_b fun w g m kq hq ca ba wl ed wad t R hJ => y47 R hn hJ)
end JT
end
section
/-! BOTH SIDES, call by call: what is asked. Mine. -/
section JU
variable {kd hr : Nat → Nat} {cp br : Nat → Bool} {n : Nat} {ws : Nat → sW} {mi nd : Nat} {dr me di re : Int32}
theorem j_ofEdge (ok : okS (kd, hr, cp, br, n, ws, mi, nd, dr, me, di, re)) (z1 z2 z3 : Int32) : JN Value.int 169 212 exA 2 [.int z1, .int z2, .int z3] (kd, hr, cp, br, n, ws, mi, nd, dr, me, di, re) := by
  obtain ⟨hk, hh, hz, hn, hm, hd, hw⟩ := id ok
  rcases ixr_c (a := 0) (b := 35) (by decide) (by decide) z1 with ⟨-, q⟩ | ⟨c, -, hc, rfl, -⟩
  · exact .bad 1 (by decide) (by decide) ok (cc_thr hn fun w g x fl ka ha wr C B wad R => x169c q) (mc_b fun w g m kq hq ca ba wl ed wad t R hJ => y212a R hn hJ q)
  rcases ixr_c (a := 0) (b := 3) (by decide) (by decide) z2 with ⟨-, q⟩ | ⟨s, -, hs, rfl, -⟩
  · exact .bad 1 (by decide) (by decide) ok (cc_thr hn fun w g x fl ka ha wr C B wad R => x169s hc q) (mc_b fun w g m kq hq ca ba wl ed wad t R hJ => y212b R hn hJ hc q)
  rcases ixr_c (a := 0) (b := 2) (by decide) (by decide) z3 with ⟨-, q⟩ | ⟨k, -, hk2, rfl, -⟩
  · exact .bad 2 (by decide) (by decide) ok (cc_thr hn fun w g x fl ka ha wr C B wad R => x169k hc hs q) (mc_b fun w g m kq hq ca ba wl ed wad t R hJ => y212c R hn hJ hc hs q)
  exact .good ok (cc_ask fun w g x fl ka ha wr C B wad R => x169 R hk hh hm hc hs hk2) (mc_b fun w g m kq hq ca ba wl ed wad t R hJ => y212 R hn hJ hc hs hk2 hk hh hm)
theorem j_ofWalker (ok : okS (kd, hr, cp, br, n, ws, mi, nd, dr, me, di, re)) (z1 z2 : Int32) : JN Value.int 201 182 exA 2 [.int z1, .int z2] (kd, hr, cp, br, n, ws, mi, nd, dr, me, di, re) := by
  obtain ⟨hk, hh, hz, hn, hm, hd, hw⟩ := id ok
  rcases wk_c hn z1 with q | ⟨i, hi, rfl⟩
  · exact .bad 1 (by decide) (by decide) ok (cc_thr hn fun w g x fl ka ha wr C B wad R => x201n R hn q) (mc_b fun w g m kq hq ca ba wl ed wad t R hJ => y182a R hn hJ q)
  obtain ⟨⟨o1, o2, o3, o4, o5⟩, o6⟩ := hw i hi
  have hy := sW_eta (ws i)
  rcases ixr_c (a := 0) (b := 12) (by decide) (by decide) z2 with ⟨-, q⟩ | ⟨k, -, hk2, rfl, -⟩
  · exact .bad 2 (by decide) (by decide) ok (cc_thr hn fun w g x fl ka ha wr C B wad R => x201k R hn hi q) (mc_b fun w g m kq hq ca ba wl ed wad t R hJ => y182b R hn hJ hi q)
  have e : ofwR kd hr (mi / 60 % 24) (ws i) k = ofwS kd hr mi (ws i) k := by
    rw [hy]
    exact ofw_eq (h := 0) o6 o4 k hk2
  exact .good ok (cc_ask fun w g x fl ka ha wr C B wad R => x201 R hn hk hh hm hi hy o4 hk2) (mc_b fun w g m kq hq ca ba wl ed wad t R hJ => e ▸ y182 R hn hJ hi hy hk2 hk hh hm o4)
theorem j_house (ok : okS (kd, hr, cp, br, n, ws, mi, nd, dr, me, di, re)) (z1 : Int32) : JN Value.int 136 227 exC 1 [.int z1] (kd, hr, cp, br, n, ws, mi, nd, dr, me, di, re) := by
  obtain ⟨hk, hh, hz, hn, hm, hd, hw⟩ := id ok
  rcases ixr_c (a := 0) (b := 11) (by decide) (by decide) z1 with ⟨-, q⟩ | ⟨k, -, hk2, rfl, -⟩
  · exact .bad 1 (by decide) (by decide) ok (cc_thr hn fun w g x fl ka ha wr C B wad R => x136n q) (mc_b fun w g m kq hq ca ba wl ed wad t R hJ => y227a R hn hJ q)
  have e : hsR kd hr cp br n mi dr me di re k = hsS kd hr cp br n mi dr me di re k := hs_eq hz k hk2
  exact .good ok (cc_ask fun w g x fl ka ha wr C B wad R => x136 R hk hh hm hk2) (mc_b fun w g m kq hq ca ba wl ed wad t R hJ => e ▸ y227 R hn hJ hk2 hk hh hm)
theorem j_map (ok : okS (kd, hr, cp, br, n, ws, mi, nd, dr, me, di, re)) (z1 z2 z3 : Int32) : JN Value.int 137 214 exA 1 [.int z1, .int z2, .int z3] (kd, hr, cp, br, n, ws, mi, nd, dr, me, di, re) := by
  obtain ⟨hk, hh, hz, hn, hm, hd, hw⟩ := id ok
  rcases wk_c hn z1 with q | ⟨i, hi, rfl⟩
  · exact .bad 1 (by decide) (by decide) ok (cc_thr hn fun w g x fl ka ha wr C B wad R => x137n R hn q) (mc_b fun w g m kq hq ca ba wl ed wad t R hJ => y214a R hn hJ q)
  obtain ⟨⟨o1, o2, o3, o4, o5⟩, o6⟩ := hw i hi
  have hy := sW_eta (ws i)
  rcases ixr_c (a := 0) (b := 35) (by decide) (by decide) z2 with ⟨-, q⟩ | ⟨c, -, hc, rfl, -⟩
  · exact .bad 1 (by decide) (by decide) ok (cc_thr hn fun w g x fl ka ha wr C B wad R => x137c R hn hi q) (mc_b fun w g m kq hq ca ba wl ed wad t R hJ => y214b R hn hJ hi q)
  rcases ixr_c (a := 0) (b := 3) (by decide) (by decide) z3 with ⟨-, q⟩ | ⟨s, -, hs, rfl, -⟩
  · exact .bad 1 (by decide) (by decide) ok (cc_thr hn fun w g x fl ka ha wr C B wad R => x137s R hn hi hc q) (mc_b fun w g m kq hq ca ba wl ed wad t R hJ => y214c R hn hJ hi hc q)
  exact .good ok (cc_ask fun w g x fl ka ha wr C B wad R => x137 R hn hi hy o4 hc hs) (mc_b fun w g m kq hq ca ba wl ed wad t R hJ => y214 R hn hJ hi hy hc hs)
theorem j_may (ok : okS (kd, hr, cp, br, n, ws, mi, nd, dr, me, di, re)) (z1 z2 : Int32) : JN Value.int 138 183 exA 1 [.int z1, .int z2] (kd, hr, cp, br, n, ws, mi, nd, dr, me, di, re) := by
  obtain ⟨hk, hh, hz, hn, hm, hd, hw⟩ := id ok
  rcases wk_c hn z1 with q | ⟨i, hi, rfl⟩
  · exact .bad 1 (by decide) (by decide) ok (cc_thr hn fun w g x fl ka ha wr C B wad R => x138n R hn q) (mc_b fun w g m kq hq ca ba wl ed wad t R hJ => y183a R hn hJ q)
  have hy := sW_eta (ws i)
  rcases ixr_c (a := 0) (b := 143) (by decide) (by decide) z2 with ⟨-, q⟩ | ⟨p, -, hp, rfl, -⟩
  · exact .bad 1 (by decide) (by decide) ok (cc_thr hn fun w g x fl ka ha wr C B wad R => x138p R hn hi q) (mc_b fun w g m kq hq ca ba wl ed wad t R hJ => y183b R hn hJ hi q)
  exact .good ok (cc_ask fun w g x fl ka ha wr C B wad R => x138 R hn hi hy hp) (mc_b fun w g m kq hq ca ba wl ed wad t R hJ => y183 R hn hJ hi hy hp)
theorem j_where (ok : okS (kd, hr, cp, br, n, ws, mi, nd, dr, me, di, re)) (z1 z2 : Int32) : JN Value.long 139 184 exA 2 [.int z1, .int z2] (kd, hr, cp, br, n, ws, mi, nd, dr, me, di, re) := by
  obtain ⟨hk, hh, hz, hn, hm, hd, hw⟩ := id ok
  rcases wk_c hn z1 with q | ⟨i, hi, rfl⟩
  · exact .bad 1 (by decide) (by decide) ok (cc_thr hn fun w g x fl ka ha wr C B wad R => x139n R hn q) (mc_b fun w g m kq hq ca ba wl ed wad t R hJ => y184a R hn hJ q)
  have hy := sW_eta (ws i)
  rcases ixr_c (a := 0) (b := 3) (by decide) (by decide) z2 with ⟨-, q⟩ | ⟨f, -, hf, rfl, -⟩
  · exact .bad 2 (by decide) (by decide) ok (cc_thr hn fun w g x fl ka ha wr C B wad R => x139f R hn hi q) (mc_b fun w g m kq hq ca ba wl ed wad t R hJ => y184b R hn hJ hi q)
  exact .good ok (cc_ask fun w g x fl ka ha wr C B wad R => by
    obtain ⟨N, a, b⟩ := x139 R hn hi hy hf
    rw [bm_msk b] at a
    exact a) (mc_b fun w g m kq hq ca ba wl ed wad t R hJ => y184 R hn hJ hi hy hf)
theorem j_way (ok : okS (kd, hr, cp, br, n, ws, mi, nd, dr, me, di, re)) (z1 z2 z3 : Int32) : JN Value.int 140 228 exA 1 [.int z1, .int z2, .int z3] (kd, hr, cp, br, n, ws, mi, nd, dr, me, di, re) := by
  obtain ⟨hk, hh, hz, hn, hm, hd, hw⟩ := id ok
  rcases wk_c hn z1 with q | ⟨i, hi, rfl⟩
  · exact .bad 1 (by decide) (by decide) ok (cc_thr hn fun w g x fl ka ha wr C B wad R => x140n R hn q) (mc_b fun w g m kq hq ca ba wl ed wad t R hJ => y228a R hn hJ q)
  obtain ⟨⟨o1, o2, o3, o4, o5⟩, o6⟩ := hw i hi
  have hy := sW_eta (ws i)
  rcases ixr_c (a := 0) (b := 35) (by decide) (by decide) z2 with ⟨-, q⟩ | ⟨c, -, hc, rfl, -⟩
  · exact .bad 1 (by decide) (by decide) ok (cc_thr hn fun w g x fl ka ha wr C B wad R => x140f R hn hi q) (mc_b fun w g m kq hq ca ba wl ed wad t R hJ => y228b R hn hJ hi q)
  rcases ixr_c (a := 0) (b := 35) (by decide) (by decide) z3 with ⟨-, q⟩ | ⟨s, -, hs, rfl, -⟩
  · exact .bad 1 (by decide) (by decide) ok (cc_thr hn fun w g x fl ka ha wr C B wad R => x140t R hn hi hc q) (mc_b fun w g m kq hq ca ba wl ed wad t R hJ => y228c R hn hJ hi hc q)
  exact .good ok (cc_ask fun w g x fl ka ha wr C B wad R => x140 R hn hi hy hc hs) (mc_b fun w g m kq hq ca ba wl ed wad t R hJ => y228 R hn hJ hi hy hc hs o4)
theorem j_safety (ok : okS (kd, hr, cp, br, n, ws, mi, nd, dr, me, di, re)) (z1 z2 : Int32) : JN Value.int 223 264 exA 2 [.int z1, .int z2] (kd, hr, cp, br, n, ws, mi, nd, dr, me, di, re) := by
  obtain ⟨hk, hh, hz, hn, hm, hd, hw⟩ := id ok
  rcases wk_c hn z1 with q | ⟨i, hi, rfl⟩
  · exact .bad 1 (by decide) (by decide) ok (cc_thr hn fun w g x fl ka ha wr C B wad R => x223n R hn q) (mc_b fun w g m kq hq ca ba wl ed wad t R hJ => y264a R hn hJ q)
  obtain ⟨⟨o1, o2, o3, o4, o5⟩, o6⟩ := hw i hi
  have hy := sW_eta (ws i)
  rcases ixr_c (a := 0) (b := 3) (by decide) (by decide) z2 with ⟨-, q⟩ | ⟨k, -, hk2, rfl, -⟩
  · exact .bad 2 (by decide) (by decide) ok (cc_thr hn fun w g x fl ka ha wr C B wad R => x223k R hn hi q) (mc_b fun w g m kq hq ca ba wl ed wad t R hJ => y264b R hn hJ hi q)
  exact .good ok (cc_ask fun w g x fl ka ha wr C B wad R => x223 R hn hi hy o4 o1 hk2) (mc_b fun w g m kq hq ca ba wl ed wad t R hJ => y264 R hn hJ hi hy hk2 o4 o1)
theorem j_doubt (ok : okS (kd, hr, cp, br, n, ws, mi, nd, dr, me, di, re)) (z1 : Int32) : JN Value.double 91 185 exA 1 [.int z1] (kd, hr, cp, br, n, ws, mi, nd, dr, me, di, re) := by
  obtain ⟨hk, hh, hz, hn, hm, hd, hw⟩ := id ok
  rcases wk_c hn z1 with q | ⟨i, hi, rfl⟩
  · exact .bad 1 (by decide) (by decide) ok (cc_thr hn fun w g x fl ka ha wr C B wad R => x91n R hn q) (mc_b fun w g m kq hq ca ba wl ed wad t R hJ => y185a R hn hJ q)
  have hy := sW_eta (ws i)
  exact .good ok (cc_ask fun w g x fl ka ha wr C B wad R => x91 R hn hi hy) (mc_b fun w g m kq hq ca ba wl ed wad t R hJ => y185 R hn hJ hi hy)
theorem j_worst (ok : okS (kd, hr, cp, br, n, ws, mi, nd, dr, me, di, re)) (z1 z2 : Int32) : JN Value.int 202 247 exA 2 [.int z1, .int z2] (kd, hr, cp, br, n, ws, mi, nd, dr, me, di, re) := by
  obtain ⟨hk, hh, hz, hn, hm, hd, hw⟩ := id ok
  rcases wk_c hn z1 with q | ⟨i, hi, rfl⟩
  · exact .bad 1 (by decide) (by decide) ok (cc_thr hn fun w g x fl ka ha wr C B wad R => x202n R hn q) (mc_b fun w g m kq hq ca ba wl ed wad t R hJ => y247a R hn hJ q)
  obtain ⟨⟨o1, o2, o3, o4, o5⟩, o6⟩ := hw i hi
  have hy := sW_eta (ws i)
  rcases ixr_c (a := 0) (b := 3) (by decide) (by decide) z2 with ⟨-, q⟩ | ⟨k, -, hk2, rfl, -⟩
  · exact .bad 2 (by decide) (by decide) ok (cc_thr hn fun w g x fl ka ha wr C B wad R => x202k R hn hi q) (mc_b fun w g m kq hq ca ba wl ed wad t R hJ => y247b R hn hJ hi q)
  exact .good ok (cc_ask fun w g x fl ka ha wr C B wad R => x202 R hn hi hy hk2) (mc_b fun w g m kq hq ca ba wl ed wad t R hJ => y247 R hn hJ hi hy hk2 o4)
theorem j_best (ok : okS (kd, hr, cp, br, n, ws, mi, nd, dr, me, di, re)) (z1 : Int32) : JN Value.int 203 252 exA 1 [.int z1] (kd, hr, cp, br, n, ws, mi, nd, dr, me, di, re) := by
  obtain ⟨hk, hh, hz, hn, hm, hd, hw⟩ := id ok
  rcases wk_c hn z1 with q | ⟨i, hi, rfl⟩
  · exact .bad 1 (by decide) (by decide) ok (cc_thr hn fun w g x fl ka ha wr C B wad R => x203n R hn q) (mc_b fun w g m kq hq ca ba wl ed wad t R hJ => y252a R hn hJ q)
  obtain ⟨⟨o1, o2, o3, o4, o5⟩, o6⟩ := hw i hi
  have hy := sW_eta (ws i)
  exact .good ok (cc_ask fun w g x fl ka ha wr C B wad R => x203 R hn hi hy) (mc_b fun w g m kq hq ca ba wl ed wad t R hJ => y252 R hn hJ hi hy o4)
theorem j_wouldFeel (ok : okS (kd, hr, cp, br, n, ws, mi, nd, dr, me, di, re)) (z1 z2 : Int32) : JN Value.int 170 231 exA 2 [.int z1, .int z2] (kd, hr, cp, br, n, ws, mi, nd, dr, me, di, re) := by
  obtain ⟨hk, hh, hz, hn, hm, hd, hw⟩ := id ok
  rcases wk_c hn z1 with q | ⟨i, hi, rfl⟩
  · exact .bad 1 (by decide) (by decide) ok (cc_thr hn fun w g x fl ka ha wr C B wad R => x170n R hn q) (mc_b fun w g m kq hq ca ba wl ed wad t R hJ => y231a R hn hJ q)
  obtain ⟨⟨o1, o2, o3, o4, o5⟩, o6⟩ := hw i hi
  have hy := sW_eta (ws i)
  rcases ixr_c (a := 0) (b := 7) (by decide) (by decide) z2 with ⟨-, q⟩ | ⟨k, -, hk2, rfl, -⟩
  · exact .bad 2 (by decide) (by decide) ok (cc_thr hn fun w g x fl ka ha wr C B wad R => x170k R hn hi q) (mc_b fun w g m kq hq ca ba wl ed wad t R hJ => y231b R hn hJ hi q)
  exact .good ok (cc_ask fun w g x fl ka ha wr C B wad R => x170 R hn hi hy hk2) (mc_b fun w g m kq hq ca ba wl ed wad t R hJ => y231 R hn hJ hi hy hk2 o4)
theorem j_wouldBe (ok : okS (kd, hr, cp, br, n, ws, mi, nd, dr, me, di, re)) (z1 z2 : Int32) : JN Value.int 204 232 exA 2 [.int z1, .int z2] (kd, hr, cp, br, n, ws, mi, nd, dr, me, di, re) := by
  obtain ⟨hk, hh, hz, hn, hm, hd, hw⟩ := id ok
  rcases ixr_c (a := 0) (b := 35) (by decide) (by decide) z1 with ⟨-, q⟩ | ⟨c, -, hc, rfl, -⟩
  · exact .bad 1 (by decide) (by decide) ok (cc_thr hn fun w g x fl ka ha wr C B wad R => x204c q) (mc_b fun w g m kq hq ca ba wl ed wad t R hJ => y232a R hn hJ q)
  rcases ixr_c (a := 0) (b := 3) (by decide) (by decide) z2 with ⟨-, q⟩ | ⟨f, -, hf, rfl, -⟩
  · exact .bad 2 (by decide) (by decide) ok (cc_thr hn fun w g x fl ka ha wr C B wad R => x204f hc q) (mc_b fun w g m kq hq ca ba wl ed wad t R hJ => y232b R hn hJ hc q)
  exact .good ok (cc_ask fun w g x fl ka ha wr C B wad R => x204 R hk hh hm hc hf) (mc_b fun w g m kq hq ca ba wl ed wad t R hJ => y232 R hn hJ hc hf hk hh hm)
theorem j_isSound (ok : okS (kd, hr, cp, br, n, ws, mi, nd, dr, me, di, re)) : JN Value.int 224 215 exA 0 [] (kd, hr, cp, br, n, ws, mi, nd, dr, me, di, re) := by
  obtain ⟨hk, hh, hz, hn, hm, hd, hw⟩ := id ok
  have ho : ∀ i, i < n → okY (ws i) := fun i hi => (hw i hi).1
  have e : sndRS kd hr (mi / 60 % 24) n ws = sndS kd hr mi n ws := sndS_eq hn (fun i hi => (hw i hi).2) (fun i hi => (ho i hi).2.2.2.1)
  exact .good ok (cc_ask fun w g x fl ka ha wr C B wad R => x224 R hn hk hh hm ho) (mc_b fun w g m kq hq ca ba wl ed wad t R hJ => e ▸ y215 R hn hJ hk hh hm ho)
theorem j_digest (ok : okS (kd, hr, cp, br, n, ws, mi, nd, dr, me, di, re)) : JN Value.long 250 265 exA 0 [] (kd, hr, cp, br, n, ws, mi, nd, dr, me, di, re) := by
  obtain ⟨hk, hh, hz, hn, hm, hd, hw⟩ := id ok
  have ho : ∀ i, i < n → okY (ws i) := fun i hi => (hw i hi).1
  exact .good ok (cc_ask fun w g x fl ka ha wr C B wad R => x250 R hn hk hh hm ho) (mc_b fun w g m kq hq ca ba wl ed wad t R hJ => y265 R hn hJ hk hh hm ho hz (fun i hi => (hw i hi).2))
end JU
end
