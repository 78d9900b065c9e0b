/-! THE LAW'S OWN STATE; one call on both sides. Mine. -/
section LW
variable {w w' : am_Wd} {g g' : Nat → Nat} {x m u b L : Nat} {xs : Nat → Int32} {S S' : sS} {t k s k' s' : Nat}
theorem wk_g {g g' : Nat → Nat} {i a : Nat} {y : sW} (h : Wkv w g i a y) (hg : ∀ b, g b ≠ 0 → g' b = g b) : Wkv w g' i a y := h.g hg
theorem rc_stp (ok : okS S) (R : RC w g x S) (hJ : gJ w g) (p : stp 100 800 g g' k s w w') : RC w' g' x S := by
  obtain ⟨kd, hr, cp, br, n, ws, mi, nd, dr, me, di, re⟩ := S
  obtain ⟨-, -, -, hn, -⟩ := ok
  obtain ⟨fl, ka, ha, wr, C, B, wad, R⟩ := R
  have R1 := rc_fr (w' := w') R hn fun b h1 h2 => p.1 b (lt_J hJ rfl (by omega)) (Or.inl (by omega))
  obtain ⟨h1, h2, h3, h4, h5, h6, g1, g2, g3, g4, g5⟩ := R1
  have hg := stp_g hJ p
  exact ⟨fl, ka, ha, wr, C, B, wad, h1, h2, h3, h4, h5, fun i hi => (h6 i hi).g hg, (hg x (by omega)).trans g1, (hg fl (by omega)).trans g2, (hg ka (by omega)).trans g3, (hg ha (by omega)).trans g4, (hg wr (by omega)).trans g5⟩
theorem rn_stp (ok : okS S) (R : RN w g m S t) (hJ : gJ w g) (p : stp 1 40 g g' k s w w') : RN w' g' m S t := by
  obtain ⟨kd, hr, cp, br, n, ws, mi, nd, dr, me, di, re⟩ := S
  obtain ⟨-, -, -, hn, -⟩ := ok
  obtain ⟨kq, hq, ca, ba, wl, ed, wad, R⟩ := R
  exact ⟨kq, hq, ca, ba, wl, ed, wad, rm_stp R hn hJ p⟩
/-- the law's own object written -/
theorem rc_u {e : am_En} (ok : okS S) (R : RC w g x S) (gu : g u = 900) : RC (am_pt w u e) g x S := by
  obtain ⟨kd, hr, cp, br, n, ws, mi, nd, dr, me, di, re⟩ := S
  obtain ⟨-, -, -, hn, -⟩ := ok
  obtain ⟨fl, ka, ha, wr, C, B, wad, R⟩ := R
  exact ⟨fl, ka, ha, wr, C, B, wad, rc_fr R hn fun b h1 h2 => pt_n (fun q => by subst q; omega)⟩
theorem rn_u {e : am_En} (ok : okS S) (R : RN w g m S t) (gu : g u = 900) : RN (am_pt w u e) g m S t := by
  obtain ⟨kd, hr, cp, br, n, ws, mi, nd, dr, me, di, re⟩ := S
  obtain ⟨-, -, -, hn, -⟩ := ok
  obtain ⟨kq, hq, ca, ba, wl, ed, wad, R⟩ := R
  exact ⟨kq, hq, ca, ba, wl, ed, wad, rm_fr R hn (fun b h1 h2 => pt_n (fun q => by subst q; omega)) rfl⟩
theorem st_u {e : am_En} (h : StW w g) (gu : g u = 900) : StW (am_pt w u e) g := by
  obtain ⟨⟨o, xf, ⟨a1, a2, a3⟩, a4, a5⟩, h2, d, f, d1, d2, d3, d4, d5⟩ := h
  have n0 : ∀ {c : Nat}, g c = 0 → (am_pt w u e).1 c = w.1 c := fun hc => pt_n (fun q => by subst q; omega)
  refine ⟨⟨o, xf, ⟨a1, (n0 a5).trans a2, a3⟩, a4, a5⟩, fun r r1 r2 => ?_, d, f, d1, (n0 d4).trans d2, d3, d4, d5⟩
  obtain ⟨k, v, f, b1, b2, b3, b4, b5, b6, b7, b8⟩ := h2 r r1 r2
  exact ⟨k, v, f, b1, (n0 b7).trans b2, (n0 b8).trans b3, b4, b5, b6, b7, b8⟩
/-- what holds at the law's loop: b its script, x the class's object, m the reference's, u its own -/
def LI (b L : Nat) (xs : Nat → Int32) (x m u : Nat) (S : sS) (w : am_Wd) (g : Nat → Nat) (k s : Nat) : Prop := okS S ∧ RC w g x S ∧ (∃ t, RN w g m S t) ∧ gJ w g ∧ StW w g ∧ (cI w b 8 L xs ∧ b < w.2.1 ∧ g b = 0 ∧ L ≤ 2560) ∧ (∃ (a : Int64) (d : UInt64) (v : Value), cO w u 9 [.long a, .double d, v]) ∧ g u = 900 ∧ w.2.1 ≤ k ∧ w.2.2.1 ≤ s
/-- the same, but that the reference isn't asked yet -/
def LH (b L : Nat) (xs : Nat → Int32) (x m u : Nat) (S S' : sS) (w : am_Wd) (g : Nat → Nat) (k s : Nat) : Prop := okS S' ∧ RC w g x S' ∧ (∃ t, RN w g m S t) ∧ gJ w g ∧ StW w g ∧ (cI w b 8 L xs ∧ b < w.2.1 ∧ g b = 0 ∧ L ≤ 2560) ∧ (∃ (a : Int64) (d : UInt64) (v : Value), cO w u 9 [.long a, .double d, v]) ∧ g u = 900 ∧ w.2.1 ≤ k ∧ w.2.2.1 ≤ s
theorem rc_kx (R : RC w g x S) : am_kf w x 8 = some () := by
  obtain ⟨kd, hr, cp, br, n, ws, mi, nd, dr, me, di, re⟩ := S
  obtain ⟨fl, ka, ha, wr, C, B, wad, R⟩ := R
  exact rc_kf R
theorem rn_km (R : RN w g m S t) : am_kf w m 11 = some () := by
  obtain ⟨kd, hr, cp, br, n, ws, mi, nd, dr, me, di, re⟩ := S
  obtain ⟨kq, hq, ca, ba, wl, ed, wad, R⟩ := R
  exact rm_kf R
theorem rn_th (R : RN w g m S t) : am_gf w m 11 0 = some (.int (nI t)) := by
  obtain ⟨kd, hr, cp, br, n, ws, mi, nd, dr, me, di, re⟩ := S
  obtain ⟨kq, hq, ca, ba, wl, ed, wad, R⟩ := R
  exact gfc R.1
theorem rd (h : cI w b 8 L xs ∧ b < w.2.1 ∧ g b = 0 ∧ L ≤ 2560) {i : Nat} (hi : i < L) : am_ri 0 w b (nI i) = some (xs i) := ric h.1 rfl hi (by have := h.2.2.2; omega)
/-- the class's step, and the law's object written -/
theorem lh_of (h : LI b L xs x m u S w g k s) (ok' : okS S') (R' : RC w' g' x S') (p : stp 1 40 g g' 100 200 w w') : LH b L xs x m u S S' w' g' (k + 100) (s + 200) := by
  obtain ⟨ok, R, ⟨t, N⟩, hJ, hS, ⟨b1, b2, b3, b4⟩, ⟨a, d, v, hu⟩, gu, hk, hs⟩ := h
  have lu : u < w.2.1 := lt_J hJ gu (by decide)
  obtain ⟨p1, p2, p3, p4, p5, p6, p7, p8, p9⟩ := id p
  exact ⟨ok', R', ⟨t, rn_stp ok N hJ p⟩, p4, hS.stp (by decide) p, ⟨cI_of b1 (p1 b b2 (by omega)), by omega, by rw [p2 b b2]; exact b3, b4⟩, ⟨a, d, v, cO_of hu (p1 u lu (by omega))⟩, by rw [p2 u lu]; exact gu, by omega, by omega⟩
theorem lh_u (h : LH b L xs x m u S S' w g k s) (ok : okS S) {a : Int64} {d : UInt64} {v : Value} : LH b L xs x m u S S' (am_pt w u (.inr (9, [.long a, .double d, v]))) g k s := by
  obtain ⟨ok', R, ⟨t, N⟩, hJ, hS, ⟨b1, b2, b3, b4⟩, -, gu, hk, hs⟩ := h
  exact ⟨ok', rc_u ok' R gu, ⟨t, rn_u ok N gu⟩, hJ, st_u hS gu, ⟨cI_of b1 (pt_n (fun q => by subst q; omega)), b2, b3, b4⟩, ⟨a, d, v, pt_s⟩, gu, hk, hs⟩
/-- the reference's step -/
theorem li_of (h : LH b L xs x m u S S' w g k s) (N' : RN w' g' m S' t) (p : stp 100 800 g g' 500 13000 w w') : LI b L xs x m u S' w' g' (k + 500) (s + 13000) := by
  obtain ⟨ok', R, -, hJ, hS, ⟨b1, b2, b3, b4⟩, ⟨a, d, v, hu⟩, gu, hk, hs⟩ := h
  have lu : u < w.2.1 := lt_J hJ gu (by decide)
  obtain ⟨p1, p2, p3, p4, p5, p6, p7, p8, p9⟩ := id p
  exact ⟨ok', rc_stp ok' R hJ p, ⟨t, N'⟩, p4, hS.stp (by decide) p, ⟨cI_of b1 (p1 b b2 (by omega)), by omega, by rw [p2 b b2]; exact b3, b4⟩, ⟨a, d, v, cO_of hu (p1 u lu (by omega))⟩, by rw [p2 u lu]; exact gu, by omega, by omega⟩
theorem li_wk (h : LI b L xs x m u S w g k s) (hk : k ≤ k') (hs : s ≤ s') : LI b L xs x m u S w g k' s' := by
  obtain ⟨h1, h2, h3, h4, h5, h6, h7, h8, h9, h0⟩ := h
  exact ⟨h1, h2, h3, h4, h5, h6, h7, h8, Nat.le_trans h9 hk, Nat.le_trans h0 hs⟩
/-- one call on both sides, by its wrapper -/
theorem both {α : Type} {F : α → Value} {O : α → Int64 → UInt64 → Value → List Value} {Wm Mc Mm : Nat} {ex : Nat → Nat} {Bd : Nat} {as : List Value} (hO : ∀ v a d s, ∃ a' d' s', O v a d s = [.long a', .double d', s']) (hw : WP F O Wm Mc ex Bd as) (hj : okS S → JN F Mc Mm ex Bd as S) (h : LI b L xs x m u S w g k s) :
    ∃ (th : Nat) (v v' : α) (S' : sS) (w2 w3 : am_Wd) (g3 : Nat → Nat), th ≤ Bd ∧ (th = 0 → v' = v) ∧ am_x Wm (.ref x :: (as ++ [.ref u])) w = some (.inl (some (.int (nI th))), w2) ∧ am_kf w2 m 11 = some () ∧ (∀ i, i < L → am_ri 0 w2 b (nI i) = some (xs i)) ∧ am_x Mm (.ref m :: as) w2 = some (.inl (some (F v')), w3) ∧ am_kf w3 m 11 = some () ∧ am_gf w3 m 11 0 = some (.int (nI th)) ∧ (th = 0 → ∃ a d s, cO w3 u 9 (O v a d s)) ∧ LI b L xs x m u S' w3 g3 (k + 600) (s + 13200) := by
  have h0 := h
  obtain ⟨ok, R, ⟨t, N⟩, hJ, hS, hb, ⟨a, d, sv, hu⟩, gu, hk, hs⟩ := h
  obtain ⟨th, v, v', S', ok', hB, hv, hc, hm⟩ := hj ok
  obtain ⟨w1, g1, a1, R1, p1⟩ := hc w g x R hJ hS
  have h1 := lh_of h0 ok' R1 p1
  have lu : u < w.2.1 := lt_J hJ gu (by decide)
  have hu1 : cO w1 u 9 [.long a, .double d, sv] := cO_of hu (p1.1 u lu (by omega))
  obtain ⟨w2, a2, q1, q2⟩ := hw w w1 x u th v (rc_kx R) hB a1 a d sv hu1
  have h2 : LH b L xs x m u S S' w2 g1 (k + 100) (s + 200) ∧ (th = 0 → ∃ a d s, cO w2 u 9 (O v a d s)) := by
    by_cases e : th = 0
    · rw [q1 e]
      obtain ⟨a', d', s', e'⟩ := hO v a d sv
      rw [e']
      exact ⟨lh_u h1 ok, fun _ => ⟨a, d, sv, by rw [e']; exact pt_s⟩⟩
    · rw [q2 e]
      exact ⟨h1, fun z => absurd z e⟩
  obtain ⟨h2, hO2⟩ := h2
  obtain ⟨-, -, ⟨t2, N2⟩, hJ2, hS2, hb2, -, gu2, -⟩ := id h2
  obtain ⟨w3, g3, a3, R3, p3⟩ := hm w2 g1 m t2 N2 hJ2 hS2
  have h3 := li_wk (k' := k + 600) (s' := s + 13200) (li_of h2 R3 p3) (by omega) (by omega)
  have lu2 : u < w2.2.1 := lt_J hJ2 gu2 (by decide)
  refine ⟨th, v, v', S', w2, w3, g3, hB, hv, a2, rn_km N2, fun i hi => rd hb2 hi, a3, rn_km R3, rn_th R3, fun e => ?_, h3⟩
  obtain ⟨a', d', s', c⟩ := hO2 e
  exact ⟨a', d', s', cO_of c (p3.1 u lu2 (by omega))⟩
/-- one call on both sides, straight -/
theorem both0 {α : Type} {F : α → Value} {Mc Mm : Nat} {ex : Nat → Nat} (hj : okS S → JN F Mc Mm ex 0 [] S) (h : LI b L xs x m u S w g k s) :
    ∃ (v : α) (S' : sS) (w2 w3 : am_Wd) (g3 : Nat → Nat), am_kf w x 8 = some () ∧ am_x Mc [.ref x] w = some (.inl (some (F v)), w2) ∧ am_kf w2 m 11 = some () ∧ am_x Mm [.ref m] w2 = some (.inl (some (F v)), w3) ∧ LI b L xs x m u S' w3 g3 (k + 600) (s + 13200) := by
  have h0 := h
  obtain ⟨ok, R, ⟨t, N⟩, hJ, hS, hb, ⟨a, d, sv, hu⟩, gu, hk, hs⟩ := h
  obtain ⟨th, v, v', S', ok', hB, hv, hc, hm⟩ := hj ok
  obtain rfl : th = 0 := by omega
  obtain rfl := hv rfl
  obtain ⟨w1, g1, a1, R1, p1⟩ := hc w g x R hJ hS
  have h1 := lh_of h0 ok' R1 p1
  obtain ⟨-, -, ⟨t2, N2⟩, hJ2, hS2, hb2, -, gu2, -⟩ := id h1
  obtain ⟨w3, g3, a3, R3, p3⟩ := hm w1 g1 m t2 N2 hJ2 hS2
  exact ⟨v', S', w1, w3, g3, rc_kx R, a1, rn_km N2, a3, li_wk (li_of h1 R3 p3) (by omega) (by omega)⟩
/-- row on both sides -/
theorem wr_row {w w1 : am_Wd} {x u th : Nat} {r : am_Out} {z : Int32} (kx : am_kf w x 8 = some ()) (hB : th ≤ 1) (hc : am_x 243 [.ref x, .int z] w = some (r, w1)) {T : Nat → Int32} {lo : Nat} (r0 : th = 0 → ∃ v, r = .inl (some (.ref v)) ∧ tS w1 lo v 11 T) (r1 : th ≠ 0 → r = .inr (am_xn (exA th))) {a : Int64} {d : UInt64} {s : Value} (hu : cO w1 u 9 [.long a, .double d, s]) : ∃ w2, am_x 257 [.ref x, .int z, .ref u] w = some (.inl (some (.int (nI th))), w2) ∧ (w2 = w1 ∨ ∃ s', w2 = am_pt w1 u (.inr (9, [.long a, .double d, s']))) ∧ (th = 0 → ∃ v, tS w1 lo v 11 T ∧ w2 = am_pt w1 u (.inr (9, [.long a, .double d, .ref v]))) := by
  rcases (show th = 0 ∨ th = 1 by omega) with rfl | rfl
  · obtain ⟨v, rfl, tv⟩ := r0 rfl
    have p1 : am_pf w1 u 9 2 (.ref v) = some (am_pt w1 u (.inr (9, [.long a, .double d, .ref v]))) := pfc hu (by show 2 < 3; decide) (by decide)
    refine ⟨_, ?_, Or.inr ⟨.ref v, rfl⟩, fun _ => ⟨v, tv, rfl⟩⟩
    simp only [bx257, bk257_0, kx, hc, af_v, bk257_6, p1, bk257_9, Option.bind_some, bct_v, bct_t, otl_s, otl_n, List.cons_append, List.nil_append, List.getElem?_cons_zero, List.getElem?_cons_succ, ↓reduceIte]
  · have e1 := r1 (by decide)
    subst e1
    have hc : am_x 243 [.ref x, .int z] w = some (.inr (am_xn 0), w1) := hc
    refine ⟨w1, ?_, Or.inl rfl, fun h => absurd h (by decide)⟩
    have e : am_hd 257 3 (am_xn 0) = some 13 := by decide +kernel
    have nr : am_nrm 257 13 [none, none, none, none] = [none, none, none, none] := rfl
    simp only [bx257, bk257_0, kx, hc, af_e e, nr, bk257_13, Option.bind_some, bct_v, bct_t, otl_s, otl_n, List.cons_append, List.nil_append, List.getElem?_cons_zero, List.getElem?_cons_succ, ↓reduceIte]
theorem bothR {z : Int32} (hj : okS S → JR z S) (h : LI b L xs x m u S w g k s) :
    ∃ (th v : Nat) (w2 w3 : am_Wd) (g3 : Nat → Nat), th ≤ 1 ∧ am_x 257 [.ref x, .int z, .ref u] w = some (.inl (some (.int (nI th))), w2) ∧ am_kf w2 m 11 = some () ∧ (∀ i, i < L → am_ri 0 w2 b (nI i) = some (xs i)) ∧ am_x 246 [.ref m, .int z] w2 = some (.inl (some (.ref v)), w3) ∧ am_kf w3 m 11 = some () ∧ am_gf w3 m 11 0 = some (.int (nI th)) ∧ (th = 0 → ∃ v1 T, am_gf w3 u 9 2 = some (.ref v1) ∧ tS w3 0 v1 11 T ∧ tS w3 0 v 11 T) ∧ LI b L xs x m u S w3 g3 (k + 600) (s + 13200) := by
  have h0 := h
  obtain ⟨ok, R, ⟨t, N⟩, hJ, hS, hb, ⟨a, d, sv, hu⟩, gu, hk, hs⟩ := h
  obtain ⟨th, T, hB, hc, hm⟩ := hj ok
  obtain ⟨w1, r, a1, R1, p1, r0, r1⟩ := hc w g x R hJ hS
  have h1 := lh_of h0 ok R1 p1
  have lu : u < w.2.1 := lt_J hJ gu (by decide)
  have hu1 : cO w1 u 9 [.long a, .double d, sv] := cO_of hu (p1.1 u lu (by omega))
  obtain ⟨w2, a2, q, q0⟩ := wr_row (rc_kx R) hB a1 r0 r1 hu1
  have h2 : LH b L xs x m u S S w2 g (k + 100) (s + 200) := by
    rcases q with rfl | ⟨s', rfl⟩
    · exact h1
    · exact lh_u h1 ok
  obtain ⟨-, -, ⟨t2, N2⟩, hJ2, hS2, hb2, -, gu2, -⟩ := id h2
  obtain ⟨w3, v, a3, R3, p3, t3⟩ := hm w2 g m t2 N2 hJ2 hS2
  have lu2 : u < w2.2.1 := lt_J hJ2 gu2 (by decide)
  refine ⟨th, v, w2, w3, g, hB, a2, rn_km N2, fun i hi => rd hb2 hi, a3, rn_km R3, rn_th R3, fun e => ?_, li_wk (li_of h2 R3 p3) (by omega) (by omega)⟩
  obtain ⟨v1, tv, rfl⟩ := q0 e
  have c2 : cO w3 u 9 [.long a, .double d, .ref v1] := cO_of (w := am_pt w1 u (.inr (9, [.long a, .double d, .ref v1]))) pt_s (p3.1 u lu2 (by omega))
  refine ⟨v1, T, gfc c2, ?_, tS_lo (t3 e) (Nat.zero_le _)⟩
  obtain ⟨y, f, t4, t5, t6, t7, t8, t9, t10⟩ := tv
  have nv : v1 ≠ u := fun z => by omega
  have ny : y ≠ u := fun z => by omega
  have gv : g v1 = 0 := hJ v1 t7
  have gy : g y = 0 := hJ y t8
  exact ⟨y, f, cO_of t4 ((p3.1 v1 t9 (by omega)).trans (pt_n nv)), (p3.1 y t10 (by omega)).trans ((pt_n ny).trans t5), t6, Nat.zero_le _, Nat.zero_le _, Nat.lt_of_lt_of_le t9 (stp_le p3), Nat.lt_of_lt_of_le t10 (stp_le p3)⟩
theorem oI_f : ∀ v a d s, ∃ a' d' s', oI v a d s = [.long a', .double d', s'] := fun _ _ _ _ => ⟨_, _, _, rfl⟩
theorem oZ_f : ∀ v a d s, ∃ a' d' s', oZ v a d s = [.long a', .double d', s'] := fun _ _ _ _ => ⟨_, _, _, rfl⟩
theorem oJ_f : ∀ v a d s, ∃ a' d' s', oJ v a d s = [.long a', .double d', s'] := fun _ _ _ _ => ⟨_, _, _, rfl⟩
theorem oD_f : ∀ v a d s, ∃ a' d' s', oD v a d s = [.long a', .double d', s'] := fun _ _ _ _ => ⟨_, _, _, rfl⟩
end LW
