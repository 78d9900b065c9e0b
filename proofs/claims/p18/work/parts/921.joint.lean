/-! BOTH SIDES, call by call: what is done. Mine. -/
def exA : Nat → Nat
  | 1 => 0
  | 2 => 1
  | _ => 2
def exB : Nat → Nat
  | 1 => 0
  | _ => 2
def exC : Nat → Nat
  | 1 => 1
  | _ => 2
section JT
variable {kd hr : Nat → Nat} {cp br : Nat → Bool} {n : Nat} {ws : Nat → sW} {mi nd : Nat} {dr me di re : Int32}
theorem j_edge (ok : okS (kd, hr, cp, br, n, ws, mi, nd, dr, me, di, re)) (z1 z2 z3 z4 : Int32) : JN Value.int 166 176 exA 2 [.int z1, .int z2, .int z3, .int z4] (kd, hr, cp, br, n, ws, mi, nd, dr, me, di, re) := by
  obtain ⟨hk, hh, hz, hn, hm, hd, hw⟩ := id ok
  rcases ixr_c (a := 0) (b := 35) (by decide) (by decide) z1 with ⟨-, q⟩ | ⟨c, -, hc, rfl, -⟩
  · exact .bad 1 (by decide) (by decide) ok (cc_thr hn fun w g x fl ka ha wr C B wad R => x166c q) (mc_b fun w g m kq hq ca ba wl ed wad t R hJ => y176c R hn hJ q)
  rcases ixr_c (a := 0) (b := 3) (by decide) (by decide) z2 with ⟨-, q⟩ | ⟨s, -, hs, rfl, -⟩
  · exact .bad 1 (by decide) (by decide) ok (cc_thr hn fun w g x fl ka ha wr C B wad R => x166s hc q) (mc_b fun w g m kq hq ca ba wl ed wad t R hJ => y176s R hn hJ hc q)
  cases e : nb c s with
  | none => exact .bad 2 (by decide) (by decide) ok (cc_thr hn fun w g x fl ka ha wr C B wad R => x166o hc hs e) (mc_b fun w g m kq hq ca ba wl ed wad t R hJ => y176o R hn hJ hc hs e)
  | some d =>
    have e' : nb c s ≠ none := by rw [e]; exact fun q => nomatch q
    rcases ixr_c (a := 0) (b := 2) (by decide) (by decide) z3 with ⟨-, q⟩ | ⟨k, -, hk2, rfl, -⟩
    · exact .bad 2 (by decide) (by decide) ok (cc_thr hn fun w g x fl ka ha wr C B wad R => x166k hc hs e' q) (mc_b fun w g m kq hq ca ba wl ed wad t R hJ => y176k R hn hJ hc hs e q)
    rcases ixr_c (a := 0) (b := 16777215) (by decide) (by decide) z4 with ⟨-, q⟩ | ⟨h, -, hh2, rfl, -⟩
    · exact .bad 2 (by decide) (by decide) ok (cc_thr hn fun w g x fl ka ha wr C B wad R => x166h hc hs e' hk2 q) (mc_b fun w g m kq hq ca ba wl ed wad t R hJ => y176h R hn hJ hc hs e hk2 q)
    exact .good (S' := (up kd (plc c s) k, up hr (plc c s) (if k = 2 then h else 0), cp, br, n, ws, mi, nd, dr, me, di, re)) ⟨kdok_up hk hk2, hrok_up hh (by split <;> omega), mpz_up hz (plc_wi (by omega) (by omega) e'), hn, hm, hd, hw⟩ (cc_do fun w g x fl ka ha wr C B wad R => by
      obtain ⟨w', a, b, c⟩ := x166 R hc hs hk2 hh2 e'
      exact ⟨w', a, ⟨_, _, _, _, _, _, _, b⟩, c⟩) (mc_b fun w g m kq hq ca ba wl ed wad t R hJ => y176 R hn hJ hc hs hk2 hh2 e)
theorem j_lay (ok : okS (kd, hr, cp, br, n, ws, mi, nd, dr, me, di, re)) (z1 : Int32) : JN Value.int 200 206 exC 1 [.int z1] (kd, hr, cp, br, n, ws, mi, nd, dr, me, di, re) := by
  obtain ⟨hk, hh, hz, hn, hm, hd, hw⟩ := id ok
  rcases ixr_c (a := 0) (b := 126) (by decide) (by decide) z1 with ⟨-, q⟩ | ⟨s, -, hs, rfl, -⟩
  · exact .bad 1 (by decide) (by decide) ok (cc_thr hn fun w g x fl ka ha wr C B wad R => x200n q) (mc_b fun w g m kq hq ca ba wl ed wad t R hJ => y206n R hn hJ q)
  have lz := layN_z (z := (s, kd, hr)) hz 36 (Nat.le_refl _)
  obtain ⟨l1, l2⟩ := lay_ok (z := (s, kd, hr)) hk hh 36
  have ec : cnt 72 (fun k => wiP k && (layN 36 (s, kd, hr)).2.1 k == 1) = cnt 72 (fun k => (layN 36 (s, kd, hr)).2.1 k == 1) := cnt_cg 72 fun k hk => by
    cases q : wiP k with
    | true => rfl
    | false =>
      rw [lz k hk q]
      rfl
  exact .good (S' := ((layN 36 (s, kd, hr)).2.1, (layN 36 (s, kd, hr)).2.2, cp, br, n, ws, mi, nd, dr, me, di, re)) ⟨l1, l2, lz, hn, hm, hd, hw⟩ (cc_do fun w g x fl ka ha wr C B wad R => by
      obtain ⟨w', a, b, c⟩ := x200 R hk hh hs
      exact ⟨w', a, ⟨_, _, _, _, _, _, _, b⟩, c⟩) (mc_b fun w g m kq hq ca ba wl ed wad t R hJ => ec ▸ y206 R hn hJ hk hs)
theorem j_cell (ok : okS (kd, hr, cp, br, n, ws, mi, nd, dr, me, di, re)) (z1 : Int32) (u v : Bool) : JN Value.int 90 144 exA 1 [.int z1, .int (b2i u), .int (b2i v)] (kd, hr, cp, br, n, ws, mi, nd, dr, me, di, re) := by
  obtain ⟨hk, hh, hz, hn, hm, hd, hw⟩ := id ok
  rcases ixr_c (a := 0) (b := 35) (by decide) (by decide) z1 with ⟨-, q⟩ | ⟨c, -, hc, rfl, -⟩
  · exact .bad 1 (by decide) (by decide) ok (cc_thr hn fun w g x fl ka ha wr C B wad R => x90n q) (mc_b fun w g m kq hq ca ba wl ed wad t R hJ => y144n R hn hJ q)
  exact .good (S' := (kd, hr, up cp c u, up br c v, n, ws, mi, nd, dr, me, di, re)) ok (cc_do fun w g x fl ka ha wr C B wad R => by
    obtain ⟨w', C', B', a, b, c⟩ := x90 R hc u v
    exact ⟨w', a, ⟨_, _, _, _, _, _, _, b⟩, c⟩) (mc_b fun w g m kq hq ca ba wl ed wad t R hJ => y144 R hn hJ hc u v)
theorem j_walker (ok : okS (kd, hr, cp, br, n, ws, mi, nd, dr, me, di, re)) (z1 z2 z3 : Int32) (b : Bool) : JN Value.int 167 207 exA 3 [.int z1, .int z2, .int z3, .int (b2i b)] (kd, hr, cp, br, n, ws, mi, nd, dr, me, di, re) := by
  obtain ⟨hk, hh, hz, hn, hm, hd, hw⟩ := id ok
  rcases ixr_c (a := 0) (b := 35) (by decide) (by decide) z1 with ⟨-, q⟩ | ⟨c, -, hc, rfl, -⟩
  · exact .bad 1 (by decide) (by decide) ok (cc_thr hn fun w g x fl ka ha wr C B wad R => x167c q) (mc_b fun w g m kq hq ca ba wl ed wad t R hJ => y207c R hn hJ q)
  rcases ixr_c (a := 0) (b := 3) (by decide) (by decide) z2 with ⟨-, q⟩ | ⟨f, -, hf, rfl, -⟩
  · exact .bad 2 (by decide) (by decide) ok (cc_thr hn fun w g x fl ka ha wr C B wad R => x167f hc q) (mc_b fun w g m kq hq ca ba wl ed wad t R hJ => y207f R hn hJ hc q)
  rcases ixr_c (a := 1) (b := 500) (by decide) (by decide) z3 with ⟨-, q⟩ | ⟨h, h1, h5, rfl, -⟩
  · exact .bad 2 (by decide) (by decide) ok (cc_thr hn fun w g x fl ka ha wr C B wad R => x167h hc hf q) (mc_b fun w g m kq hq ca ba wl ed wad t R hJ => y207h R hn hJ hc hf q)
  by_cases e : n = 3
  · exact .bad 3 (by decide) (by decide) ok (cc_thr hn fun w g x fl ka ha wr C B wad R => x167n R e hc hf h1 h5) (mc_b fun w g m kq hq ca ba wl ed wad t R hJ => y207n R hn hJ e hc hf h1 h5)
  have n3 : n < 3 := by omega
  have hw' : ∀ i, i < n + 1 → okW (up ws n (c, c * 4 + f, h, nI 0, nI 0, nI 0, nI 0, may0 (c * 4 + f) b, fun _ => 0) i) := by
    intro i hi
    unfold up
    split
    · exact okW_new hc hf h5 b
    · exact hw i (by omega)
  exact .good (S' := (kd, hr, cp, br, n + 1, up ws n (c, c * 4 + f, h, nI 0, nI 0, nI 0, nI 0, may0 (c * 4 + f) b, fun _ => 0), mi, nd, dr, me, di, re)) ⟨hk, hh, hz, n3, hm, hd, hw'⟩ (by
    intro w g x R hJ hSt
    obtain ⟨fl, ka, ha, wr, C, B, wad, R⟩ := R
    obtain ⟨⟨o, xf, s1, s2, s3⟩, -⟩ := hSt
    obtain ⟨w', a1, a2, a3, a4⟩ := x167 R n3 hJ s1 s2 hc hf h1 h5 b
    refine ⟨w', gW g w.2.1 n, a1, ⟨_, _, _, _, _, _, _, a2⟩, a3, fun z hz => gW_o (Or.inl hz), fun z hz => ?_, fun z hz => ?_, ?_⟩
    · by_cases q : z < w.2.1 + 6
      · refine Or.inr ?_
        obtain ⟨t1, t2, t3, t4, t5, t6⟩ := gW_at g w.2.1 n
        rcases (show z = w.2.1 ∨ z = w.2.1 + 1 ∨ z = w.2.1 + 2 ∨ z = w.2.1 + 3 ∨ z = w.2.1 + 4 ∨ z = w.2.1 + 5 by omega) with rfl | rfl | rfl | rfl | rfl | rfl <;> omega
      · rw [gW_o (Or.inr (by omega))]
        exact Or.inl (hJ z hz)
    · rw [a4] at hz
      have hz : w.2.1 + 6 ≤ z := hz
      rw [gW_o (Or.inr hz)]
      exact hJ z (by omega)
    · rw [a4]
      exact ⟨Nat.le_add_right _ _, by show w.2.1 + 6 ≤ w.2.1 + 100; omega, Nat.le_add_right _ _, by show w.2.2.1 + 24 ≤ w.2.2.1 + 200; omega, rfl⟩) (mc_g fun w g m kq hq ca ba wl ed wad t R hJ => y207 R hn hJ n3 hc hf h1 h5 b)
theorem j_forward (ok : okS (kd, hr, cp, br, n, ws, mi, nd, dr, me, di, re)) (z1 : Int32) (f : Bool) : JN Value.int 239 260 exB 2 [.int z1, .int (b2i f)] (kd, hr, cp, br, n, ws, mi, nd, dr, me, di, re) := by
  obtain ⟨hk, hh, hz, hn, hm, hd, hw⟩ := id ok
  rcases wk_c hn z1 with q | ⟨i, hi, rfl⟩
  · exact .bad 1 (by decide) (by decide) ok (cc_thr hn fun w g x fl ka ha wr C B wad R => x239n R hn q) (mc_b fun w g m kq hq ca ba wl ed wad t R hJ => y260n R hn hJ q)
  obtain ⟨⟨o1, o2, o3, o4, o5⟩, o6⟩ := hw i hi
  have hy := sW_eta (ws i)
  by_cases h0 : refW mi (ws i) f = true ∨ barA (ws i).2.2.2.2.2.2.2.1 br = true
  · exact .bad 2 (by decide) (by decide) ok (cc_thr hn fun w g x fl ka ha wr C B wad R => x239r R hn hm hi hy o3 o1 f h0) (mc_b fun w g m kq hq ca ba wl ed wad t R hJ => y260r R hn hJ hm hi hy o3 o1 o4 f h0)
  have hr0 : refW mi (ws i) f = false := Bool.eq_false_iff.mpr fun q => h0 (Or.inl q)
  have hb0 : barA (ws i).2.2.2.2.2.2.2.1 br = false := Bool.eq_false_iff.mpr fun q => h0 (Or.inr q)
  have hm1 : mi < 3000 := (refW_f (hy ▸ hr0)).2
  exact .good (S' := (kd, hr, cp, br, n, up ws i (fwdY kd hr cp mi nd (ws i)), mi + 1, (if bmpB kd hr mi (ws i).2.1 = true then nd else if cp ((ws i).2.1 / 4) = true then (29 * nd + 13) % 127 else nd), (if bmpB kd hr mi (ws i).2.1 = true then dr else if cp ((ws i).2.1 / 4) = true then dr + nI 1 else dr), me, di, re)) ⟨hk, hh, hz, hn, by omega, by split; exact hd; split; exact Nat.mod_lt _ (by decide); exact hd, okW_up hw (okW_fwd (hw i hi))⟩ (cc_do fun w g x fl ka ha wr C B wad R => by
      obtain ⟨w', a, b, c⟩ := x239 R hn hk hh hd hm hi hy o2 o3 o1 f hr0 hb0
      exact ⟨w', a, ⟨_, _, _, _, _, _, _, b⟩, c⟩) (mc_g fun w g m kq hq ca ba wl ed wad t R hJ => y260 R hn hJ hk hh hd hm hi hy o2 o3 o1 o4 f hr0 hb0)
theorem j_turn (ok : okS (kd, hr, cp, br, n, ws, mi, nd, dr, me, di, re)) (z1 : Int32) (b f : Bool) : JN Value.int 240 261 exB 2 [.int z1, .int (b2i b), .int (b2i f)] (kd, hr, cp, br, n, ws, mi, nd, dr, me, di, re) := by
  obtain ⟨hk, hh, hz, hn, hm, hd, hw⟩ := id ok
  rcases wk_c hn z1 with q | ⟨i, hi, rfl⟩
  · exact .bad 1 (by decide) (by decide) ok (cc_thr hn fun w g x fl ka ha wr C B wad R => x240n R hn q) (mc_b fun w g m kq hq ca ba wl ed wad t R hJ => y261n R hn hJ q)
  obtain ⟨⟨o1, o2, o3, o4, o5⟩, o6⟩ := hw i hi
  have hy := sW_eta (ws i)
  cases hr0 : refW mi (ws i) f with
  | true => exact .bad 2 (by decide) (by decide) ok (cc_thr hn fun w g x fl ka ha wr C B wad R => x240r R hn hm hi hy o3 o1 f hr0) (mc_b fun w g m kq hq ca ba wl ed wad t R hJ => y261r R hn hJ hm hi hy o3 o1 o4 f hr0)
  | false =>
    have hm1 : mi < 3000 := (refW_f (hy ▸ hr0)).2
    exact .good (S' := (kd, hr, cp, br, n, up ws i (turnY b (ws i)), mi + 1, nd, dr, me, di, re)) ⟨hk, hh, hz, hn, by omega, hd, okW_up hw (okW_turn (hw i hi))⟩ (cc_do fun w g x fl ka ha wr C B wad R => by
      obtain ⟨w', a, b, c⟩ := x240 R hn hm hi hy o2 o3 o1 b f hr0
      exact ⟨w', a, ⟨_, _, _, _, _, _, _, b⟩, c⟩) (mc_g fun w g m kq hq ca ba wl ed wad t R hJ => y261 R hn hJ hm hi hy o2 o3 o1 o4 o5 b f hr0)
theorem j_feel (ok : okS (kd, hr, cp, br, n, ws, mi, nd, dr, me, di, re)) (z1 : Int32) (f : Bool) : JN Value.int 241 262 exB 2 [.int z1, .int (b2i f)] (kd, hr, cp, br, n, ws, mi, nd, dr, me, di, re) := by
  obtain ⟨hk, hh, hz, hn, hm, hd, hw⟩ := id ok
  rcases wk_c hn z1 with q | ⟨i, hi, rfl⟩
  · exact .bad 1 (by decide) (by decide) ok (cc_thr hn fun w g x fl ka ha wr C B wad R => x241n R hn q) (mc_b fun w g m kq hq ca ba wl ed wad t R hJ => y262n R hn hJ q)
  obtain ⟨⟨o1, o2, o3, o4, o5⟩, o6⟩ := hw i hi
  have hy := sW_eta (ws i)
  cases hr0 : refW mi (ws i) f with
  | true => exact .bad 2 (by decide) (by decide) ok (cc_thr hn fun w g x fl ka ha wr C B wad R => x241r R hn hm hi hy o3 o1 f hr0) (mc_b fun w g m kq hq ca ba wl ed wad t R hJ => y262r R hn hJ hm hi hy o3 o1 o4 f hr0)
  | false =>
    have hm1 : mi < 3000 := (refW_f (hy ▸ hr0)).2
    exact .good (S' := (kd, hr, cp, br, n, up ws i (feelY (feltN kd hr mi (ws i).2.1) (ws i)), mi + 1, nd, dr, me, di, re)) ⟨hk, hh, hz, hn, by omega, hd, okW_up hw (okW_feel (hw i hi))⟩ (cc_do fun w g x fl ka ha wr C B wad R => by
      obtain ⟨w', a, b, c⟩ := x241 R hn hk hh hm hi hy o2 o3 o1 f hr0
      exact ⟨w', a, ⟨_, _, _, _, _, _, _, b⟩, c⟩) (mc_g fun w g m kq hq ca ba wl ed wad t R hJ => y262 R hn hJ hk hh hm hi hy o2 o3 o1 o4 f hr0)
theorem j_listen (ok : okS (kd, hr, cp, br, n, ws, mi, nd, dr, me, di, re)) (z1 : Int32) (f : Bool) : JN Value.int 242 263 exB 2 [.int z1, .int (b2i f)] (kd, hr, cp, br, n, ws, mi, nd, dr, me, di, re) := by
  obtain ⟨hk, hh, hz, hn, hm, hd, hw⟩ := id ok
  rcases wk_c hn z1 with q | ⟨i, hi, rfl⟩
  · exact .bad 1 (by decide) (by decide) ok (cc_thr hn fun w g x fl ka ha wr C B wad R => x242n R hn q) (mc_b fun w g m kq hq ca ba wl ed wad t R hJ => y263n R hn hJ q)
  obtain ⟨⟨o1, o2, o3, o4, o5⟩, o6⟩ := hw i hi
  have hpp : ∀ j, j < n → (ws j).2.1 < 144 := fun j hj => (hw j hj).1.2.1
  have hy := sW_eta (ws i)
  cases hr0 : refW mi (ws i) f with
  | true => exact .bad 2 (by decide) (by decide) ok (cc_thr hn fun w g x fl ka ha wr C B wad R => x242r R hn hm hi hy o3 o1 f hr0) (mc_b fun w g m kq hq ca ba wl ed wad t R hJ => y263r R hn hJ hm hi hy o3 o1 o4 f hr0)
  | false =>
    have hm1 : mi < 3000 := (refW_f (hy ▸ hr0)).2
    exact .good (S' := (kd, hr, cp, br, n, up ws i (actY (ws i)), mi + 1, nd, dr, me, di, re)) ⟨hk, hh, hz, hn, by omega, hd, okW_up hw (okW_act (hw i hi))⟩ (cc_do fun w g x fl ka ha wr C B wad R => by
      obtain ⟨w', a, b, c⟩ := x242 R hn hm hi hy hpp o3 o1 f hr0
      exact ⟨w', a, ⟨_, _, _, _, _, _, _, b⟩, c⟩) (mc_b fun w g m kq hq ca ba wl ed wad t R hJ => y263 R hn hJ hm hi hy hpp o3 o1 o4 f hr0)
theorem j_charge (ok : okS (kd, hr, cp, br, n, ws, mi, nd, dr, me, di, re)) (z1 z2 : Int32) : JN Value.int 133 178 exA 3 [.int z1, .int z2] (kd, hr, cp, br, n, ws, mi, nd, dr, me, di, re) := by
  obtain ⟨hk, hh, hz, hn, hm, hd, hw⟩ := id ok
  rcases wk_c hn z1 with q | ⟨i, hi, rfl⟩
  · exact .bad 1 (by decide) (by decide) ok (cc_thr hn fun w g x fl ka ha wr C B wad R => x133n R hn q) (mc_b fun w g m kq hq ca ba wl ed wad t R hJ => y178n R hn hJ q)
  obtain ⟨⟨o1, o2, o3, o4, o5⟩, o6⟩ := hw i hi
  have hy := sW_eta (ws i)
  rcases ixr_c (a := 1) (b := 500) (by decide) (by decide) z2 with ⟨-, q⟩ | ⟨c, h1, h5, rfl, -⟩
  · exact .bad 2 (by decide) (by decide) ok (cc_thr hn fun w g x fl ka ha wr C B wad R => x133c R hn hi q) (mc_b fun w g m kq hq ca ba wl ed wad t R hJ => y178c R hn hJ hi q)
  by_cases he : (ws i).2.1 / 4 = (ws i).1
  · exact .good (S' := (kd, hr, cp, br, n, up ws i (chgY c (ws i)), mi, nd, dr, me, di, re)) ⟨hk, hh, hz, hn, hm, hd, okW_up hw (okW_chg (hw i hi) h5)⟩ (cc_do fun w g x fl ka ha wr C B wad R => by
      obtain ⟨w', a, b, c⟩ := x133 R hn hi hy o2 o1 h1 h5 he
      exact ⟨w', a, ⟨_, _, _, _, _, _, _, b⟩, c⟩) (mc_b fun w g m kq hq ca ba wl ed wad t R hJ => y178 R hn hJ hi hy o2 o1 h1 h5 he)
  · exact .bad 3 (by decide) (by decide) ok (cc_thr hn fun w g x fl ka ha wr C B wad R => x133h R hn hi hy o2 o1 h1 h5 he) (mc_b fun w g m kq hq ca ba wl ed wad t R hJ => y178h R hn hJ hi hy o2 o1 h1 h5 he)
theorem j_tellPose (ok : okS (kd, hr, cp, br, n, ws, mi, nd, dr, me, di, re)) (z1 : Int32) : JN Value.int 134 179 exA 1 [.int z1] (kd, hr, cp, br, n, ws, mi, nd, dr, me, di, re) := by
  obtain ⟨hk, hh, hz, hn, hm, hd, hw⟩ := id ok
  rcases wk_c hn z1 with q | ⟨i, hi, rfl⟩
  · exact .bad 1 (by decide) (by decide) ok (cc_thr hn fun w g x fl ka ha wr C B wad R => x134n R hn q) (mc_b fun w g m kq hq ca ba wl ed wad t R hJ => y179n R hn hJ q)
  obtain ⟨⟨o1, o2, o3, o4, o5⟩, o6⟩ := hw i hi
  have hy := sW_eta (ws i)
  exact .good (S' := (kd, hr, cp, br, n, up ws i (tellY (ws i)), mi, nd, dr, me, di, re)) ⟨hk, hh, hz, hn, hm, hd, okW_up hw (okW_tell (hw i hi))⟩ (cc_do fun w g x fl ka ha wr C B wad R => by
      obtain ⟨w', a, b, c⟩ := x134 R hn hi hy o2
      exact ⟨w', a, ⟨_, _, _, _, _, _, _, b⟩, c⟩) (mc_g fun w g m kq hq ca ba wl ed wad t R hJ => y179 R hn hJ hi hy o2)
theorem j_meet (ok : okS (kd, hr, cp, br, n, ws, mi, nd, dr, me, di, re)) (z1 z2 : Int32) : JN Value.int 168 180 exA 3 [.int z1, .int z2] (kd, hr, cp, br, n, ws, mi, nd, dr, me, di, re) := by
  obtain ⟨hk, hh, hz, hn, hm, hd, hw⟩ := id ok
  rcases wk_c hn z1 with q | ⟨i, hi, rfl⟩
  · exact .bad 1 (by decide) (by decide) ok (cc_thr hn fun w g x fl ka ha wr C B wad R => x168n R hn q) (mc_b fun w g m kq hq ca ba wl ed wad t R hJ => y180n R hn hJ q)
  rcases wk_c hn z2 with q | ⟨j, hj, rfl⟩
  · exact .bad 1 (by decide) (by decide) ok (cc_thr hn fun w g x fl ka ha wr C B wad R => x168o R hn hi q) (mc_b fun w g m kq hq ca ba wl ed wad t R hJ => y180o R hn hJ hi q)
  obtain ⟨⟨o1, o2, o3, o4, o5⟩, o6⟩ := hw i hi
  obtain ⟨⟨p1, p2, p3, p4, p5⟩, p6⟩ := hw j hj
  have hy := sW_eta (ws i)
  have hy' := sW_eta (ws j)
  by_cases hij : i = j
  · subst hij
    exact .bad 2 (by decide) (by decide) ok (cc_thr hn fun w g x fl ka ha wr C B wad R => x168e R hn hi) (mc_b fun w g m kq hq ca ba wl ed wad t R hJ => y180e R hn hJ hi)
  by_cases h0 : cnt 144 (ws i).2.2.2.2.2.2.2.1 = 1 ∧ cnt 144 (ws j).2.2.2.2.2.2.2.1 = 1 ∧ (ws i).2.1 / 4 = (ws j).2.1 / 4
  · obtain ⟨s1, s2, hc⟩ := h0
    have m1 := mrg_le o4 p4
    have z1 := mrg_z o6 p6
    exact .good (S' := (kd, hr, cp, br, n, up (up ws i (mapY (mrg (ws i).2.2.2.2.2.2.2.2 (ws j).2.2.2.2.2.2.2.2) (ws i))) j (mapY (mrg (ws j).2.2.2.2.2.2.2.2 (mrg (ws i).2.2.2.2.2.2.2.2 (ws j).2.2.2.2.2.2.2.2)) (ws j)), mi, nd, dr, me + nI 1, di + nI (cnt 72 (dsR (ws i).2.2.2.2.2.2.2.2 (ws j).2.2.2.2.2.2.2.2)), re)) ⟨hk, hh, hz, hn, hm, hd, okW_up (okW_up hw (okW_map (hw i hi) m1 z1)) (okW_map (hw j hj) (mrg_le p4 m1) (mrg_z p6 z1))⟩ (cc_do fun w g x fl ka ha wr C B wad R => by
      obtain ⟨w', a, b, c⟩ := x168 R hn hi hj hij hy hy' o2 p2 o4 p4 s1 s2 hc
      rw [meet_n o6 p6] at a
      rw [dsp_c o6 p6 o4 p4] at b
      exact ⟨w', a, ⟨_, _, _, _, _, _, _, b⟩, c⟩) (mc_b fun w g m kq hq ca ba wl ed wad t R hJ => y180 R hn hJ hi hj hij hy hy' o2 p2 o4 p4 s1 s2 hc)
  · exact .bad 3 (by decide) (by decide) ok (cc_thr hn fun w g x fl ka ha wr C B wad R => x168m R hn hi hj hij hy hy' o2 p2 h0) (mc_b fun w g m kq hq ca ba wl ed wad t R hJ => y180m R hn hJ hi hj hij hy hy' o2 p2 h0)
theorem j_pass (ok : okS (kd, hr, cp, br, n, ws, mi, nd, dr, me, di, re)) (z1 : Int32) : JN Value.int 135 145 exC 2 [.int z1] (kd, hr, cp, br, n, ws, mi, nd, dr, me, di, re) := by
  obtain ⟨hk, hh, hz, hn, hm, hd, hw⟩ := id ok
  rcases ixr_c (a := 1) (b := 600) (by decide) (by decide) z1 with ⟨-, q⟩ | ⟨j, h1, h2, rfl, -⟩
  · exact .bad 1 (by decide) (by decide) ok (cc_thr hn fun w g x fl ka ha wr C B wad R => x135n q) (mc_b fun w g m kq hq ca ba wl ed wad t R hJ => y145n R hn hJ q)
  by_cases h3 : mi + j ≤ 3000
  · exact .good (S' := (kd, hr, cp, br, n, ws, mi + j, nd, dr, me, di, re)) ⟨hk, hh, hz, hn, h3, hd, hw⟩ (cc_do fun w g x fl ka ha wr C B wad R => by
      obtain ⟨w', a, b, c⟩ := x135 R h1 h2 h3
      exact ⟨w', a, ⟨_, _, _, _, _, _, _, b⟩, c⟩) (mc_b fun w g m kq hq ca ba wl ed wad t R hJ => y145 R hn hJ h1 h2 h3)
  · exact .bad 2 (by decide) (by decide) ok (cc_thr hn fun w g x fl ka ha wr C B wad R => x135m R hm h1 h2 h3) (mc_b fun w g m kq hq ca ba wl ed wad t R hJ => y145m R hn hJ hm h1 h2 h3)
theorem j_call (ok : okS (kd, hr, cp, br, n, ws, mi, nd, dr, me, di, re)) : JN Value.int 24 47 exA 0 [] (kd, hr, cp, br, n, ws, mi, nd, dr, me, di, re) := by
  obtain ⟨hk, hh, hz, hn, hm, hd, hw⟩ := id ok
  exact .good (S' := (kd, hr, cp, br, n, ws, mi, nd, dr, me, di, re + nI 1)) ok (cc_do fun w g x fl ka ha wr C B wad R => by
      obtain ⟨w', a, b, c⟩ := x24 R
      exact ⟨w', a, ⟨_, _, _, _, _, _, _, b⟩, c⟩) (mc_b fun w g m kq hq ca ba wl ed wad t R hJ => y47 R hn hJ)
end JT
