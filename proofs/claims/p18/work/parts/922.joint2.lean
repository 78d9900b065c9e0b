/-! BOTH SIDES, call by call: what is asked. Mine. -/
section JU
variable {kd hr : Nat → Nat} {cp br : Nat → Bool} {n : Nat} {ws : Nat → sW} {mi nd : Nat} {dr me di re : Int32}
theorem j_ofEdge (ok : okS (kd, hr, cp, br, n, ws, mi, nd, dr, me, di, re)) (z1 z2 z3 : Int32) : JN Value.int 169 212 exA 2 [.int z1, .int z2, .int z3] (kd, hr, cp, br, n, ws, mi, nd, dr, me, di, re) := by
  obtain ⟨hk, hh, hz, hn, hm, hd, hw⟩ := id ok
  rcases ixr_c (a := 0) (b := 35) (by decide) (by decide) z1 with ⟨-, q⟩ | ⟨c, -, hc, rfl, -⟩
  · exact .bad 1 (by decide) (by decide) ok (cc_thr hn fun w g x fl ka ha wr C B wad R => x169c q) (mc_b fun w g m kq hq ca ba wl ed wad t R hJ => y212a R hn hJ q)
  rcases ixr_c (a := 0) (b := 3) (by decide) (by decide) z2 with ⟨-, q⟩ | ⟨s, -, hs, rfl, -⟩
  · exact .bad 1 (by decide) (by decide) ok (cc_thr hn fun w g x fl ka ha wr C B wad R => x169s hc q) (mc_b fun w g m kq hq ca ba wl ed wad t R hJ => y212b R hn hJ hc q)
  rcases ixr_c (a := 0) (b := 2) (by decide) (by decide) z3 with ⟨-, q⟩ | ⟨k, -, hk2, rfl, -⟩
  · exact .bad 2 (by decide) (by decide) ok (cc_thr hn fun w g x fl ka ha wr C B wad R => x169k hc hs q) (mc_b fun w g m kq hq ca ba wl ed wad t R hJ => y212c R hn hJ hc hs q)
  exact .good ok (cc_ask fun w g x fl ka ha wr C B wad R => x169 R hk hh hm hc hs hk2) (mc_b fun w g m kq hq ca ba wl ed wad t R hJ => y212 R hn hJ hc hs hk2 hk hh hm)
theorem j_ofWalker (ok : okS (kd, hr, cp, br, n, ws, mi, nd, dr, me, di, re)) (z1 z2 : Int32) : JN Value.int 201 182 exA 2 [.int z1, .int z2] (kd, hr, cp, br, n, ws, mi, nd, dr, me, di, re) := by
  obtain ⟨hk, hh, hz, hn, hm, hd, hw⟩ := id ok
  rcases wk_c hn z1 with q | ⟨i, hi, rfl⟩
  · exact .bad 1 (by decide) (by decide) ok (cc_thr hn fun w g x fl ka ha wr C B wad R => x201n R hn q) (mc_b fun w g m kq hq ca ba wl ed wad t R hJ => y182a R hn hJ q)
  obtain ⟨⟨o1, o2, o3, o4, o5⟩, o6⟩ := hw i hi
  have hy := sW_eta (ws i)
  rcases ixr_c (a := 0) (b := 12) (by decide) (by decide) z2 with ⟨-, q⟩ | ⟨k, -, hk2, rfl, -⟩
  · exact .bad 2 (by decide) (by decide) ok (cc_thr hn fun w g x fl ka ha wr C B wad R => x201k R hn hi q) (mc_b fun w g m kq hq ca ba wl ed wad t R hJ => y182b R hn hJ hi q)
  have e : ofwR kd hr (mi / 60 % 24) (ws i) k = ofwS kd hr mi (ws i) k := by
    rw [hy]
    exact ofw_eq (h := 0) o6 o4 k hk2
  exact .good ok (cc_ask fun w g x fl ka ha wr C B wad R => x201 R hn hk hh hm hi hy o4 hk2) (mc_b fun w g m kq hq ca ba wl ed wad t R hJ => e ▸ y182 R hn hJ hi hy hk2 hk hh hm o4)
theorem j_house (ok : okS (kd, hr, cp, br, n, ws, mi, nd, dr, me, di, re)) (z1 : Int32) : JN Value.int 136 227 exC 1 [.int z1] (kd, hr, cp, br, n, ws, mi, nd, dr, me, di, re) := by
  obtain ⟨hk, hh, hz, hn, hm, hd, hw⟩ := id ok
  rcases ixr_c (a := 0) (b := 11) (by decide) (by decide) z1 with ⟨-, q⟩ | ⟨k, -, hk2, rfl, -⟩
  · exact .bad 1 (by decide) (by decide) ok (cc_thr hn fun w g x fl ka ha wr C B wad R => x136n q) (mc_b fun w g m kq hq ca ba wl ed wad t R hJ => y227a R hn hJ q)
  have e : hsR kd hr cp br n mi dr me di re k = hsS kd hr cp br n mi dr me di re k := hs_eq hz k hk2
  exact .good ok (cc_ask fun w g x fl ka ha wr C B wad R => x136 R hk hh hm hk2) (mc_b fun w g m kq hq ca ba wl ed wad t R hJ => e ▸ y227 R hn hJ hk2 hk hh hm)
theorem j_map (ok : okS (kd, hr, cp, br, n, ws, mi, nd, dr, me, di, re)) (z1 z2 z3 : Int32) : JN Value.int 137 214 exA 1 [.int z1, .int z2, .int z3] (kd, hr, cp, br, n, ws, mi, nd, dr, me, di, re) := by
  obtain ⟨hk, hh, hz, hn, hm, hd, hw⟩ := id ok
  rcases wk_c hn z1 with q | ⟨i, hi, rfl⟩
  · exact .bad 1 (by decide) (by decide) ok (cc_thr hn fun w g x fl ka ha wr C B wad R => x137n R hn q) (mc_b fun w g m kq hq ca ba wl ed wad t R hJ => y214a R hn hJ q)
  obtain ⟨⟨o1, o2, o3, o4, o5⟩, o6⟩ := hw i hi
  have hy := sW_eta (ws i)
  rcases ixr_c (a := 0) (b := 35) (by decide) (by decide) z2 with ⟨-, q⟩ | ⟨c, -, hc, rfl, -⟩
  · exact .bad 1 (by decide) (by decide) ok (cc_thr hn fun w g x fl ka ha wr C B wad R => x137c R hn hi q) (mc_b fun w g m kq hq ca ba wl ed wad t R hJ => y214b R hn hJ hi q)
  rcases ixr_c (a := 0) (b := 3) (by decide) (by decide) z3 with ⟨-, q⟩ | ⟨s, -, hs, rfl, -⟩
  · exact .bad 1 (by decide) (by decide) ok (cc_thr hn fun w g x fl ka ha wr C B wad R => x137s R hn hi hc q) (mc_b fun w g m kq hq ca ba wl ed wad t R hJ => y214c R hn hJ hi hc q)
  exact .good ok (cc_ask fun w g x fl ka ha wr C B wad R => x137 R hn hi hy o4 hc hs) (mc_b fun w g m kq hq ca ba wl ed wad t R hJ => y214 R hn hJ hi hy hc hs)
theorem j_may (ok : okS (kd, hr, cp, br, n, ws, mi, nd, dr, me, di, re)) (z1 z2 : Int32) : JN Value.int 138 183 exA 1 [.int z1, .int z2] (kd, hr, cp, br, n, ws, mi, nd, dr, me, di, re) := by
  obtain ⟨hk, hh, hz, hn, hm, hd, hw⟩ := id ok
  rcases wk_c hn z1 with q | ⟨i, hi, rfl⟩
  · exact .bad 1 (by decide) (by decide) ok (cc_thr hn fun w g x fl ka ha wr C B wad R => x138n R hn q) (mc_b fun w g m kq hq ca ba wl ed wad t R hJ => y183a R hn hJ q)
  have hy := sW_eta (ws i)
  rcases ixr_c (a := 0) (b := 143) (by decide) (by decide) z2 with ⟨-, q⟩ | ⟨p, -, hp, rfl, -⟩
  · exact .bad 1 (by decide) (by decide) ok (cc_thr hn fun w g x fl ka ha wr C B wad R => x138p R hn hi q) (mc_b fun w g m kq hq ca ba wl ed wad t R hJ => y183b R hn hJ hi q)
  exact .good ok (cc_ask fun w g x fl ka ha wr C B wad R => x138 R hn hi hy hp) (mc_b fun w g m kq hq ca ba wl ed wad t R hJ => y183 R hn hJ hi hy hp)
theorem j_where (ok : okS (kd, hr, cp, br, n, ws, mi, nd, dr, me, di, re)) (z1 z2 : Int32) : JN Value.long 139 184 exA 2 [.int z1, .int z2] (kd, hr, cp, br, n, ws, mi, nd, dr, me, di, re) := by
  obtain ⟨hk, hh, hz, hn, hm, hd, hw⟩ := id ok
  rcases wk_c hn z1 with q | ⟨i, hi, rfl⟩
  · exact .bad 1 (by decide) (by decide) ok (cc_thr hn fun w g x fl ka ha wr C B wad R => x139n R hn q) (mc_b fun w g m kq hq ca ba wl ed wad t R hJ => y184a R hn hJ q)
  have hy := sW_eta (ws i)
  rcases ixr_c (a := 0) (b := 3) (by decide) (by decide) z2 with ⟨-, q⟩ | ⟨f, -, hf, rfl, -⟩
  · exact .bad 2 (by decide) (by decide) ok (cc_thr hn fun w g x fl ka ha wr C B wad R => x139f R hn hi q) (mc_b fun w g m kq hq ca ba wl ed wad t R hJ => y184b R hn hJ hi q)
  exact .good ok (cc_ask fun w g x fl ka ha wr C B wad R => by
    obtain ⟨N, a, b⟩ := x139 R hn hi hy hf
    rw [bm_msk b] at a
    exact a) (mc_b fun w g m kq hq ca ba wl ed wad t R hJ => y184 R hn hJ hi hy hf)
theorem j_way (ok : okS (kd, hr, cp, br, n, ws, mi, nd, dr, me, di, re)) (z1 z2 z3 : Int32) : JN Value.int 140 228 exA 1 [.int z1, .int z2, .int z3] (kd, hr, cp, br, n, ws, mi, nd, dr, me, di, re) := by
  obtain ⟨hk, hh, hz, hn, hm, hd, hw⟩ := id ok
  rcases wk_c hn z1 with q | ⟨i, hi, rfl⟩
  · exact .bad 1 (by decide) (by decide) ok (cc_thr hn fun w g x fl ka ha wr C B wad R => x140n R hn q) (mc_b fun w g m kq hq ca ba wl ed wad t R hJ => y228a R hn hJ q)
  obtain ⟨⟨o1, o2, o3, o4, o5⟩, o6⟩ := hw i hi
  have hy := sW_eta (ws i)
  rcases ixr_c (a := 0) (b := 35) (by decide) (by decide) z2 with ⟨-, q⟩ | ⟨c, -, hc, rfl, -⟩
  · exact .bad 1 (by decide) (by decide) ok (cc_thr hn fun w g x fl ka ha wr C B wad R => x140f R hn hi q) (mc_b fun w g m kq hq ca ba wl ed wad t R hJ => y228b R hn hJ hi q)
  rcases ixr_c (a := 0) (b := 35) (by decide) (by decide) z3 with ⟨-, q⟩ | ⟨s, -, hs, rfl, -⟩
  · exact .bad 1 (by decide) (by decide) ok (cc_thr hn fun w g x fl ka ha wr C B wad R => x140t R hn hi hc q) (mc_b fun w g m kq hq ca ba wl ed wad t R hJ => y228c R hn hJ hi hc q)
  exact .good ok (cc_ask fun w g x fl ka ha wr C B wad R => x140 R hn hi hy hc hs) (mc_b fun w g m kq hq ca ba wl ed wad t R hJ => y228 R hn hJ hi hy hc hs o4)
theorem j_safety (ok : okS (kd, hr, cp, br, n, ws, mi, nd, dr, me, di, re)) (z1 z2 : Int32) : JN Value.int 223 264 exA 2 [.int z1, .int z2] (kd, hr, cp, br, n, ws, mi, nd, dr, me, di, re) := by
  obtain ⟨hk, hh, hz, hn, hm, hd, hw⟩ := id ok
  rcases wk_c hn z1 with q | ⟨i, hi, rfl⟩
  · exact .bad 1 (by decide) (by decide) ok (cc_thr hn fun w g x fl ka ha wr C B wad R => x223n R hn q) (mc_b fun w g m kq hq ca ba wl ed wad t R hJ => y264a R hn hJ q)
  obtain ⟨⟨o1, o2, o3, o4, o5⟩, o6⟩ := hw i hi
  have hy := sW_eta (ws i)
  rcases ixr_c (a := 0) (b := 3) (by decide) (by decide) z2 with ⟨-, q⟩ | ⟨k, -, hk2, rfl, -⟩
  · exact .bad 2 (by decide) (by decide) ok (cc_thr hn fun w g x fl ka ha wr C B wad R => x223k R hn hi q) (mc_b fun w g m kq hq ca ba wl ed wad t R hJ => y264b R hn hJ hi q)
  exact .good ok (cc_ask fun w g x fl ka ha wr C B wad R => x223 R hn hi hy o4 o1 hk2) (mc_b fun w g m kq hq ca ba wl ed wad t R hJ => y264 R hn hJ hi hy hk2 o4 o1)
theorem j_doubt (ok : okS (kd, hr, cp, br, n, ws, mi, nd, dr, me, di, re)) (z1 : Int32) : JN Value.double 91 185 exA 1 [.int z1] (kd, hr, cp, br, n, ws, mi, nd, dr, me, di, re) := by
  obtain ⟨hk, hh, hz, hn, hm, hd, hw⟩ := id ok
  rcases wk_c hn z1 with q | ⟨i, hi, rfl⟩
  · exact .bad 1 (by decide) (by decide) ok (cc_thr hn fun w g x fl ka ha wr C B wad R => x91n R hn q) (mc_b fun w g m kq hq ca ba wl ed wad t R hJ => y185a R hn hJ q)
  have hy := sW_eta (ws i)
  exact .good ok (cc_ask fun w g x fl ka ha wr C B wad R => x91 R hn hi hy) (mc_b fun w g m kq hq ca ba wl ed wad t R hJ => y185 R hn hJ hi hy)
theorem j_worst (ok : okS (kd, hr, cp, br, n, ws, mi, nd, dr, me, di, re)) (z1 z2 : Int32) : JN Value.int 202 247 exA 2 [.int z1, .int z2] (kd, hr, cp, br, n, ws, mi, nd, dr, me, di, re) := by
  obtain ⟨hk, hh, hz, hn, hm, hd, hw⟩ := id ok
  rcases wk_c hn z1 with q | ⟨i, hi, rfl⟩
  · exact .bad 1 (by decide) (by decide) ok (cc_thr hn fun w g x fl ka ha wr C B wad R => x202n R hn q) (mc_b fun w g m kq hq ca ba wl ed wad t R hJ => y247a R hn hJ q)
  obtain ⟨⟨o1, o2, o3, o4, o5⟩, o6⟩ := hw i hi
  have hy := sW_eta (ws i)
  rcases ixr_c (a := 0) (b := 3) (by decide) (by decide) z2 with ⟨-, q⟩ | ⟨k, -, hk2, rfl, -⟩
  · exact .bad 2 (by decide) (by decide) ok (cc_thr hn fun w g x fl ka ha wr C B wad R => x202k R hn hi q) (mc_b fun w g m kq hq ca ba wl ed wad t R hJ => y247b R hn hJ hi q)
  exact .good ok (cc_ask fun w g x fl ka ha wr C B wad R => x202 R hn hi hy hk2) (mc_b fun w g m kq hq ca ba wl ed wad t R hJ => y247 R hn hJ hi hy hk2 o4)
theorem j_best (ok : okS (kd, hr, cp, br, n, ws, mi, nd, dr, me, di, re)) (z1 : Int32) : JN Value.int 203 252 exA 1 [.int z1] (kd, hr, cp, br, n, ws, mi, nd, dr, me, di, re) := by
  obtain ⟨hk, hh, hz, hn, hm, hd, hw⟩ := id ok
  rcases wk_c hn z1 with q | ⟨i, hi, rfl⟩
  · exact .bad 1 (by decide) (by decide) ok (cc_thr hn fun w g x fl ka ha wr C B wad R => x203n R hn q) (mc_b fun w g m kq hq ca ba wl ed wad t R hJ => y252a R hn hJ q)
  obtain ⟨⟨o1, o2, o3, o4, o5⟩, o6⟩ := hw i hi
  have hy := sW_eta (ws i)
  exact .good ok (cc_ask fun w g x fl ka ha wr C B wad R => x203 R hn hi hy) (mc_b fun w g m kq hq ca ba wl ed wad t R hJ => y252 R hn hJ hi hy o4)
theorem j_wouldFeel (ok : okS (kd, hr, cp, br, n, ws, mi, nd, dr, me, di, re)) (z1 z2 : Int32) : JN Value.int 170 231 exA 2 [.int z1, .int z2] (kd, hr, cp, br, n, ws, mi, nd, dr, me, di, re) := by
  obtain ⟨hk, hh, hz, hn, hm, hd, hw⟩ := id ok
  rcases wk_c hn z1 with q | ⟨i, hi, rfl⟩
  · exact .bad 1 (by decide) (by decide) ok (cc_thr hn fun w g x fl ka ha wr C B wad R => x170n R hn q) (mc_b fun w g m kq hq ca ba wl ed wad t R hJ => y231a R hn hJ q)
  obtain ⟨⟨o1, o2, o3, o4, o5⟩, o6⟩ := hw i hi
  have hy := sW_eta (ws i)
  rcases ixr_c (a := 0) (b := 7) (by decide) (by decide) z2 with ⟨-, q⟩ | ⟨k, -, hk2, rfl, -⟩
  · exact .bad 2 (by decide) (by decide) ok (cc_thr hn fun w g x fl ka ha wr C B wad R => x170k R hn hi q) (mc_b fun w g m kq hq ca ba wl ed wad t R hJ => y231b R hn hJ hi q)
  exact .good ok (cc_ask fun w g x fl ka ha wr C B wad R => x170 R hn hi hy hk2) (mc_b fun w g m kq hq ca ba wl ed wad t R hJ => y231 R hn hJ hi hy hk2 o4)
theorem j_wouldBe (ok : okS (kd, hr, cp, br, n, ws, mi, nd, dr, me, di, re)) (z1 z2 : Int32) : JN Value.int 204 232 exA 2 [.int z1, .int z2] (kd, hr, cp, br, n, ws, mi, nd, dr, me, di, re) := by
  obtain ⟨hk, hh, hz, hn, hm, hd, hw⟩ := id ok
  rcases ixr_c (a := 0) (b := 35) (by decide) (by decide) z1 with ⟨-, q⟩ | ⟨c, -, hc, rfl, -⟩
  · exact .bad 1 (by decide) (by decide) ok (cc_thr hn fun w g x fl ka ha wr C B wad R => x204c q) (mc_b fun w g m kq hq ca ba wl ed wad t R hJ => y232a R hn hJ q)
  rcases ixr_c (a := 0) (b := 3) (by decide) (by decide) z2 with ⟨-, q⟩ | ⟨f, -, hf, rfl, -⟩
  · exact .bad 2 (by decide) (by decide) ok (cc_thr hn fun w g x fl ka ha wr C B wad R => x204f hc q) (mc_b fun w g m kq hq ca ba wl ed wad t R hJ => y232b R hn hJ hc q)
  exact .good ok (cc_ask fun w g x fl ka ha wr C B wad R => x204 R hk hh hm hc hf) (mc_b fun w g m kq hq ca ba wl ed wad t R hJ => y232 R hn hJ hc hf hk hh hm)
theorem j_isSound (ok : okS (kd, hr, cp, br, n, ws, mi, nd, dr, me, di, re)) : JN Value.int 224 215 exA 0 [] (kd, hr, cp, br, n, ws, mi, nd, dr, me, di, re) := by
  obtain ⟨hk, hh, hz, hn, hm, hd, hw⟩ := id ok
  have ho : ∀ i, i < n → okY (ws i) := fun i hi => (hw i hi).1
  have e : sndRS kd hr (mi / 60 % 24) n ws = sndS kd hr mi n ws := sndS_eq hn (fun i hi => (hw i hi).2) (fun i hi => (ho i hi).2.2.2.1)
  exact .good ok (cc_ask fun w g x fl ka ha wr C B wad R => x224 R hn hk hh hm ho) (mc_b fun w g m kq hq ca ba wl ed wad t R hJ => e ▸ y215 R hn hJ hk hh hm ho)
theorem j_digest (ok : okS (kd, hr, cp, br, n, ws, mi, nd, dr, me, di, re)) : JN Value.long 250 265 exA 0 [] (kd, hr, cp, br, n, ws, mi, nd, dr, me, di, re) := by
  obtain ⟨hk, hh, hz, hn, hm, hd, hw⟩ := id ok
  have ho : ∀ i, i < n → okY (ws i) := fun i hi => (hw i hi).1
  exact .good ok (cc_ask fun w g x fl ka ha wr C B wad R => x250 R hn hk hh hm ho) (mc_b fun w g m kq hq ca ba wl ed wad t R hJ => y265 R hn hJ hk hh hm ho hz (fun i hi => (hw i hi).2))
end JU
