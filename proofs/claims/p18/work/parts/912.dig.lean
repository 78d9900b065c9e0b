/-! THE REFERENCE: its digest. Mine. -/
/-- a loop through grown worlds -/
theorem loopE {α β : Type} {n : Nat} {kc sc : Nat → Nat} {F : Nat → β → β} {Q : Nat → β → am_Wd → α} {w0 w1 : am_Wd} {k0 s0 : Nat} {a : β} (e0 : ext w0 w1 k0 s0) (h : ∀ j a w2 k2 s2, j < n → ext w0 w2 k2 s2 → ∃ w3, Q j a w2 = Q (j + 1) (F j a) w3 ∧ ext w2 w3 (kc j) (sc j)) : ∃ w3, Q 0 a w1 = Q n (itA n F a) w3 ∧ ext w1 w3 (sumN n kc) (sumN n sc) := by
  have go : ∀ j, j ≤ n → ∃ w3, Q 0 a w1 = Q j (itA j F a) w3 ∧ ext w1 w3 (sumN j kc) (sumN j sc) := by
    intro j
    induction j with
    | zero => exact fun _ => ⟨w1, rfl, ext_rf⟩
    | succ j ih =>
      intro hj
      obtain ⟨w2, q1, e1⟩ := ih (by omega)
      obtain ⟨w3, q2, e2⟩ := h j _ w2 _ _ (by omega) (ext_tr e0 e1)
      exact ⟨w3, q1.trans q2, ext_tr e1 e2⟩
  exact go n (Nat.le_refl n)
theorem sumN_c (k : Nat) : ∀ n, sumN n (fun _ => k) = n * k
  | 0 => (Nat.zero_mul k).symm
  | n + 1 => by
    show sumN n (fun _ => k) + k = (n + 1) * k
    rw [sumN_c k n, Nat.succ_mul]
section DG
variable {w : am_Wd} {g : Nat → Nat} {m kq hq ca ba wl ed : Nat} {wad : Nat → Nat} {kd hr : Nat → Nat} {cp br : Nat → Bool} {n : Nat} {ws : Nat → sW} {th mi nd : Nat} {dr me di re : Int32}
variable {i a ho po ch : Nat} {lo ac bu sl : Int32} {may : Nat → Bool} {mp : Nat → Nat}
/-- one walker -/
theorem wlk265 (R : RMx w g m kq hq ca ba wl ed wad kd hr cp br n ws th mi nd dr me di re) (hn : n ≤ 3) (hJ : gJ w g) (hk : kdok kd) (hh : hrok hr) (hm : mi ≤ 3000) (hi : i < n) (hy : ws i = (ho, po, ch, lo, ac, bu, sl, may, mp)) (hp : mpo mp) (hz : mpz mp) (hho : ho < 36) {it : Nat} {w1 : am_Wd} {k1 s1 : Nat} (e1 : ext w w1 k1 s1) (a : Int64) :
    ∃ w2, am_run 265 128 [some (.ref m), some (.long a), none, some (.ref it), some (.ref (wad i)), some (.int (nI 0)), none] [] w1 = am_run 265 105 [some (.ref m), some (.long (wlkJ kd hr mi (ws i) a)), none, some (.ref it), none, none, none] [] w2 ∧ ext w1 w2 45 3913 := by
  have RX : ∀ {w2 k2 s2}, ext w w2 k2 s2 → RMx w2 g m kq hq ca ba wl ed wad kd hr cp br n ws th mi nd dr me di re := fun e => rm_ext R hn hJ e
  obtain ⟨wa, qa, ea⟩ := loopE (n := 13) (kc := fun _ => 1) (sc := fun _ => 13) (F := fun k a => jn a (ofwS kd hr mi (ws i) k).toInt64) (a := a) (Q := fun k a w => am_run 265 128 [some (.ref m), some (.long a), none, some (.ref it), some (.ref (wad i)), some (.int (nI k)), none] [] w) e1 (fun j a w2 k2 s2 hj e2 => by
    try dsimp only
    obtain ⟨w3, b3, e3⟩ := x146 (RX e2) (gJ_ext hJ e2) hk hh hm hi hy hp (k := j) (by omega)
    rw [show ofwR kd hr (mi / 60 % 24) (ws i) j = ofwS kd hr mi (ws i) j by rw [hy]; exact ofw_eq (h := 0) hz hp j (by omega)] at b3
    refine ⟨w3, ?_, e3⟩
    rw [bk265_128, if_neg (by rw [nI_ltS (by decide) (by omega)]; omega)]
    simp only [bk265_135, rm_kf (RX e2), b3, bk265_148, nI_add, Option.bind_some, bct_v, bct_t, otl_s, otl_n, List.cons_append, List.nil_append, List.getElem?_cons_zero, List.getElem?_cons_succ, ↓reduceIte]
    rfl)
  have e2 := ext_tr e1 ea
  try dsimp only at qa
  generalize h1 : itA 13 (fun k a => jn a (ofwS kd hr mi (ws i) k).toInt64) a = a1 at qa
  have l2 : am_run 265 160 [some (.ref m), some (.long a1), none, some (.ref it), some (.ref (wad i)), some (.int (nI 0)), none] [] wa = am_run 265 160 [some (.ref m), some (.long (itA 4 (fun f a => jn a (whS may f)) a1)), none, some (.ref it), some (.ref (wad i)), some (.int (nI 4)), none] [] wa := loopA (n := 4) (F := fun f a => jn a (whS may f)) (a := a1) (Q := fun k a => am_run 265 160 [some (.ref m), some (.long a), none, some (.ref it), some (.ref (wad i)), some (.int (nI k)), none] [] wa) (fun k a hk1 => by
    try dsimp only
    have z := x48 (x := m) (rm_get (RX e2) hi hy) (f := k) hk1
    rw [bk265_160, if_neg (by rw [nI_leS (by decide) (by omega)]; omega)]
    simp only [bk265_166, rm_kf (RX e2), z, bk265_179, nI_add, Option.bind_some, bct_v, bct_t, otl_s, otl_n, List.cons_append, List.nil_append, List.getElem?_cons_zero, List.getElem?_cons_succ, ↓reduceIte]
    rfl)
  generalize h2 : itA 4 (fun f a => jn a (whS may f)) a1 = a2 at l2
  obtain ⟨wb, qb, eb⟩ := loopE (n := 4) (kc := c259) (sc := fun j => 36 * c259 j) (F := fun k a => jn a (sftS (ws i) k).toInt64) (a := a2) (Q := fun k a w => am_run 265 190 [some (.ref m), some (.long a), none, some (.ref it), some (.ref (wad i)), some (.int (nI k)), none] [] w) e2 (fun j a w2 k2 s2 hj e2 => by
    try dsimp only
    obtain ⟨w3, b3, e3⟩ := x259p (RX e2) hn (gJ_ext hJ e2) hi hy hp hho (k := j) (by omega)
    refine ⟨w3, ?_, e3⟩
    rw [bk265_190, if_neg (by rw [nI_ltS (by decide) (by omega)]; omega)]
    simp only [bk265_196, rm_kf (RX e2), b3, bk265_209, nI_add, Option.bind_some, bct_v, bct_t, otl_s, otl_n, List.cons_append, List.nil_append, List.getElem?_cons_zero, List.getElem?_cons_succ, ↓reduceIte]
    rfl)
  have e3 := ext_tr e2 eb
  try dsimp only at qb
  generalize h3 : itA 4 (fun k a => jn a (sftS (ws i) k).toInt64) a2 = a3 at qb
  obtain ⟨wc, qc, ec⟩ := loopE (n := 4) (kc := c230) (sc := fun j => 144 * c230 j) (F := fun k a => jn a (nI (wrsW may mp k)).toInt64) (a := a3) (Q := fun k a w => am_run 265 221 [some (.ref m), some (.long a), none, some (.ref it), some (.ref (wad i)), some (.int (nI k)), none] [] w) e3 (fun j a w2 k2 s2 hj e2 => by
    try dsimp only
    obtain ⟨w3, b3, e3⟩ := x230 (x := m) (gJ_ext hJ e2) hp (rm_get (RX e2) hi hy) (k := j) (by omega)
    refine ⟨w3, ?_, e3⟩
    rw [bk265_221, if_neg (by rw [nI_ltS (by decide) (by omega)]; omega)]
    simp only [bk265_227, rm_kf (RX e2), b3, bk265_240, nI_add, Option.bind_some, bct_v, bct_t, otl_s, otl_n, List.cons_append, List.nil_append, List.getElem?_cons_zero, List.getElem?_cons_succ, ↓reduceIte]
    rfl)
  have e4 := ext_tr e3 ec
  try dsimp only at qc
  generalize h4 : itA 4 (fun k a => jn a (nI (wrsW may mp k)).toInt64) a3 = a4 at qc
  obtain ⟨wd, qd, ed'⟩ := x248 (RX e4) hn (gJ_ext hJ e4) hi hy hp
  have e5 := ext_tr e4 ed'
  have z6 := x49 (x := m) (rm_get (RX e5) hi hy)
  have hl := cnt_le (anyF may) 36
  have hnn : (FP.dmul 4634204016564240384 (dbtS may)) &&& 0x7fffffffffffffff ≤ 0x7ff0000000000000 := mul_ok ⟨cnt 36 (anyF may), by omega⟩
  have l7 : am_run 265 284 [some (.ref m), some (.long (jn (jn a4 (nI (bstS may mp 3)).toInt64) (FP.d2l (FP.dmul 4634204016564240384 (dbtS may))))), none, some (.ref it), some (.ref (wad i)), some (.int (nI 0)), none] [] wd = am_run 265 284 [some (.ref m), some (.long (itA 36 (fun c a => jn (jn a (nI (kno mp c 1)).toInt64) (nI (kno mp c 2)).toInt64) (jn (jn a4 (nI (bstS may mp 3)).toInt64) (FP.d2l (FP.dmul 4634204016564240384 (dbtS may)))))), none, some (.ref it), some (.ref (wad i)), some (.int (nI 36)), none] [] wd := loopA (n := 36) (F := fun c a => jn (jn a (nI (kno mp c 1)).toInt64) (nI (kno mp c 2)).toInt64) (a := jn (jn a4 (nI (bstS may mp 3)).toInt64) (FP.d2l (FP.dmul 4634204016564240384 (dbtS may)))) (Q := fun k a => am_run 265 284 [some (.ref m), some (.long a), none, some (.ref it), some (.ref (wad i)), some (.int (nI k)), none] [] wd) (fun k a hk1 => by
    try dsimp only
    have z1 := x174 (rm_get (RX e5) hi hy) (c := k) (s := 1) hk1 (by decide)
    have z2 := x174 (rm_get (RX e5) hi hy) (c := k) (s := 2) hk1 (by decide)
    rw [bk265_284, if_neg (by rw [nI_leS (by decide) (by omega)]; omega), bk265_291, bk265_294, if_neg (by decide)]
    simp only [bk265_300, z1, bk265_314, nI_add, Nat.reduceAdd, Option.bind_some, bct_v, bct_t, otl_s, otl_n, List.cons_append, List.nil_append, List.getElem?_cons_zero, List.getElem?_cons_succ, ↓reduceIte]
    rw [bk265_294, if_neg (by decide)]
    simp only [bk265_300, z2, bk265_314, nI_add, Nat.reduceAdd, Option.bind_some, bct_v, bct_t, otl_s, otl_n, List.cons_append, List.nil_append, List.getElem?_cons_zero, List.getElem?_cons_succ, ↓reduceIte]
    rw [bk265_294, if_pos (by decide), bk265_323, nI_add]
    rfl)
  refine ⟨wd, ?_, ext_wk (ext_tr (ext_tr (ext_tr ea eb) ec) ed') (by decide) (by decide)⟩
  refine Eq.trans qa ?_
  rw [bk265_128, if_pos (by rw [nI_ltS (by decide) (by decide)]; decide), bk265_157]
  refine Eq.trans l2 ?_
  rw [bk265_160, if_pos (by rw [nI_leS (by decide) (by decide)]; decide), bk265_187]
  refine Eq.trans qb ?_
  rw [bk265_190, if_pos (by rw [nI_ltS (by decide) (by decide)]; decide), bk265_218]
  refine Eq.trans qc ?_
  rw [bk265_221, if_pos (by rw [nI_ltS (by decide) (by decide)]; decide)]
  simp only [bk265_249, rm_kf (RX e4), qd, bk265_260, rm_kf (RX e5), z6, Option.bind_some, bct_v, bct_t, otl_s, otl_n, List.cons_append, List.nil_append, List.getElem?_cons_zero, List.getElem?_cons_succ, ↓reduceIte]
  rw [bk265_277 hnn, bk265_278]
  refine Eq.trans l7 ?_
  rw [bk265_284, if_pos (by rw [nI_leS (by decide) (by decide)]; decide), bk265_329]
  subst h1 h2 h3 h4
  rw [hy]
  rfl
/-- digest -/
theorem y265 (R : RMx w g m kq hq ca ba wl ed wad kd hr cp br n ws th mi nd dr me di re) (hn : n ≤ 3) (hJ : gJ w g) (hk : kdok kd) (hh : hrok hr) (hm : mi ≤ 3000) (ho : ∀ i, i < n → okY (ws i)) (hkz : mpz kd) (hwz : ∀ i, i < n → mpz (ws i).2.2.2.2.2.2.2.2) : ∃ w', am_x 265 [.ref m] w = some (.inl (some (.long (digS kd hr cp br n ws mi dr me di re))), w') ∧ RM w' g m kd hr cp br n ws 0 mi nd dr me di re ∧ stp 100 800 g g 306 12480 w w' := by
  obtain ⟨R1, f1⟩ := rm_m (th' := 0) (mi' := mi) (nd' := nd) (dr' := dr) (me' := me) (di' := di) (re' := re) R hn
  have p1 : am_pf w m 11 0 (.int (nI 0)) = some (am_pt w m (.inr (11, oM 0 mi nd dr me di re kq hq ca ba wl))) := pfc R.1 (by show 0 < 12; decide) (by decide)
  have s1 := stp_frm (lo := 100) (hi := 800) hJ f1 (by decide) (by decide)
  have hJ1 := stp_J s1
  generalize am_pt w m (.inr (11, oM 0 mi nd dr me di re kq hq ca ba wl)) = w1 at R1 p1 s1 hJ1
  have RX : ∀ {w2 k2 s2}, ext w1 w2 k2 s2 → RMx w2 g m kq hq ca ba wl ed wad kd hr cp br n ws 0 mi nd dr me di re := fun e => rm_ext R1 hn hJ1 e
  obtain ⟨wa, qa, ea⟩ := loopE (n := 12) (kc := fun _ => 1) (sc := fun _ => 12) (F := fun k a => jn a (hsS kd hr cp br n mi dr me di re k).toInt64) (a := lN 58286) (Q := fun k a w => am_run 265 11 [some (.ref m), some (.long a), none, some (.int (nI k)), none, none, none] [] w) (ext_rf (w := w1)) (fun j a w2 k2 s2 hj e2 => by
    try dsimp only
    obtain ⟨w3, b3, e3⟩ := x213 (RX e2) (gJ_ext hJ1 e2) hn hk hh hm (k := j) (by omega)
    rw [hs_eq hkz j (by omega)] at b3
    refine ⟨w3, ?_, e3⟩
    rw [bk265_11, if_neg (by rw [nI_ltS (by decide) (by omega)]; omega)]
    simp only [bk265_17, rm_kf (RX e2), b3, bk265_27, nI_add, Option.bind_some, bct_v, bct_t, otl_s, otl_n, List.cons_append, List.nil_append, List.getElem?_cons_zero, List.getElem?_cons_succ, ↓reduceIte]
    rfl)
  try dsimp only at qa
  generalize h1 : itA 12 (fun k a => jn a (hsS kd hr cp br n mi dr me di re k).toInt64) (lN 58286) = a1 at qa
  have one : ∀ (c s q : Nat) (a : Int64) (w2 : am_Wd) (k2 s2 : Nat), c < 36 → s = 1 ∨ s = 2 → q < 2 → ext w1 w2 k2 s2 → ∃ w3, am_run 265 56 [some (.ref m), some (.long a), none, some (.int (nI c)), some (.int (nI s)), some (.int (nI q)), none] [] w2 = am_run 265 56 [some (.ref m), some (.long (jn a (edgS kd hr mi c s q).toInt64)), none, some (.int (nI c)), some (.int (nI s)), some (.int (nI (q + 1))), none] [] w3 ∧ ext w2 w3 1 3 := by
    intro c s q a w2 k2 s2 hc hs hq e2
    obtain ⟨w3, b3, e3⟩ := x181 (RX e2) (gJ_ext hJ1 e2) hn hk hh hm (c := c) (s := s) (k := q) hc (by omega) (by omega)
    refine ⟨w3, ?_, e3⟩
    rw [bk265_56, if_neg (by rw [nI_ltS (by decide) (by omega)]; omega)]
    simp only [bk265_62, rm_kf (RX e2), b3, bk265_76, nI_add, Option.bind_some, bct_v, bct_t, otl_s, otl_n, List.cons_append, List.nil_append, List.getElem?_cons_zero, List.getElem?_cons_succ, ↓reduceIte]
    rfl
  have side : ∀ (c s : Nat) (a : Int64) (w2 : am_Wd) (k2 s2 : Nat), c < 36 → s = 1 ∨ s = 2 → ext w1 w2 k2 s2 → ∃ w3, am_run 265 47 [some (.ref m), some (.long a), none, some (.int (nI c)), some (.int (nI s)), none, none] [] w2 = am_run 265 47 [some (.ref m), some (.long (edgJ kd hr mi c s a)), none, some (.int (nI c)), some (.int (nI (s + 1))), none, none] [] w3 ∧ ext w2 w3 2 6 := by
    intro c s a w2 k2 s2 hc hs e2
    obtain ⟨w3, b3, e3⟩ := one c s 0 a w2 _ _ hc hs (by decide) e2
    obtain ⟨w4, b4, e4⟩ := one c s 1 _ w3 _ _ hc hs (by decide) (ext_tr e2 e3)
    refine ⟨w4, ?_, ext_tr e3 e4⟩
    rw [bk265_47, if_neg (by rw [nI_ltS (by decide) (by omega)]; omega), bk265_53]
    refine Eq.trans b3 (Eq.trans b4 ?_)
    rw [bk265_56, if_pos (by rw [nI_ltS (by decide) (by decide)]; decide), bk265_85, nI_add]
    rfl
  obtain ⟨wb, qb, eb⟩ := loopE (n := 36) (kc := fun _ => 4) (sc := fun _ => 12) (F := fun c a => edgJ kd hr mi c 2 (edgJ kd hr mi c 1 a)) (a := a1) (Q := fun k a w => am_run 265 38 [some (.ref m), some (.long a), none, some (.int (nI k)), none, none, none] [] w) ea (fun j a w2 k2 s2 hj e2 => by
    try dsimp only
    obtain ⟨w3, b3, e3⟩ := side j 1 a w2 _ _ hj (Or.inl rfl) e2
    obtain ⟨w4, b4, e4⟩ := side j 2 _ w3 _ _ hj (Or.inr rfl) (ext_tr e2 e3)
    refine ⟨w4, ?_, ext_tr e3 e4⟩
    rw [bk265_38, if_neg (by rw [nI_leS (by decide) (by omega)]; omega), bk265_44]
    refine Eq.trans b3 (Eq.trans b4 ?_)
    rw [bk265_47, if_pos (by rw [nI_ltS (by decide) (by decide)]; decide), bk265_91, nI_add])
  try dsimp only at qb
  generalize h2 : itA 36 (fun c a => edgJ kd hr mi c 2 (edgJ kd hr mi c 1 a)) a1 = a2 at qb
  have e2 := ext_tr ea eb
  have Rb := RX e2
  have L := Rb.2.2.2.2.2.1
  have wlJ : wl < wb.2.1 := lt_J (gJ_ext hJ1 e2) Rb.2.2.2.2.2.2.2.2.2.2.2.2 (by decide)
  obtain ⟨wc, qc, ec, li, ci⟩ := x105 L wlJ
  have e3 := ext_tr e2 ec
  have hit : w1.2.1 ≤ wb.2.1 := e2.2.1
  generalize hitq : wb.2.1 = it at qc li ci hit
  have n1 : wl ≠ it := by omega
  have n2 : ed ≠ it := fun q => by
    have : ed < wb.2.1 := by
      rcases L.2 with ⟨-, -, -, z⟩ | ⟨-, z⟩
      · exact lt_J (gJ_ext hJ1 e2) z (by decide)
      · exact lt_J (gJ_ext hJ1 e2) z (by decide)
    omega
  have go : ∀ c, c ≤ n → ∃ w2 l, ext w1 w2 (12 + 144 + 1 + 45 * c) (144 + 432 + 4 + 3913 * c) ∧ it < w2.2.1 ∧ cO w2 it 2 (itO c l n wl) ∧ am_run 265 105 [some (.ref m), some (.long a2), none, some (.ref it), none, none, none] [] wc = am_run 265 105 [some (.ref m), some (.long (itA c (fun k a => wlkJ kd hr mi (ws k) a) a2)), none, some (.ref it), none, none, none] [] w2 := by
    intro c
    induction c with
    | zero => exact fun _ => ⟨wc, -1, ext_wk e3 (by decide) (by decide), li, ci, rfl⟩
    | succ c ih =>
      intro hc
      obtain ⟨w2, l, k1, k2, k3, k4⟩ := ih (by omega)
      have R2 := RX k1
      have z52 := x52 k3 R2.2.2.2.2.2.1 hn (by omega)
      have z103 := x103 k3 R2.2.2.2.2.2.1 hn (by omega) n1 n2
      have e4 : ext w1 (am_pt w2 it (.inr (2, itO (c + 1) (nI c) n wl))) _ _ := ext_pt k1 hit
      have q4 : cO (am_pt w2 it (.inr (2, itO (c + 1) (nI c) n wl))) it 2 (itO (c + 1) (nI c) n wl) := pt_s
      have l4 : it < (am_pt w2 it (.inr (2, itO (c + 1) (nI c) n wl))).2.1 := k2
      generalize am_pt w2 it (.inr (2, itO (c + 1) (nI c) n wl)) = w4 at z103 e4 q4 l4
      obtain ⟨o1, o2, o3, o4, o5⟩ := ho c (by omega)
      obtain ⟨w5, b5, e5⟩ := wlk265 R1 hn hJ1 hk hh hm (i := c) (by omega) (sW_eta (ws c)) o4 (hwz c (by omega)) o1 (it := it) e4 (itA c (fun k a => wlkJ kd hr mi (ws k) a) a2)
      have kw := mk_kf (rm_get (RX e4) (i := c) (by omega) (sW_eta (ws c)))
      refine ⟨w5, nI c, ext_wk (ext_tr e4 e5) (by omega) (by omega), Nat.lt_of_lt_of_le l4 e5.2.1, cO_of q4 (e5.1 it l4), k4.trans ?_⟩
      rw [bk265_105]
      simp only [kfc k3, z52, decide_eq_true (show c < n by omega), bk265_111, b2i_0, reduceCtorEq, bk265_114, z103, bk265_120, kw, bk265_123, Option.bind_some, bct_v, bct_t, otl_s, otl_n, List.cons_append, List.nil_append, List.getElem?_cons_zero, List.getElem?_cons_succ, ↓reduceIte]
      exact b5
  obtain ⟨w2, l, k1, k2, k3, k4⟩ := go n (Nat.le_refl n)
  have R2 := RX k1
  have z52 := x52 k3 R2.2.2.2.2.2.1 hn (Nat.le_refl n)
  obtain ⟨w3, b3, e5⟩ := x186 R2 (gJ_ext hJ1 k1) hn hk hh hm ho
  rw [sndS_eq hn hwz (fun i hi => (ho i hi).2.2.2.1)] at b3
  have e6 := ext_tr k1 e5
  refine ⟨w3, ?_, ⟨_, _, _, _, _, _, _, RX e6⟩, stp_wk (stp_tr s1 (stp_ext hJ1 e6)) (by omega) (by omega)⟩
  simp only [bx265, bk265_0, p1, bk265_5, Option.bind_some, bct_v, bct_t, otl_s, otl_n, List.cons_append, List.nil_append, List.getElem?_cons_zero, List.getElem?_cons_succ, ↓reduceIte]
  refine Eq.trans qa ?_
  rw [bk265_11, if_pos (by rw [nI_ltS (by decide) (by decide)]; decide), bk265_36]
  refine Eq.trans qb ?_
  rw [bk265_38, if_pos (by rw [nI_leS (by decide) (by decide)]; decide)]
  simp only [bk265_97, gfc Rb.1, oM_0, oM_1, oM_2, oM_3, oM_4, oM_5, oM_6, oM_7, oM_8, oM_9, oM_10, oM_11, bk265_101, kfc L.1, qc, bk265_104, Option.bind_some, bct_v, bct_t, otl_s, otl_n, List.cons_append, List.nil_append, List.getElem?_cons_zero, List.getElem?_cons_succ, ↓reduceIte]
  refine Eq.trans k4 ?_
  simp only [bk265_105, kfc k3, z52, decide_eq_false (Nat.lt_irrefl n), bk265_111, b2i_0, bk265_332, rm_kf R2, b3, bk265_341, Option.bind_some, bct_v, bct_t, otl_s, otl_n, List.cons_append, List.nil_append, List.getElem?_cons_zero, List.getElem?_cons_succ, ↓reduceIte]
  unfold digS
  subst h1 h2
  cases sndS kd hr mi n ws with
  | true => rw [if_neg (by decide), bk265_344, bk265_349]; rfl
  | false => rw [if_pos rfl, bk265_348, bk265_349]; rfl
end DG
