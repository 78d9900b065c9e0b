/-! THE REFERENCE: the worst, the best, sets, doubt; a walker written. Mine. -/
section MORE
variable {w : am_Wd} {g : Nat → Nat} {m kq hq ca ba wl ed : Nat} {wad : Nat → Nat} {kd hr : Nat → Nat} {cp br : Nat → Bool} {n : Nat} {ws : Nat → sW} {th mi nd : Nat} {dr me di re : Int32}
variable {i a ho po ch : Nat} {lo ac bu sl : Int32} {may : Nat → Bool} {mp : Nat → Nat}
theorem all_nwr {w : am_Wd} {F : Nat → Int32} {p : Nat → Bool} (h : mR2 F p) : am_x 44 [.ref w.2.1] (nwr w 2 144 F) = some (.inl (some (.int (nI (cnt 144 p)))), nwr w 2 144 F) := x44 nwr_at h (by decide)
theorem it230 (hJ : gJ w g) (hp : mpo mp) (h : Mkv w g i a (ho, po, ch, lo, ac, bu, sl, may, mp)) {t : Nat} (ht : t < 8) {w1 : am_Wd} (e : ext w w1 t (144 * t)) : ∃ w2, am_run 230 44 [none, some (.ref a), none, some (.int (nI (wrsL may mp t))), some (.int (nI t))] [] w1 = am_run 230 44 [none, some (.ref a), none, some (.int (nI (wrsL may mp (t + 1)))), some (.int (nI (t + 1)))] [] w2 ∧ ext w w2 (t + 1) (144 * (t + 1)) := by
  have h1 := h.ext hJ e
  obtain ⟨F, f1, f2⟩ := x211 (gJ_ext hJ e) hp h1 ht
  have l1 := wrsL_le may mp t
  have l2 := cnt_le (mayL may mp t) 144
  refine ⟨nwr w1 2 144 F, ?_, ext_wk (ext_tr e nwr_ext) (by omega) (by omega)⟩
  rw [bk230_44, if_neg (by rw [nI_leS (by decide) (by omega)]; omega)]
  simp only [bk230_51, f2, bk230_58, all_nwr f1, bk230_61, bj_maxS (show wrsL may mp t < 2147483648 by omega) (show cnt 144 (mayL may mp t) < 2147483648 by omega), nI_add, Option.bind_some, bct_v, bct_t, otl_s, otl_n, List.cons_append, List.nil_append, List.getElem?_cons_zero, List.getElem?_cons_succ, ↓reduceIte]
  rfl
theorem wrsW_0 : wrsW may mp 0 = max (cnt 144 (mayF may mp true)) (cnt 144 (mayF may mp false)) := by
  unfold wrsW
  rw [if_pos rfl]
  rfl
theorem wrsW_3 : wrsW may mp 3 = wrsL may mp 8 := by
  unfold wrsW
  rw [if_neg (by decide), if_pos rfl]
theorem wrsW_1 {k : Nat} (h : k = 1 ∨ k = 2) : wrsW may mp k = cnt 144 may := by
  unfold wrsW
  rw [if_neg (by omega), if_neg (by omega)]
def c230 (k : Nat) : Nat := if k = 0 then 2 else if k = 3 then 8 else 0
theorem x230 (hJ : gJ w g) (hp : mpo mp) (h : Mkv w g i a (ho, po, ch, lo, ac, bu, sl, may, mp)) {x k : Nat} (hk : k ≤ 3) : ∃ w', am_x 230 [.ref x, .ref a, .int (nI k)] w = some (.inl (some (.int (nI (wrsW may mp k)))), w') ∧ ext w w' (c230 k) (144 * c230 k) := by
  have z := x37 h
  have kf := mk_kf h
  rcases (show k = 0 ∨ k = 1 ∨ k = 2 ∨ k = 3 by omega) with rfl | rfl | rfl | rfl
  · obtain ⟨F, f1, f2⟩ := x209 hJ hp h true
    have e1 : ext w (nwr w 2 144 F) 1 144 := nwr_ext
    have h1 := h.ext hJ e1
    obtain ⟨G, g1, g2⟩ := x209 (gJ_ext hJ e1) hp h1 false
    have f2' : am_x 209 [.ref a, .int (nI 1)] w = _ := f2
    have g2' : am_x 209 [.ref a, .int (nI 0)] (nwr w 2 144 F) = _ := g2
    have l1 := cnt_le (mayF may mp true) 144
    have l2 := cnt_le (mayF may mp false) 144
    refine ⟨nwr (nwr w 2 144 F) 2 144 G, ?_, ext_wk (ext_tr e1 nwr_ext) (by decide) (by decide)⟩
    simp only [bx230, bk230_0, bk230_5, bk230_15, nI_eqS (show 0 < 2147483648 by decide) (show 1 < 2147483648 by decide), nI_eqS (show 0 < 2147483648 by decide) (show 2 < 2147483648 by decide), show ¬ (0 = 1) from by decide, show ¬ (0 = 2) from by decide, not_false_eq_true, not_true_eq_false, bk230_19, f2', bk230_24, all_nwr f1, bk230_27, g2', bk230_32, all_nwr g1, bk230_35, bj_maxS (show cnt 144 (mayF may mp true) < 2147483648 by omega) (show cnt 144 (mayF may mp false) < 2147483648 by omega), wrsW_0, Option.bind_some, bct_v, bct_t, otl_s, otl_n, List.cons_append, List.nil_append, List.getElem?_cons_zero, List.getElem?_cons_succ, ↓reduceIte]
  · refine ⟨w, ?_, ext_wk ext_rf (by decide) (by decide)⟩
    simp only [bx230, bk230_0, bk230_10, kf, z, bk230_14, wrsW_1 (Or.inl rfl), Option.bind_some, bct_v, bct_t, otl_s, otl_n, List.cons_append, List.nil_append, List.getElem?_cons_zero, List.getElem?_cons_succ, ↓reduceIte]
  · refine ⟨w, ?_, ext_wk ext_rf (by decide) (by decide)⟩
    simp only [bx230, bk230_0, bk230_5, nI_eqS (show 2 < 2147483648 by decide) (show 1 < 2147483648 by decide), show ¬ (2 = 1) from by decide, not_true_eq_false, bk230_10, kf, z, bk230_14, wrsW_1 (Or.inr rfl), Option.bind_some, bct_v, bct_t, otl_s, otl_n, List.cons_append, List.nil_append, List.getElem?_cons_zero, List.getElem?_cons_succ, ↓reduceIte]
  · have go : ∀ t, t ≤ 8 → ∃ w2, am_run 230 44 [none, some (.ref a), none, some (.int (nI (wrsL may mp 0))), some (.int (nI 0))] [] w = am_run 230 44 [none, some (.ref a), none, some (.int (nI (wrsL may mp t))), some (.int (nI t))] [] w2 ∧ ext w w2 t (144 * t) := by
      intro t
      induction t with
      | zero => exact fun _ => ⟨w, rfl, ext_rf⟩
      | succ t ih =>
        intro ht
        obtain ⟨w2, e1, e2⟩ := ih (by omega)
        obtain ⟨w3, e3, e4⟩ := it230 hJ hp h (t := t) (by omega) e2
        exact ⟨w3, e1.trans e3, e4⟩
    obtain ⟨w2, e1, e2⟩ := go 8 (Nat.le_refl 8)
    refine ⟨w2, ?_, ext_wk e2 (by decide) (by decide)⟩
    simp only [bx230, bk230_0, bk230_5, bk230_15, nI_eqS (show 3 < 2147483648 by decide) (show 1 < 2147483648 by decide), nI_eqS (show 3 < 2147483648 by decide) (show 2 < 2147483648 by decide), nI_eqS (show 3 < 2147483648 by decide) (show 0 < 2147483648 by decide), show ¬ (3 = 1) from by decide, show ¬ (3 = 2) from by decide, show ¬ (3 = 0) from by decide, not_false_eq_true, bk230_39, Option.bind_some, bct_v, bct_t, otl_s, otl_n, List.cons_append, List.nil_append, List.getElem?_cons_zero, List.getElem?_cons_succ, ↓reduceIte]
    refine Eq.trans e1 ?_
    rw [bk230_44, if_pos (by rw [nI_leS (by decide) (by decide)]; decide), bk230_71, wrsW_3]
theorem c230_2 {k : Nat} (h : k ≤ 2) : c230 k ≤ 2 := by
  unfold c230
  split
  · exact Nat.le_refl 2
  · rw [if_neg (by omega)]
    decide
theorem it248 (R : RMx w g m kq hq ca ba wl ed wad kd hr cp br n ws th mi nd dr me di re) (hn : n ≤ 3) (hJ : gJ w g) (hi : i < n) (hy : ws i = (ho, po, ch, lo, ac, bu, sl, may, mp)) (hp : mpo mp) {k k0 s0 : Nat} (hk : k < 3) {w1 : am_Wd} (e : ext w w1 k0 s0) :
    ∃ w2, am_run 248 4 [some (.ref m), some (.ref (wad i)), some (.int (nI (bstS may mp k))), some (.int (nI (k + 1)))] [] w1 = am_run 248 4 [some (.ref m), some (.ref (wad i)), some (.int (nI (bstS may mp (k + 1)))), some (.int (nI (k + 2)))] [] w2 ∧ ext w1 w2 (c230 (k + 1) + 2) (144 * (c230 (k + 1) + 2)) := by
  have R1 := rm_ext R hn hJ e
  have hJ1 := gJ_ext hJ e
  have hb := bstS_le may mp k
  obtain ⟨w2, a2, e2⟩ := x230 hJ1 hp (rm_get R1 hi hy) (x := m) (k := k + 1) (by omega)
  have R2 := rm_ext R1 hn hJ1 e2
  obtain ⟨w3, a3, e3⟩ := x230 (gJ_ext hJ1 e2) hp (rm_get R2 hi hy) (x := m) (k := bstS may mp k) (by omega)
  have l1 : wrsW may mp (k + 1) ≤ 144 := wrsW_le ..
  have l2 : wrsW may mp (bstS may mp k) ≤ 144 := wrsW_le ..
  have l3 : c230 (bstS may mp k) ≤ 2 := c230_2 (by omega)
  refine ⟨w3, ?_, ext_wk (ext_tr e2 e3) (by omega) (by omega)⟩
  rw [bk248_4, if_neg (by rw [nI_leS (by decide) (by omega)]; omega)]
  simp only [bk248_9, rm_kf R1, a2, bk248_15, rm_kf R2, a3, bk248_21, Option.bind_some, bct_v, bct_t, otl_s, otl_n, List.cons_append, List.nil_append, List.getElem?_cons_zero, List.getElem?_cons_succ, ↓reduceIte]
  show _ = am_run 248 4 [some (.ref m), some (.ref (wad i)), some (.int (nI (if wrsW may mp (k + 1) < wrsW may mp (bstS may mp k) then k + 1 else bstS may mp k))), some (.int (nI (k + 2)))] [] w3
  by_cases q : wrsW may mp (k + 1) < wrsW may mp (bstS may mp k)
  · rw [if_pos q, if_neg (by rw [nI_leS (by omega) (by omega)]; omega), bk248_24, bk248_26, nI_add]
  · rw [if_neg q, if_pos (by rw [nI_leS (by omega) (by omega)]; omega), bk248_26, nI_add]
theorem x248 (R : RMx w g m kq hq ca ba wl ed wad kd hr cp br n ws th mi nd dr me di re) (hn : n ≤ 3) (hJ : gJ w g) (hi : i < n) (hy : ws i = (ho, po, ch, lo, ac, bu, sl, may, mp)) (hp : mpo mp) : ∃ w', am_x 248 [.ref m, .ref (wad i)] w = some (.inl (some (.int (nI (bstS may mp 3)))), w') ∧ ext w w' 14 2016 := by
  obtain ⟨w1, a1, e1⟩ := it248 R hn hJ hi hy hp (k := 0) (by decide) (w1 := w) ext_rf
  obtain ⟨w2, a2, e2⟩ := it248 R hn hJ hi hy hp (k := 1) (by decide) e1
  have e12 := ext_tr e1 e2
  obtain ⟨w3, a3, e3⟩ := it248 R hn hJ hi hy hp (k := 2) (by decide) e12
  refine ⟨w3, ?_, ext_wk (ext_tr e12 e3) (by decide) (by decide)⟩
  rw [bx248, bk248_0]
  refine Eq.trans a1 (Eq.trans a2 (Eq.trans a3 ?_))
  rw [bk248_4, if_pos (by rw [nI_leS (by decide) (by decide)]; decide), bk248_32]
/-- where it may be, and how much of the floor -/
theorem x48 (h : Mkv w g i a (ho, po, ch, lo, ac, bu, sl, may, mp)) {x f : Nat} (hf : f < 4) : am_x 48 [.ref x, .ref a, .int (nI f)] w = some (.inl (some (.long (whS may f))), w) := by
  obtain ⟨ma, mq, h1, h2, -⟩ := h
  rw [bx48, bk48_0]
  have go : ∀ c, c ≤ 36 → am_run 48 5 [none, some (.ref a), some (.int (nI f)), some (.long (lN (msk 0 fun c => may (4 * c + f)))), none, some (.int (nI 0))] [] w = am_run 48 5 [none, some (.ref a), some (.int (nI f)), some (.long (lN (msk c fun c => may (4 * c + f)))), none, some (.int (nI c))] [] w := by
    intro c
    induction c with
    | zero => exact fun _ => rfl
    | succ c ih =>
      intro hc
      refine (ih (by omega)).trans ?_
      have r := h2.at (p := 4 * c + f) (by omega)
      have hlt : ∀ n, n ≤ 36 → msk n (fun c => may (4 * c + f)) < 2 ^ 64 := by
        intro n
        induction n with
        | zero => exact fun _ => by show 0 < 2 ^ 64; decide
        | succ n ih =>
          intro hn
          show msk n _ ||| (if may (4 * n + f) = true then 2 ^ n else 0) < 2 ^ 64
          refine Nat.or_lt_two_pow (ih (by omega)) ?_
          split
          · exact wb_lt2 (by omega)
          · decide
      have s1 : bj_lshl (lN 1) (nI c) = lN (2 ^ c) := by rw [lN_sl (by omega), Nat.one_mul]
      have o1 := wb_or (hlt c (by omega)) (wb_lt2 (a := c) (b := 64) (by omega))
      have o2 := wb_or (hlt c (by omega)) (show 0 < 2 ^ 64 by decide)
      rw [bk48_5, if_neg (by rw [nI_leS (by decide) (by omega)]; omega)]
      simp only [bk48_12, gfc h1, oK_0, oK_1, oK_2, oK_3, oK_4, oK_5, oK_6, oK_7, oK_8, bk48_17, nI_mulS, nI_add, r, bk48_24, b2i_0, Option.bind_some, bct_v, bct_t, otl_s, otl_n, List.cons_append, List.nil_append, List.getElem?_cons_zero, List.getElem?_cons_succ, ↓reduceIte]
      show _ = am_run 48 5 [none, some (.ref a), some (.int (nI f)), some (.long (lN (msk c (fun c => may (4 * c + f)) ||| (if may (4 * c + f) = true then 2 ^ c else 0)))), none, some (.int (nI (c + 1)))] [] w
      cases e : may (4 * c + f) with
      | true => rw [if_neg (fun q => nomatch q), bk48_27, s1, bk48_35, o1, nI_add]; rfl
      | false => rw [if_pos rfl, bk48_34, bk48_35, o2, nI_add]; rfl
  refine Eq.trans (go 36 (Nat.le_refl 36)) ?_
  rw [bk48_5, if_pos (by rw [nI_leS (by decide) (by decide)]; decide), bk48_43]
  rfl
theorem x49 (h : Mkv w g i a (ho, po, ch, lo, ac, bu, sl, may, mp)) {x : Nat} : am_x 49 [.ref x, .ref a] w = some (.inl (some (.double (dbtS may))), w) := by
  obtain ⟨ma, mq, h1, h2, -⟩ := h
  rw [bx49, bk49_0]
  have hl := cnt_le (anyF may) 36
  have hn := dbt_ok ⟨cnt 36 (anyF may), by omega⟩
  have e := csum (n := 36) (p := anyF may) (Q := fun c s => am_run 49 4 [none, some (.ref a), some (.int (nI s)), some (.int (nI c))] [] w) (fun c s hc => by
    try dsimp only
    have r0 := h2.at (p := 4 * c) (by omega)
    have r1 := h2.at (p := 4 * c + 1) (by omega)
    have r2 := h2.at (p := 4 * c + 2) (by omega)
    have r3 := h2.at (p := 4 * c + 3) (by omega)
    rw [bk49_4, if_neg (by rw [nI_leS (by decide) (by omega)]; omega)]
    unfold anyF
    cases e0 : may (4 * c) with
    | true =>
      rw [e0] at r0
      simp only [bk49_10, gfc h1, oK_0, oK_1, oK_2, oK_3, oK_4, oK_5, oK_6, oK_7, oK_8, bk49_15, nI_mulS, nI_add, r0, bk49_19, b2i_0, reduceCtorEq, not_false_eq_true, bk49_61, bk49_66, Bool.true_or, Option.bind_some, bct_v, bct_t, otl_s, otl_n, List.cons_append, List.nil_append, List.getElem?_cons_zero, List.getElem?_cons_succ, ↓reduceIte]
    | false =>
      rw [e0] at r0
      cases e1 : may (4 * c + 1) with
      | true =>
        rw [e1] at r1
        simp only [bk49_10, gfc h1, oK_0, oK_1, oK_2, oK_3, oK_4, oK_5, oK_6, oK_7, oK_8, bk49_15, nI_mulS, nI_add, r0, bk49_19, b2i_0, reduceCtorEq, not_true_eq_false, not_false_eq_true, bk49_22, bk49_26, r1, bk49_32, bk49_61, bk49_66, Bool.true_or, Bool.false_or, Option.bind_some, bct_v, bct_t, otl_s, otl_n, List.cons_append, List.nil_append, List.getElem?_cons_zero, List.getElem?_cons_succ, ↓reduceIte]
      | false =>
        rw [e1] at r1
        cases e2 : may (4 * c + 2) with
        | true =>
          rw [e2] at r2
          simp only [bk49_10, gfc h1, oK_0, oK_1, oK_2, oK_3, oK_4, oK_5, oK_6, oK_7, oK_8, bk49_15, nI_mulS, nI_add, r0, bk49_19, b2i_0, reduceCtorEq, not_true_eq_false, not_false_eq_true, bk49_22, bk49_26, r1, bk49_32, bk49_35, bk49_39, r2, bk49_45, bk49_61, bk49_66, Bool.true_or, Bool.false_or, Option.bind_some, bct_v, bct_t, otl_s, otl_n, List.cons_append, List.nil_append, List.getElem?_cons_zero, List.getElem?_cons_succ, ↓reduceIte]
        | false =>
          rw [e2] at r2
          cases e3 : may (4 * c + 3) with
          | true =>
            rw [e3] at r3
            simp only [bk49_10, gfc h1, oK_0, oK_1, oK_2, oK_3, oK_4, oK_5, oK_6, oK_7, oK_8, bk49_15, nI_mulS, nI_add, r0, bk49_19, b2i_0, reduceCtorEq, not_true_eq_false, not_false_eq_true, bk49_22, bk49_26, r1, bk49_32, bk49_35, bk49_39, r2, bk49_45, bk49_48, bk49_52, r3, bk49_58, bk49_61, bk49_66, Bool.true_or, Bool.false_or, Option.bind_some, bct_v, bct_t, otl_s, otl_n, List.cons_append, List.nil_append, List.getElem?_cons_zero, List.getElem?_cons_succ, ↓reduceIte]
          | false =>
            rw [e3] at r3
            simp only [bk49_10, gfc h1, oK_0, oK_1, oK_2, oK_3, oK_4, oK_5, oK_6, oK_7, oK_8, bk49_15, nI_mulS, nI_add, r0, bk49_19, b2i_0, reduceCtorEq, not_true_eq_false, not_false_eq_true, bk49_22, bk49_26, r1, bk49_32, bk49_35, bk49_39, r2, bk49_45, bk49_48, bk49_52, r3, bk49_58, bk49_65, bk49_66, Bool.or_false, Option.bind_some, bct_v, bct_t, otl_s, otl_n, List.cons_append, List.nil_append, List.getElem?_cons_zero, List.getElem?_cons_succ, ↓reduceIte])
  refine Eq.trans e ?_
  try dsimp only
  rw [bk49_4, if_pos (by rw [nI_leS (by decide) (by decide)]; decide), bk49_74 hn, bk49_80]
  rfl
/-- the walker's fields written -/
theorem Mkv_fld {ho' po' ch' : Nat} {lo' ac' bu' sl' : Int32} {ma mq : Nat} (h2 : mR w ma may) (h3 : Rws w g mq (400 + 100 * i) mp) (hi : i < 3) (g1 : g a = 110 + 10 * i) (g2 : g ma = 111 + 10 * i) (g3 : g mq = 112 + 10 * i) :
    Mkv (am_pt w a (.inr (10, oK po' ho' ch' ma mq lo' ac' bu' sl'))) g i a (ho', po', ch', lo', ac', bu', sl', may, mp) ∧ frm g (110 + 10 * i) (111 + 10 * i) w (am_pt w a (.inr (10, oK po' ho' ch' ma mq lo' ac' bu' sl'))) := by
  have f : frm g (110 + 10 * i) (111 + 10 * i) w (am_pt w a (.inr (10, oK po' ho' ch' ma mq lo' ac' bu' sl'))) := frm_pt (by omega) (by omega)
  exact ⟨⟨ma, mq, pt_s, h2.of (f.1 ma (by omega)), h3.of (f.1 mq (by omega)) (fun b z1 z2 => f.1 b (by omega)), g1, g2, g3⟩, f⟩
theorem x43 {p k : Nat} (hp : p < 144) (hk : k < 4) : am_x 43 [.int (nI p), .int (nI k)] w = some (.inl (some (.int (nI (p / 4 * 4 + (p + k) % 4)))), w) := by
  rw [bx43, bk43_0, nI_divS (by omega) (by decide) (by decide), nI_mulS, nI_add, nI_remS (by omega) (by decide) (by decide), nI_add]
def mrw (w : am_Wd) (ma : Nat) (F : Nat → Int32) : am_Wd := am_pt w ma (.inl (2, 144, .inl F))
theorem x45 (h : Mkv w g i a (ho, po, ch, lo, ac, bu, sl, may, mp)) : ∃ w', am_x 45 [.ref a] w = some (.inl none, w') ∧ Mkv w' g i a (ho, po, ch, lo, ac, bu, sl, fun _ => true, mp) ∧ frm g (111 + 10 * i) (112 + 10 * i) w w' := by
  obtain ⟨ma, mq, h1, ⟨f, f1, f2⟩, h3, g1, g2, g3⟩ := h
  have ne : a ≠ ma := g_ne g1 g2 (by omega)
  have e0 : w = mrw w ma f := (pt_id f1).symm
  have cO' : ∀ F, cO (mrw w ma F) a 10 (oK po ho ch ma mq lo ac bu sl) := fun F => cO_of h1 (pt_n ne)
  have cI' : ∀ F, cI (mrw w ma F) ma 2 144 F := fun F => pt_s
  obtain ⟨F, k1, e⟩ := loopN (n := 144) (Q := fun k F => am_run 45 2 [some (.ref a), some (.int (nI k))] [] (mrw w ma F)) (I := fun k F => ∀ q, q < k → F q = b2i true) (b := f) (fun q hq => absurd hq (by omega)) (fun k F hk hI => by
    refine ⟨upd F k (b2i true), fun q hq => ?_, ?_⟩
    · by_cases c : q = k
      · subst c; rw [pk_us]
      · rw [pk_un c]; exact hI q (by omega)
    · have w1 : am_wi 2 (mrw w ma F) ma (nI k) (b2i true) = some (mrw w ma (upd F k (b2i true))) := by
        rw [wic (cI' F) hk (by decide)]
        unfold mrw
        rw [pt_pt]
      try dsimp only
      rw [bk45_2, if_neg (by rw [nI_leS (by decide) (by omega)]; omega)]
      simp only [bk45_9, gfc (cO' F), oK_0, oK_1, oK_2, oK_3, oK_4, oK_5, oK_6, oK_7, oK_8, bk45_13, nar_1, w1, bk45_16, nI_add, Option.bind_some, bct_v, bct_t, otl_s, otl_n, List.cons_append, List.nil_append, List.getElem?_cons_zero, List.getElem?_cons_succ, ↓reduceIte])
  have fr : frm g (111 + 10 * i) (112 + 10 * i) w (mrw w ma F) := frm_pt (by omega) (by omega)
  refine ⟨mrw w ma F, ?_, ⟨ma, mq, cO' F, ⟨F, cI' F, fun q hq => k1 q hq⟩, h3.of (fr.1 mq (by omega)) (fun b z1 z2 => fr.1 b (by omega)), g1, g2, g3⟩, fr⟩
  rw [bx45, bk45_0]
  try dsimp only at e
  rw [← e0] at e
  rw [e, bk45_2, if_pos (by rw [nI_leS (by decide) (by decide)]; decide), bk45_22]
end MORE
