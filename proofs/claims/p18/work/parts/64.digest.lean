/-! SOUND AND DIGEST, the class's. Mine. -/
def jn (s v : Int64) : Int64 := s * lN 31 + v
def itA {β : Type} : Nat → (Nat → β → β) → β → β
  | 0, _, a => a
  | k + 1, F, a => F k (itA k F a)
theorem loopA {α β : Type} {n : Nat} {F : Nat → β → β} {Q : Nat → β → α} {a : β} (h : ∀ k a, k < n → Q k a = Q (k + 1) (F k a)) : Q 0 a = Q n (itA n F a) := by
  have go : ∀ k, k ≤ n → Q 0 a = Q k (itA k F a) := by
    intro k
    induction k with
    | zero => exact fun _ => rfl
    | succ k ih => exact fun hk => (ih (by omega)).trans (h k _ (by omega))
  exact go n (Nat.le_refl n)
theorem itA_cg {β : Type} {F G : Nat → β → β} : ∀ n, (∀ k a, k < n → F k a = G k a) → ∀ a, itA n F a = itA n G a
  | 0, _, _ => rfl
  | n + 1, h, a => by
    show F n (itA n F a) = G n (itA n G a)
    rw [itA_cg n (fun k a hk => h k a (by omega)) a, h n _ (by omega)]
/-- the number of a set -/
def msk : Nat → (Nat → Bool) → Nat
  | 0, _ => 0
  | n + 1, p => msk n p ||| (if p n = true then 2 ^ n else 0)
theorem msk_tb (p : Nat → Bool) : ∀ n c, (msk n p).testBit c = (decide (c < n) && p c)
  | 0, c => by
    show (0 : Nat).testBit c = _
    rw [Nat.zero_testBit]
    rfl
  | n + 1, c => by
    show (msk n p ||| (if p n = true then 2 ^ n else 0)).testBit c = _
    rw [Nat.testBit_or, msk_tb p n c]
    by_cases hp : p n = true
    · rw [if_pos hp, Nat.testBit_two_pow]
      by_cases e : n = c
      · subst e
        rw [decide_eq_true (show n = n from rfl), decide_eq_true (show n < n + 1 by omega), hp]
        simp
      · rw [decide_eq_false e, Bool.or_false]
        by_cases h2 : c < n
        · rw [decide_eq_true h2, decide_eq_true (show c < n + 1 by omega)]
        · rw [decide_eq_false h2, decide_eq_false (show ¬ c < n + 1 by omega)]
    · rw [if_neg hp, Nat.zero_testBit, Bool.or_false]
      by_cases e : c = n
      · subst e
        rw [decide_eq_false (show ¬ c < c by omega), Bool.eq_false_iff.mpr hp]
        simp
      · by_cases h2 : c < n
        · rw [decide_eq_true h2, decide_eq_true (show c < n + 1 by omega)]
        · rw [decide_eq_false h2, decide_eq_false (show ¬ c < n + 1 by omega)]
theorem bm_msk {N : Nat} {p : Nat → Bool} (h : bm N p) : N = msk 36 p := by
  apply Nat.eq_of_testBit_eq
  intro c
  rw [bm_tb h, msk_tb]
def whS (may : Nat → Bool) (f : Nat) : Int64 := lN (msk 36 fun c => may (4 * c + f))
def edgJ (kd hr : Nat → Nat) (mi c s : Nat) (a : Int64) : Int64 := jn (jn a (edgS kd hr mi c s 0).toInt64) (edgS kd hr mi c s 1).toInt64
def wlkJ (kd hr : Nat → Nat) (mi : Nat) (y : sW) (a : Int64) : Int64 :=
  itA 36 (fun c a => jn (jn a (nI (kno y.2.2.2.2.2.2.2.2 c 1)).toInt64) (nI (kno y.2.2.2.2.2.2.2.2 c 2)).toInt64)
    (jn (jn (itA 4 (fun k a => jn a (nI (wrsW y.2.2.2.2.2.2.2.1 y.2.2.2.2.2.2.2.2 k)).toInt64)
      (itA 4 (fun k a => jn a (sftS y k).toInt64)
        (itA 4 (fun f a => jn a (whS y.2.2.2.2.2.2.2.1 f))
          (itA 13 (fun k a => jn a (ofwS kd hr mi y k).toInt64) a))))
      (nI (bstS y.2.2.2.2.2.2.2.1 y.2.2.2.2.2.2.2.2 3)).toInt64)
      (FP.d2l (FP.dmul 4634204016564240384 (dbtS y.2.2.2.2.2.2.2.1))))
def digS (kd hr : Nat → Nat) (cp br : Nat → Bool) (n : Nat) (ws : Nat → sW) (mi : Nat) (dr me di re : Int32) : Int64 :=
  jn (itA n (fun k a => wlkJ kd hr mi (ws k) a)
    (itA 36 (fun c a => edgJ kd hr mi c 2 (edgJ kd hr mi c 1 a))
      (itA 12 (fun k a => jn a (hsS kd hr cp br n mi dr me di re k).toInt64) (lN 58286))))
    (b2i (sndS kd hr mi n ws)).toInt64
theorem mul_ok : ∀ k : Fin 37, (FP.dmul 4634204016564240384 (FP.ddiv (FP.i2d (nI k.val)) 4630263366890291200)) &&& 0x7fffffffffffffff ≤ 0x7ff0000000000000 := by decide +kernel
section DIG
variable {w : am_Wd} {g : Nat → Nat} {x fl ka ha wr C B : Nat} {wad : Nat → Nat} {kd hr : Nat → Nat} {cp br : Nat → Bool} {n : Nat} {ws : Nat → sW} {mi nd : Nat} {dr me di re : Int32}
variable {i ho po ch : Nat} {lo ac bu sl : Int32} {may : Nat → Bool} {mp : Nat → Nat}
theorem x25 {s v : Int64} : am_x 25 [.long s, .long v] w = some (.inl (some (.long (jn s v))), w) := by
  rw [bx25, bk25_0]
  rfl
theorem x205 (R : RCx w g x fl ka ha wr C B wad kd hr cp br n ws mi nd dr me di re) (hk : kdok kd) (hh : hrok hr) (hm : mi ≤ 3000) {a : Nat} (h : Wkv w g i a (ho, po, ch, lo, ac, bu, sl, may, mp)) (hp : mpo mp) : am_x 205 [.ref x, .ref a] w = some (.inl (some (.int (b2i (decide (nI (knwS kd hr mp (mi / 60 % 24) true) + nI (knwS kd hr mp (mi / 60 % 24) false) = figS (ho, po, ch, lo, ac, bu, sl, may, mp) 5 + figS (ho, po, ch, lo, ac, bu, sl, may, mp) 6))))), w) := by
  obtain ⟨m, be, fa, wa, ca, F, W, N, h1, h2, h3, h4, g1, g2, g3, g4, g5, g6⟩ := h
  have k1 : am_x 159 [.ref fl, .ref m, .int (nI 1), .int (nI (mi / 60 % 24))] w = _ := x159 R.2.1 hk hh h2 hp (h := mi / 60 % 24) (by omega) true
  have k0 : am_x 159 [.ref fl, .ref m, .int (nI 0), .int (nI (mi / 60 % 24))] w = _ := x159 R.2.1 hk hh h2 hp (h := mi / 60 % 24) (by omega) false
  have z83 := x83 h2
  have z84 := x84 h2
  simp only [bk205_0, bk205_4, bk205_9, bk205_13, bk205_18, bk205_23, bk205_27, bk205_32, bk205_42, bk205_45, bk205_49, bk205_52, bx205, rc_kf R, x33 R hm, gfc R.1, oX_0, oX_1, oX_2, oX_3, oX_4, oX_5, oX_6, oX_7, oX_8, gfc h1, oW_0, oW_1, oW_2, oW_3, oW_4, oW_5, oW_6, oW_7, oW_8, kfc R.2.1.1, kfc h2.1, k1, k0, z83, z84, Option.bind_some, bct_v, bct_t, otl_s, otl_n, List.cons_append, List.nil_append, List.getElem?_cons_zero, List.getElem?_cons_succ, ↓reduceIte]
  simp only [figS]
  by_cases e : nI (knwS kd hr mp (mi / 60 % 24) true) + nI (knwS kd hr mp (mi / 60 % 24) false) = nI (cnt 36 (fun c => kno mp c 1 == 1) + cnt 36 (fun c => kno mp c 2 == 1)) + (nI (cnt 36 (fun c => kno mp c 1 == 2) + cnt 36 (fun c => kno mp c 2 == 2)) - nI 12)
  · rw [if_neg (fun q => q e), bk205_56, bk205_61 (by rfl), decide_eq_true e]; rfl
  · rw [if_pos e, bk205_60, bk205_61 (by rfl), decide_eq_false e]; rfl
/-- what holds of each walker -/
def okY (y : sW) : Prop := y.1 < 36 ∧ y.2.1 < 144 ∧ y.2.2.1 ≤ 500 ∧ mpo y.2.2.2.2.2.2.2.2 ∧ 1 ≤ cnt 144 y.2.2.2.2.2.2.2.1
theorem sW_eta (y : sW) : y = (y.1, y.2.1, y.2.2.1, y.2.2.2.1, y.2.2.2.2.1, y.2.2.2.2.2.1, y.2.2.2.2.2.2.1, y.2.2.2.2.2.2.2.1, y.2.2.2.2.2.2.2.2) := rfl
theorem x224 (R : RCx w g x fl ka ha wr C B wad kd hr cp br n ws mi nd dr me di re) (hn : n ≤ 3) (hk : kdok kd) (hh : hrok hr) (hm : mi ≤ 3000) (ho : ∀ i, i < n → okY (ws i)) : am_x 224 [.ref x] w = some (.inl (some (.int (b2i (sndS kd hr mi n ws)))), w) := by
  have hQ := R.2.2.2.2.1
  rw [bx224, bk224_0]
  have k := scan (n := 3) (p := fun i => decide (i < n) && !(sndW kd hr mi (ws i))) (Q := fun k => am_run 224 2 [some (.ref x), some (.int (nI k)), none] [] w) (R := fun _ => some (.inl (some (.int (nI 0))), w)) (E := some (.inl (some (.int (nI 1))), w))
    (fun j hj hp => by
      try dsimp only at hp ⊢
      have hjn : j < n := of_decide_eq_true (Bool.and_eq_true_iff.mp hp).1
      have hsn : sndW kd hr mi (ws j) = false := by
        have := (Bool.and_eq_true_iff.mp hp).2
        simpa using this
      have rq := rqc hQ (i := j) (Or.inl rfl) hj (by decide)
      rw [show wks n wad j = some (wad j) from if_pos hjn] at rq
      have rq' : am_rq w wr (nI j) = some (.ref (wad j)) := rq
      obtain ⟨o1, o2, o3, o4, o5⟩ := ho j hjn
      have h' := rc_get R hjn (sW_eta (ws j))
      have z130 := x130 h' o2 o3 o5
      have z205 := x205 R hk hh hm h' o4
      rw [bk224_2]
      unfold sndW at hsn
      cases q1 : decide (¬ (ws j).2.2.2.2.1 < (ws j).2.2.2.2.2.1 + (ws j).2.2.2.2.2.2.1) with
      | false =>
        rw [q1] at z130
        simp only [gfc R.1, oX_0, oX_1, oX_2, oX_3, oX_4, oX_5, oX_6, oX_7, oX_8, bk224_7, lenQ hQ (by decide), bk224_8, nI_leS (show 3 < 2147483648 by decide) (show j < 2147483648 by omega), show ¬ 3 ≤ j from by omega, bk224_11, bk224_15, rq', bk224_17, wk_kf h', z130, bk224_26, b2i_0, bk224_37, Option.bind_some, bct_v, bct_t, otl_s, otl_n, List.cons_append, List.nil_append, List.getElem?_cons_zero, List.getElem?_cons_succ, ↓reduceIte]
      | true =>
        rw [q1] at z130 hsn
        rw [Bool.true_and] at hsn
        have z205' : am_x 205 [.ref x, .ref (wad j)] w = some (.inl (some (.int (b2i false))), w) := by rw [z205]; rw [show decide _ = false from hsn]
        simp only [gfc R.1, oX_0, oX_1, oX_2, oX_3, oX_4, oX_5, oX_6, oX_7, oX_8, bk224_7, lenQ hQ (by decide), bk224_8, nI_leS (show 3 < 2147483648 by decide) (show j < 2147483648 by omega), show ¬ 3 ≤ j from by omega, bk224_11, bk224_15, rq', bk224_17, wk_kf h', z130, bk224_26, b2i_0, reduceCtorEq, bk224_29, rc_kf R, z205', bk224_34, not_true_eq_false, bk224_37, Option.bind_some, bct_v, bct_t, otl_s, otl_n, List.cons_append, List.nil_append, List.getElem?_cons_zero, List.getElem?_cons_succ, ↓reduceIte])
    (fun j hj hp => by
      try dsimp only at hp ⊢
      have rq := rqc hQ (i := j) (Or.inl rfl) hj (by decide)
      rw [bk224_2]
      by_cases hjn : j < n
      · have hsn : sndW kd hr mi (ws j) = true := by
          rw [decide_eq_true hjn, Bool.true_and] at hp
          simpa using hp
        rw [show wks n wad j = some (wad j) from if_pos hjn] at rq
        have rq' : am_rq w wr (nI j) = some (.ref (wad j)) := rq
        obtain ⟨o1, o2, o3, o4, o5⟩ := ho j hjn
        have h' := rc_get R hjn (sW_eta (ws j))
        have z130 := x130 h' o2 o3 o5
        have z205 := x205 R hk hh hm h' o4
        unfold sndW at hsn
        obtain ⟨s1, s2⟩ := Bool.and_eq_true_iff.mp hsn
        rw [s1] at z130
        have z205' : am_x 205 [.ref x, .ref (wad j)] w = some (.inl (some (.int (b2i true))), w) := by rw [z205]; rw [show decide _ = true from s2]
        simp only [gfc R.1, oX_0, oX_1, oX_2, oX_3, oX_4, oX_5, oX_6, oX_7, oX_8, bk224_7, lenQ hQ (by decide), bk224_8, nI_leS (show 3 < 2147483648 by decide) (show j < 2147483648 by omega), show ¬ 3 ≤ j from by omega, bk224_11, bk224_15, rq', bk224_17, wk_kf h', z130, bk224_26, b2i_0, reduceCtorEq, bk224_29, rc_kf R, z205', bk224_34, not_false_eq_true, bk224_39, nI_add, Option.bind_some, bct_v, bct_t, otl_s, otl_n, List.cons_append, List.nil_append, List.getElem?_cons_zero, List.getElem?_cons_succ, ↓reduceIte]
      · rw [show wks n wad j = none from if_neg hjn] at rq
        have rq' : am_rq w wr (nI j) = some .null := rq
        simp only [gfc R.1, oX_0, oX_1, oX_2, oX_3, oX_4, oX_5, oX_6, oX_7, oX_8, bk224_7, lenQ hQ (by decide), bk224_8, nI_leS (show 3 < 2147483648 by decide) (show j < 2147483648 by omega), show ¬ 3 ≤ j from by omega, bk224_11, bk224_15, rq', bk224_17a, bk224_39, nI_add, Option.bind_some, bct_v, bct_t, otl_s, otl_n, List.cons_append, List.nil_append, List.getElem?_cons_zero, List.getElem?_cons_succ, ↓reduceIte])
    (by
      try dsimp only
      rw [bk224_2]
      simp only [gfc R.1, oX_0, oX_1, oX_2, oX_3, oX_4, oX_5, oX_6, oX_7, oX_8, bk224_7, lenQ hQ (by decide), bk224_8, Nat.le_refl, bk224_45, nI_leS (show 3 < 2147483648 by decide) (show 3 < 2147483648 by decide), Option.bind_some, bct_v, bct_t, otl_s, otl_n, List.cons_append, List.nil_append, List.getElem?_cons_zero, List.getElem?_cons_succ, ↓reduceIte])
  refine Eq.trans k ?_
  unfold sndS
  cases fst1 3 (fun i => decide (i < n) && !(sndW kd hr mi (ws i))) <;> rfl
theorem x244 (R : RCx w g x fl ka ha wr C B wad kd hr cp br n ws mi nd dr me di re) (hn : n ≤ 3) (hk : kdok kd) (hh : hrok hr) (hm : mi ≤ 3000) (hi : i < n) (hy : ws i = (ho, po, ch, lo, ac, bu, sl, may, mp)) (hp : mpo mp) (hho : ho < 36) (a : Int64) : am_x 244 [.ref x, .long a, .int (nI i)] w = some (.inl (some (.long (wlkJ kd hr mi (ws i) a))), w) := by
  rw [bx244, bk244_0]
  have l1 := loopA (n := 13) (F := fun k a => jn a (ofwS kd hr mi (ws i) k).toInt64) (a := a) (Q := fun k a => am_run 244 6 [some (.ref x), none, none, some (.int (nI i)), some (.long a), none, some (.int (nI k))] [] w) (fun k a hk1 => by
    try dsimp only
    have z := x201 R hn hk hh hm hi hy hp (k := k) (by omega)
    rw [bk244_6, if_neg (by rw [nI_ltS (by decide) (by omega)]; omega)]
    simp only [bk244_13, rc_kf R, z, bk244_22, x25, bk244_26, nI_add, Option.bind_some, bct_v, bct_t, otl_s, otl_n, List.cons_append, List.nil_append, List.getElem?_cons_zero, List.getElem?_cons_succ, ↓reduceIte])
  refine Eq.trans l1 ?_
  try dsimp only
  generalize h1 : itA 13 (fun k a => jn a (ofwS kd hr mi (ws i) k).toInt64) a = a1
  rw [bk244_6, if_pos (by rw [nI_ltS (by decide) (by decide)]; decide), bk244_34]
  have l2 := loopA (n := 4) (F := fun f a => jn a (whS may f)) (a := a1) (Q := fun k a => am_run 244 37 [some (.ref x), none, none, some (.int (nI i)), some (.long a), none, some (.int (nI k))] [] w) (fun k a hk1 => by
    try dsimp only
    obtain ⟨N, z1, z2⟩ := x139 R hn hi hy (f := k) (by omega)
    rw [bm_msk z2] at z1
    rw [bk244_37, if_neg (by rw [nI_leS (by decide) (by omega)]; omega)]
    simp only [bk244_43, rc_kf R, z1, bk244_52, x25, bk244_55, nI_add, Option.bind_some, bct_v, bct_t, otl_s, otl_n, List.cons_append, List.nil_append, List.getElem?_cons_zero, List.getElem?_cons_succ, ↓reduceIte]
    rfl)
  refine Eq.trans l2 ?_
  try dsimp only
  generalize h2 : itA 4 (fun f a => jn a (whS may f)) a1 = a2
  rw [bk244_37, if_pos (by rw [nI_leS (by decide) (by decide)]; decide), bk244_63]
  have l3 := loopA (n := 4) (F := fun k a => jn a (sftS (ws i) k).toInt64) (a := a2) (Q := fun k a => am_run 244 66 [some (.ref x), none, none, some (.int (nI i)), some (.long a), none, some (.int (nI k))] [] w) (fun k a hk1 => by
    try dsimp only
    have z := x223 R hn hi hy hp hho (k := k) (by omega)
    rw [bk244_66, if_neg (by rw [nI_ltS (by decide) (by omega)]; omega)]
    simp only [bk244_72, rc_kf R, z, bk244_81, x25, bk244_85, nI_add, Option.bind_some, bct_v, bct_t, otl_s, otl_n, List.cons_append, List.nil_append, List.getElem?_cons_zero, List.getElem?_cons_succ, ↓reduceIte])
  refine Eq.trans l3 ?_
  try dsimp only
  generalize h3 : itA 4 (fun k a => jn a (sftS (ws i) k).toInt64) a2 = a3
  rw [bk244_66, if_pos (by rw [nI_ltS (by decide) (by decide)]; decide), bk244_93]
  have l4 := loopA (n := 4) (F := fun k a => jn a (nI (wrsW may mp k)).toInt64) (a := a3) (Q := fun k a => am_run 244 96 [some (.ref x), none, none, some (.int (nI i)), some (.long a), none, some (.int (nI k))] [] w) (fun k a hk1 => by
    try dsimp only
    have z := x202 R hn hi hy (k := k) (by omega)
    rw [bk244_96, if_neg (by rw [nI_leS (by decide) (by omega)]; omega)]
    simp only [bk244_102, rc_kf R, z, bk244_111, x25, bk244_115, nI_add, Option.bind_some, bct_v, bct_t, otl_s, otl_n, List.cons_append, List.nil_append, List.getElem?_cons_zero, List.getElem?_cons_succ, ↓reduceIte])
  refine Eq.trans l4 ?_
  try dsimp only
  generalize h4 : itA 4 (fun k a => jn a (nI (wrsW may mp k)).toInt64) a3 = a4
  rw [bk244_96, if_pos (by rw [nI_leS (by decide) (by decide)]; decide)]
  have z5 := x203 R hn hi hy
  have z6 := x91 R hn hi hy
  have hl := cnt_le (anyF may) 36
  have hnn : (FP.dmul 4634204016564240384 (dbtS may)) &&& 0x7fffffffffffffff ≤ 0x7ff0000000000000 := mul_ok ⟨cnt 36 (anyF may), by omega⟩
  simp only [bk244_123, rc_kf R, z5, bk244_130, x25, bk244_134, z6, Option.bind_some, bct_v, bct_t, otl_s, otl_n, List.cons_append, List.nil_append, List.getElem?_cons_zero, List.getElem?_cons_succ, ↓reduceIte]
  rw [bk244_146 hnn]
  simp only [bk244_147, x25, bk244_151, Option.bind_some, bct_v, bct_t, otl_s, otl_n, List.cons_append, List.nil_append, List.getElem?_cons_zero, List.getElem?_cons_succ, ↓reduceIte]
  have l7 := loopA (n := 36) (F := fun c a => jn (jn a (nI (kno mp c 1)).toInt64) (nI (kno mp c 2)).toInt64) (a := jn (jn a4 (nI (bstS may mp 3)).toInt64) (FP.d2l (FP.dmul 4634204016564240384 (dbtS may)))) (Q := fun k a => am_run 244 156 [some (.ref x), none, none, some (.int (nI i)), some (.long a), none, some (.int (nI k))] [] w) (fun k a hk1 => by
    try dsimp only
    have z1 := x137 R hn hi hy hp (c := k) (s := 1) (by omega) (by decide)
    have z2 := x137 R hn hi hy hp (c := k) (s := 2) (by omega) (by decide)
    rw [bk244_156, if_neg (by rw [nI_leS (by decide) (by omega)]; omega)]
    simp only [bk244_163, rc_kf R, z1, bk244_173, x25, bk244_177, z2, bk244_189, bk244_193, nI_add, Option.bind_some, bct_v, bct_t, otl_s, otl_n, List.cons_append, List.nil_append, List.getElem?_cons_zero, List.getElem?_cons_succ, ↓reduceIte])
  refine Eq.trans l7 ?_
  try dsimp only
  rw [bk244_156, if_pos (by rw [nI_leS (by decide) (by decide)]; decide), bk244_201]
  subst h1 h2 h3 h4
  rw [hy]
  rfl
theorem x250 (R : RCx w g x fl ka ha wr C B wad kd hr cp br n ws mi nd dr me di re) (hn : n ≤ 3) (hk : kdok kd) (hh : hrok hr) (hm : mi ≤ 3000) (ho : ∀ i, i < n → okY (ws i)) : am_x 250 [.ref x] w = some (.inl (some (.long (digS kd hr cp br n ws mi dr me di re))), w) := by
  rw [bx250, bk250_0]
  have l1 := loopA (n := 12) (F := fun k a => jn a (hsS kd hr cp br n mi dr me di re k).toInt64) (a := lN 58286) (Q := fun k a => am_run 250 6 [some (.ref x), some (.long a), none, some (.int (nI k)), none] [] w) (fun k a hk1 => by
    try dsimp only
    have z := x136 R hk hh hm (k := k) (by omega)
    rw [bk250_6, if_neg (by rw [nI_ltS (by decide) (by omega)]; omega)]
    simp only [bk250_12, rc_kf R, z, bk250_18, x25, bk250_22, nI_add, Option.bind_some, bct_v, bct_t, otl_s, otl_n, List.cons_append, List.nil_append, List.getElem?_cons_zero, List.getElem?_cons_succ, ↓reduceIte])
  refine Eq.trans l1 ?_
  try dsimp only
  generalize h1 : itA 12 (fun k a => jn a (hsS kd hr cp br n mi dr me di re k).toInt64) (lN 58286) = a1
  rw [bk250_6, if_pos (by rw [nI_ltS (by decide) (by decide)]; decide), bk250_29]
  have st : ∀ (c s : Nat) (a : Int64), c < 36 → (s = 1 ∨ s = 2) → am_run 250 40 [some (.ref x), some (.long a), none, some (.int (nI c)), some (.int (nI s))] [] w = am_run 250 40 [some (.ref x), some (.long (edgJ kd hr mi c s a)), none, some (.int (nI c)), some (.int (nI (s + 1)))] [] w := by
    intro c s a hc hs
    have z0 := x169 R hk hh hm (c := c) (s := s) (k := 0) (by omega) (by omega) (by decide)
    have z1 := x169 R hk hh hm (c := c) (s := s) (k := 1) (by omega) (by omega) (by decide)
    rw [bk250_40, if_neg (by rw [nI_ltS (by decide) (by omega)]; omega)]
    simp only [bk250_46, rc_kf R, z0, bk250_55, x25, bk250_59, z1, bk250_69, bk250_73, nI_add, Option.bind_some, bct_v, bct_t, otl_s, otl_n, List.cons_append, List.nil_append, List.getElem?_cons_zero, List.getElem?_cons_succ, ↓reduceIte]
    rfl
  have l2 := loopA (n := 36) (F := fun c a => edgJ kd hr mi c 2 (edgJ kd hr mi c 1 a)) (a := a1) (Q := fun k a => am_run 250 31 [some (.ref x), some (.long a), none, some (.int (nI k)), none] [] w) (fun k a hk1 => by
    try dsimp only
    rw [bk250_31, if_neg (by rw [nI_leS (by decide) (by omega)]; omega), bk250_37, st k 1 a hk1 (Or.inl rfl), st k 2 _ hk1 (Or.inr rfl), bk250_40, if_pos (by rw [nI_ltS (by decide) (by decide)]; decide), bk250_80, nI_add])
  refine Eq.trans l2 ?_
  try dsimp only
  generalize h2 : itA 36 (fun c a => edgJ kd hr mi c 2 (edgJ kd hr mi c 1 a)) a1 = a2
  rw [bk250_31, if_pos (by rw [nI_leS (by decide) (by decide)]; decide), bk250_86]
  have l3 := loopA (n := n) (F := fun k a => wlkJ kd hr mi (ws k) a) (a := a2) (Q := fun k a => am_run 250 88 [some (.ref x), some (.long a), none, some (.int (nI k)), none] [] w) (fun k a hk1 => by
    try dsimp only
    obtain ⟨o1, o2, o3, o4, o5⟩ := ho k hk1
    have z := x244 R hn hk hh hm hk1 (sW_eta (ws k)) o4 o1 a
    rw [bk250_88]
    simp only [gfc R.1, oX_0, oX_1, oX_2, oX_3, oX_4, oX_5, oX_6, oX_7, oX_8, bk250_93, nI_leS (show n < 2147483648 by omega) (show k < 2147483648 by omega), show ¬ n ≤ k from by omega, bk250_96, rc_kf R, z, bk250_102, nI_add, Option.bind_some, bct_v, bct_t, otl_s, otl_n, List.cons_append, List.nil_append, List.getElem?_cons_zero, List.getElem?_cons_succ, ↓reduceIte])
  refine Eq.trans l3 ?_
  try dsimp only
  have z4 := x224 R hn hk hh hm ho
  rw [bk250_88]
  simp only [gfc R.1, oX_0, oX_1, oX_2, oX_3, oX_4, oX_5, oX_6, oX_7, oX_8, bk250_93, nI_leS (show n < 2147483648 by omega) (show n < 2147483648 by omega), Nat.le_refl, bk250_109, rc_kf R, z4, bk250_114, x26, bk250_117, x25, bk250_121, Option.bind_some, bct_v, bct_t, otl_s, otl_n, List.cons_append, List.nil_append, List.getElem?_cons_zero, List.getElem?_cons_succ, ↓reduceIte]
  subst h1 h2
  rfl
end DIG
