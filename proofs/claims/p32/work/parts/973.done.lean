/-! AN ACT; WHETHER ALL IS WELL. Mine. -/
theorem loopQ {α : Type} {Q : Nat → α} : ∀ n, (∀ k, k < n → Q k = Q (k + 1)) → Q 0 = Q n
  | 0, _ => rfl
  | n + 1, h => (loopQ n fun k hk => h k (by omega)).trans (h n (by omega))
theorem blw2 (X : Int32) : (nI (blw X 2) = nI 0) = (blw X 2 = 0) := by
  have := blw_lt (v := X) (m := 2) (by decide)
  exact nI_eqS (by omega) (by decide)
def bl2 (X : Int32) : Bool := decide (blw X 2 = 0)
section IS
variable {w w' : am_Wd} {g : Nat → Nat} {x fl ka ha wr C B : Nat} {wad : Nat → Nat} {kd hr : Nat → Nat} {cp br : Nat → Bool} {n : Nat} {ws : Nat → sW} {mi nd : Nat} {dr me di re : Int32} {k i : Nat}
theorem r44 {z X : Int32} : am_run 268 44 [some (.ref x), some (.int z), none, some (.int X), none, none] [] w = am_run 268 59 [none, none, none, none, none, none] [.int (b2i (bl2 X)), .int z, .ref x] w := by
  have e := blw2 X
  unfold bl2
  by_cases q : blw X 2 = 0
  · simp only [bk268_44, x266 (v := X) (m := 2) (by decide) (by decide), ag_v, bk268_51, e, q, bk268_54, decide_true, b2i_t, not_true_eq_false, Option.bind_some, bct_v, bct_t, otl_s, otl_n, List.cons_append, List.nil_append, List.getElem?_cons_zero, List.getElem?_cons_succ, ↓reduceIte]
  · simp only [bk268_44, x266 (v := X) (m := 2) (by decide) (by decide), ag_v, bk268_51, e, q, bk268_58, decide_false, b2i_f, not_false_eq_true, Option.bind_some, bct_v, bct_t, otl_s, otl_n, List.cons_append, List.nil_append, List.getElem?_cons_zero, List.getElem?_cons_succ, ↓reduceIte]
theorem r65 {z X Y : Int32} : am_run 268 65 [some (.ref x), some (.int z), none, some (.int X), some (.int Y), none] [] w = am_run 268 96 [none, none, none, none, none, none] [.int (b2i (bl2 (Y / nI 3))), .int (b2i (bl2 X)), .int z, .ref x] w := by
  have e := blw2 X
  have e' := blw2 (Y / nI 3)
  unfold bl2
  have z1 : am_run 268 65 [some (.ref x), some (.int z), none, some (.int X), some (.int Y), none] [] w = am_run 268 80 [none, none, none, none, some (.int Y), none] [.int (b2i (decide (blw X 2 = 0))), .int z, .ref x] w := by
    by_cases q : blw X 2 = 0
    · simp only [bk268_65, x266 (v := X) (m := 2) (by decide) (by decide), ag_v, bk268_72, e, q, bk268_75, decide_true, b2i_t, not_true_eq_false, Option.bind_some, bct_v, bct_t, otl_s, otl_n, List.cons_append, List.nil_append, List.getElem?_cons_zero, List.getElem?_cons_succ, ↓reduceIte]
    · simp only [bk268_65, x266 (v := X) (m := 2) (by decide) (by decide), ag_v, bk268_72, e, q, bk268_79, decide_false, b2i_f, not_false_eq_true, Option.bind_some, bct_v, bct_t, otl_s, otl_n, List.cons_append, List.nil_append, List.getElem?_cons_zero, List.getElem?_cons_succ, ↓reduceIte]
  rw [z1]
  generalize b2i (decide (blw X 2 = 0)) = u
  by_cases q : blw (Y / nI 3) 2 = 0
  · simp only [bk268_80, x266 (v := Y / nI 3) (m := 2) (by decide) (by decide), ag_v, bk268_88, e', q, bk268_91, decide_true, b2i_t, not_true_eq_false, Option.bind_some, bct_v, bct_t, otl_s, otl_n, List.cons_append, List.nil_append, List.getElem?_cons_zero, List.getElem?_cons_succ, ↓reduceIte]
  · simp only [bk268_80, x266 (v := Y / nI 3) (m := 2) (by decide) (by decide), ag_v, bk268_88, e', q, bk268_95, decide_false, b2i_f, not_false_eq_true, Option.bind_some, bct_v, bct_t, otl_s, otl_n, List.cons_append, List.nil_append, List.getElem?_cons_zero, List.getElem?_cons_succ, ↓reduceIte]
theorem r108 {z X : Int32} : am_run 268 108 [some (.ref x), some (.int z), none, some (.int X), none, none] [] w = am_run 268 123 [none, none, none, none, none, none] [.int (b2i (bl2 X)), .int z, .ref x] w := by
  have e := blw2 X
  unfold bl2
  by_cases q : blw X 2 = 0
  · simp only [bk268_108, x266 (v := X) (m := 2) (by decide) (by decide), ag_v, bk268_115, e, q, bk268_118, decide_true, b2i_t, not_true_eq_false, Option.bind_some, bct_v, bct_t, otl_s, otl_n, List.cons_append, List.nil_append, List.getElem?_cons_zero, List.getElem?_cons_succ, ↓reduceIte]
  · simp only [bk268_108, x266 (v := X) (m := 2) (by decide) (by decide), ag_v, bk268_115, e, q, bk268_122, decide_false, b2i_f, not_false_eq_true, Option.bind_some, bct_v, bct_t, otl_s, otl_n, List.cons_append, List.nil_append, List.getElem?_cons_zero, List.getElem?_cons_succ, ↓reduceIte]
theorem r162 {z X : Int32} : am_run 268 162 [some (.ref x), some (.int z), none, some (.int X), none, none] [] w = am_run 268 177 [none, none, none, none, none, none] [.int (b2i (bl2 X)), .int z, .ref x] w := by
  have e := blw2 X
  unfold bl2
  by_cases q : blw X 2 = 0
  · simp only [bk268_162, x266 (v := X) (m := 2) (by decide) (by decide), ag_v, bk268_169, e, q, bk268_172, decide_true, b2i_t, not_true_eq_false, Option.bind_some, bct_v, bct_t, otl_s, otl_n, List.cons_append, List.nil_append, List.getElem?_cons_zero, List.getElem?_cons_succ, ↓reduceIte]
  · simp only [bk268_162, x266 (v := X) (m := 2) (by decide) (by decide), ag_v, bk268_169, e, q, bk268_176, decide_false, b2i_f, not_false_eq_true, Option.bind_some, bct_v, bct_t, otl_s, otl_n, List.cons_append, List.nil_append, List.getElem?_cons_zero, List.getElem?_cons_succ, ↓reduceIte]
/-- what is thrown is caught: not done -/
theorem r191 : am_run 268 191 (am_nrm 268 191 [none, none, none, none, none, none]) [] w = some (.inl (some (.int (nI 0))), w) := by
  rw [show am_nrm 268 191 [none, none, none, none, none, none] = [none, none, none, none, none, none] from rfl, bk268_191]
theorem h59 : am_hd 268 59 (am_xn 2) = some 191 := by decide +kernel
theorem h96 : am_hd 268 96 (am_xn 2) = some 191 := by decide +kernel
theorem h123 : am_hd 268 123 (am_xn 2) = some 191 := by decide +kernel
theorem h177 : am_hd 268 177 (am_xn 2) = some 191 := by decide +kernel
/-- from a call's outcome -/
theorem ac_fin {M act : Nat} {as : List Value} {P : Int32 → Prop} {r : am_Rs} (R : RCx w g x fl ka ha wr C B wad kd hr cp br n ws mi nd dr me di re) (hJ : gJ w g) (h : GS k (kd, hr, cp, br, n, ws, mi, nd, dr, me, di, re)) (a : AC M k i act as (kd, hr, cp, br, n, ws, mi, nd, dr, me, di, re) w g x P)
    (h1 : am_x M (.ref x :: as) w = some (.inr (am_xn 2), am_jk w 1 6) → r = some (.inl (some (.int (nI 0))), am_jk w 1 6)) (h2 : ∀ v w', P v → am_x M (.ref x :: as) w = some (.inl (some (.int v)), w') → r = some (.inl (some (.int (nI 1))), w')) :
    ∃ (b : Bool) (S' : sS) (w1 : am_Wd), r = some (.inl (some (.int (b2i b))), w1) ∧ RC w1 g x S' ∧ stp 1 40 g g 100 200 w w1 ∧ GS (k + 1) S' ∧ Dn b act i (kd, hr, cp, br, n, ws, mi, nd, dr, me, di, re) S' := by
  rcases a with a | ⟨v, w', S', p, a, b, c, d, e⟩
  · exact ⟨false, _, _, h1 a, ⟨_, _, _, _, _, _, _, rc_jk R h.1.2.2.2.1 1 6⟩, stp_wk (stp_ext hJ jk_ext) (by decide) (by decide), GS_wk h (by omega), Dn_rf act i⟩
  · exact ⟨true, S', w', h2 v w' p a, b, stp_wk (stp_frm hJ c (by decide) (by decide)) (by decide) (by decide), d, e⟩
theorem x268 (R : RCx w g x fl ka ha wr C B wad kd hr cp br n ws mi nd dr me di re) (hJ : gJ w g) (h : GS k (kd, hr, cp, br, n, ws, mi, nd, dr, me, di, re)) (hk : k < 200) (hi : i < n) {act : Nat} (ha : act < 8) (X Y : Int32) :
    ∃ (b : Bool) (S' : sS) (w1 : am_Wd), am_x 268 [.ref x, .int (nI i), .int (nI act), .int X, .int Y] w = some (.inl (some (.int (b2i b))), w1) ∧ RC w1 g x S' ∧ stp 1 40 g g 100 200 w w1 ∧ GS (k + 1) S' ∧ Dn b act i (kd, hr, cp, br, n, ws, mi, nd, dr, me, di, re) S' := by
  have kx := rc_kf R
  have ne : ∀ a b : Nat, a < 8 → b < 8 → a ≠ b → (nI a = nI b) = False := fun a b h1 h2 h3 => by rw [nI_eqS (by omega) (by omega)]; exact eq_false h3
  have fwd : ∀ act, ∃ (b : Bool) (S' : sS) (w1 : am_Wd), am_run 268 59 [none, none, none, none, none, none] [.int (b2i (bl2 X)), .int (nI i), .ref x] w = some (.inl (some (.int (b2i b))), w1) ∧ RC w1 g x S' ∧ stp 1 40 g g 100 200 w w1 ∧ GS (k + 1) S' ∧ Dn b act i (kd, hr, cp, br, n, ws, mi, nd, dr, me, di, re) S' := fun act =>
    ac_fin R hJ h (ac_fwd R h hk hi (bl2 X) act) (fun a => by simp only [bk268_59, kx, a, ag_e h59, r191, Option.bind_some, bct_v, bct_t, otl_s, otl_n, List.cons_append, List.nil_append, List.getElem?_cons_zero, List.getElem?_cons_succ, ↓reduceIte]) (fun v w' p a => by simp only [bk268_59, kx, a, ag_v, bk268_62, Option.bind_some, bct_v, bct_t, otl_s, otl_n, List.cons_append, List.nil_append, List.getElem?_cons_zero, List.getElem?_cons_succ, ↓reduceIte])
  rcases (show act = 0 ∨ act = 1 ∨ act = 2 ∨ act = 3 ∨ act = 4 ∨ act = 5 ∨ act = 6 ∨ act = 7 by omega) with rfl | rfl | rfl | rfl | rfl | rfl | rfl | rfl
  · rw [bx268, bk268_0, if_pos rfl, r44]
    exact fwd 0
  · rw [bx268, bk268_0, if_neg (by rw [ne 1 0] <;> decide), if_pos rfl, r44]
    exact fwd 1
  · rw [bx268, bk268_0, if_neg (by rw [ne 2 0] <;> decide), if_neg (by rw [ne 2 1] <;> decide), if_pos rfl, r44]
    exact fwd 2
  · rw [bx268, bk268_0, if_neg (by rw [ne 3 0] <;> decide), if_neg (by rw [ne 3 1] <;> decide), if_neg (by rw [ne 3 2] <;> decide), if_pos rfl, r65]
    exact ac_fin R hJ h (ac_turn R h hk hi (bl2 X) (bl2 (Y / nI 3)) 3) (fun a => by simp only [bk268_96, kx, a, ag_e h96, r191, Option.bind_some, bct_v, bct_t, otl_s, otl_n, List.cons_append, List.nil_append, List.getElem?_cons_zero, List.getElem?_cons_succ, ↓reduceIte]) (fun v w' p a => by simp only [bk268_96, kx, a, ag_v, bk268_99, p, bk268_102, bk268_107 (s0 := nI 1) (by decide), Option.bind_some, bct_v, bct_t, otl_s, otl_n, List.cons_append, List.nil_append, List.getElem?_cons_zero, List.getElem?_cons_succ, ↓reduceIte])
  · rw [bx268, bk268_0, if_neg (by rw [ne 4 0] <;> decide), if_neg (by rw [ne 4 1] <;> decide), if_neg (by rw [ne 4 2] <;> decide), if_neg (by rw [ne 4 3] <;> decide), if_pos rfl, r108]
    exact ac_fin R hJ h (ac_feel R h hk hi (bl2 X) 4) (fun a => by simp only [bk268_123, kx, a, ag_e h123, r191, Option.bind_some, bct_v, bct_t, otl_s, otl_n, List.cons_append, List.nil_append, List.getElem?_cons_zero, List.getElem?_cons_succ, ↓reduceIte]) (fun v w' p a => by simp only [bk268_123, kx, a, ag_v, bk268_126, p, bk268_129, bk268_134 (s0 := nI 1) (by decide), Option.bind_some, bct_v, bct_t, otl_s, otl_n, List.cons_append, List.nil_append, List.getElem?_cons_zero, List.getElem?_cons_succ, ↓reduceIte])
  · rw [bx268, bk268_0, if_neg (by rw [ne 5 0] <;> decide), if_neg (by rw [ne 5 1] <;> decide), if_neg (by rw [ne 5 2] <;> decide), if_neg (by rw [ne 5 3] <;> decide), if_neg (by rw [ne 5 4] <;> decide), if_pos rfl, r108]
    exact ac_fin R hJ h (ac_feel R h hk hi (bl2 X) 5) (fun a => by simp only [bk268_123, kx, a, ag_e h123, r191, Option.bind_some, bct_v, bct_t, otl_s, otl_n, List.cons_append, List.nil_append, List.getElem?_cons_zero, List.getElem?_cons_succ, ↓reduceIte]) (fun v w' p a => by simp only [bk268_123, kx, a, ag_v, bk268_126, p, bk268_129, bk268_134 (s0 := nI 1) (by decide), Option.bind_some, bct_v, bct_t, otl_s, otl_n, List.cons_append, List.nil_append, List.getElem?_cons_zero, List.getElem?_cons_succ, ↓reduceIte])
  · rw [bx268, bk268_0, if_neg (by rw [ne 6 0] <;> decide), if_neg (by rw [ne 6 1] <;> decide), if_neg (by rw [ne 6 2] <;> decide), if_neg (by rw [ne 6 3] <;> decide), if_neg (by rw [ne 6 4] <;> decide), if_neg (by rw [ne 6 5] <;> decide), if_pos rfl]
    obtain ⟨⟨o1, o2, o3, o4, o5, o6, o7⟩, g1, g2, g3, g4, g5⟩ := id h
    have a0 : am_x 136 [.ref x, .int (nI 0)] w = some (.inl (some (.int (nI mi))), w) := x136 R o1 o2 o5 (k := 0) (by decide)
    have e : (nI 2300 ≤ nI mi) = (2300 ≤ mi) := nI_leS (by decide) (by omega)
    by_cases q : 2300 ≤ mi
    · refine ⟨false, _, w, ?_, ⟨_, _, _, _, _, _, _, R⟩, stp_wk (stp_rf hJ) (by decide) (by decide), GS_wk h (by omega), Dn_rf 6 i⟩
      simp only [bk268_135, kx, a0, ag_v, bk268_140, e, q, bk268_160, b2i_f, Option.bind_some, bct_v, bct_t, otl_s, otl_n, List.cons_append, List.nil_append, List.getElem?_cons_zero, List.getElem?_cons_succ, ↓reduceIte]
    · have hj := blw_lt (v := X) (m := 300) (by decide)
      obtain ⟨w', a1, R', f⟩ := x135 R (m := 1 + blw X 300) (by omega) (by omega) (by omega)
      have a1 : am_x 135 [.ref x, .int (nI 1 + nI (blw X 300))] w = some (.inl (some (.int (nI (mi + (1 + blw X 300))))), w') := by rw [nI_add]; exact a1
      refine ⟨false, (kd, hr, cp, br, n, ws, mi + (1 + blw X 300), nd, dr, me, di, re), w', ?_, ⟨_, _, _, _, _, _, _, R'⟩, stp_wk (stp_frm hJ f (by decide) (by decide)) (by decide) (by decide), ⟨⟨o1, o2, o3, o4, by omega, o6, o7⟩, g1, fun j hj => gdW_wk (g2 j hj) (by omega), by omega, ?_, g5⟩, ?_⟩
      · simp only [bk268_135, kx, a0, ag_v, bk268_140, e, q, bk268_146, x266 (v := X) (m := 300) (by decide) (by decide), bk268_155, a1, bk268_159, bk268_160, b2i_f, Option.bind_some, bct_v, bct_t, otl_s, otl_n, List.cons_append, List.nil_append, List.getElem?_cons_zero, List.getElem?_cons_succ, ↓reduceIte]
      · obtain ⟨d, d1, d2⟩ := g4
        exact ⟨d, by omega, d2⟩
      · exact ⟨rfl, rfl, rfl, (ad0 _).symm, (sb0 _).symm, Or.inl rfl, Int32.lt_irrefl, Nat.le_refl _⟩
  · rw [bx268, bk268_0, if_neg (by rw [ne 7 0] <;> decide), if_neg (by rw [ne 7 1] <;> decide), if_neg (by rw [ne 7 2] <;> decide), if_neg (by rw [ne 7 3] <;> decide), if_neg (by rw [ne 7 4] <;> decide), if_neg (by rw [ne 7 5] <;> decide), if_neg (by rw [ne 7 6] <;> decide), r162]
    exact ac_fin R hJ h (ac_listen R h hk hi (bl2 X) 7) (fun a => by simp only [bk268_177, kx, a, ag_e h177, r191, Option.bind_some, bct_v, bct_t, otl_s, otl_n, List.cons_append, List.nil_append, List.getElem?_cons_zero, List.getElem?_cons_succ, ↓reduceIte]) (fun v w' p a => by simp only [bk268_177, kx, a, ag_v, bk268_180, p, bk268_183, bk268_188 (s0 := nI 1) (by decide), Option.bind_some, bct_v, bct_t, otl_s, otl_n, List.cons_append, List.nil_append, List.getElem?_cons_zero, List.getElem?_cons_succ, ↓reduceIte])
theorem dbt_eq : ∀ k : Fin 37, Op.cmpValue (FP.dcmp (FP.ddiv (FP.i2d (nI k.val)) 4630263366890291200) (FP.ddiv (FP.i2d (nI k.val)) 4630263366890291200)) .l = nI 0 := by decide +kernel
/-- all is well -/
theorem x269 (R : RCx w g x fl ka ha wr C B wad kd hr cp br n ws mi nd dr me di re) (h : GS k (kd, hr, cp, br, n, ws, mi, nd, dr, me, di, re)) (hk : k < 200) (hi : i < n) : am_x 269 [.ref x, .int (nI i)] w = some (.inl (some (.int (nI 1))), w) := by
  have kx := rc_kf R
  obtain ⟨⟨o1, o2, o3, o4, o5, o6, o7⟩, g1, g2, g3, g4, g5⟩ := id h
  have hw := g2 i hi
  have f56 := fig56 hw.1
  have s1 := snds_ok (hr := hr) (mi := mi) g1 g2 (by omega)
  obtain ⟨⟨⟨p1, p2, p3, p4, p5⟩, p6⟩, q1, q2, q3, -⟩ := id hw
  have hy := sW_eta (ws i)
  have A : ∀ k, k ≤ 12 → am_x 201 [.ref x, .int (nI i), .int (nI k)] w = some (.inl (some (.int (ofwS kd hr mi (ws i) k))), w) := fun k hk => x201 R o4 o1 o2 o5 hi hy p4 hk
  have a0 : am_x 201 [.ref x, .int (nI i), .int (nI 0)] w = some (.inl (some (.int (nI (ws i).2.1))), w) := A 0 (by decide)
  have a3 : am_x 201 [.ref x, .int (nI i), .int (nI 3)] w = some (.inl (some (.int (nI (cnt 144 (ws i).2.2.2.2.2.2.2.1)))), w) := A 3 (by decide)
  have a5 : am_x 201 [.ref x, .int (nI i), .int (nI 5)] w = some (.inl (some (.int (figS (ws i) 5))), w) := A 5 (by decide)
  have a6 : am_x 201 [.ref x, .int (nI i), .int (nI 6)] w = some (.inl (some (.int (figS (ws i) 6))), w) := A 6 (by decide)
  have a7 : am_x 201 [.ref x, .int (nI i), .int (nI 7)] w = some (.inl (some (.int (nI (knwS kd hr (ws i).2.2.2.2.2.2.2.2 (mi / 60 % 24) true)))), w) := A 7 (by decide)
  have a8 : am_x 201 [.ref x, .int (nI i), .int (nI 8)] w = some (.inl (some (.int (nI (knwS kd hr (ws i).2.2.2.2.2.2.2.2 (mi / 60 % 24) false)))), w) := A 8 (by decide)
  have a9 : am_x 201 [.ref x, .int (nI i), .int (nI 9)] w = some (.inl (some (.int (ws i).2.2.2.1)), w) := A 9 (by decide)
  rw [knw_1' g1 q1 p6 p4, ← f56] at a7
  rw [knw_0 g1 q1] at a8
  rw [q3] at a9
  have D : am_x 91 [.ref x, .int (nI i)] w = some (.inl (some (.double (dbtS (ws i).2.2.2.2.2.2.2.1))), w) := x91 R o4 hi hy
  have S : am_x 224 [.ref x] w = some (.inl (some (.int (b2i true))), w) := by rw [← s1]; exact x224 R o4 o1 o2 o5 fun j hj => (o7 j hj).1
  have M : ∀ p, p ≤ 143 → am_x 138 [.ref x, .int (nI i), .int (nI p)] w = some (.inl (some (.int (b2i ((ws i).2.2.2.2.2.2.2.1 p)))), w) := fun p hp => x138 R o4 hi hy hp
  generalize hmay : (ws i).2.2.2.2.2.2.2.1 = may at a3 D M q2 p5
  have c1 := cnt_le may 144
  have c2 := cnt_le (anyF may) 36
  rw [bx269, bk269_0]
  -- the poses
  have l1 : ∀ j, j < 144 → am_run 269 7 [some (.ref x), some (.int (nI i)), some (.int (nI (cnt j may))), some (.int (nI 0)), some (.int (nI j))] [] w = am_run 269 7 [some (.ref x), some (.int (nI i)), some (.int (nI (cnt (j + 1) may))), some (.int (nI 0)), some (.int (nI (j + 1)))] [] w := fun j hj => by
    have e : (nI 144 ≤ nI j) = (144 ≤ j) := nI_leS (by decide) (by omega)
    have e2 : ¬ 144 ≤ j := by omega
    have m := M j (by omega)
    show _ = am_run 269 7 [some (.ref x), some (.int (nI i)), some (.int (nI (cnt j may + (if may j = true then 1 else 0)))), some (.int (nI 0)), some (.int (nI (j + 1)))] [] w
    cases q : may j with
    | true =>
      rw [q] at m
      simp only [bk269_7, e, e2, bk269_15, kx, m, bk269_23, b2i_t, nI_eqS (show 1 < 2147483648 by decide) (show 0 < 2147483648 by decide), bk269_26, bk269_31, nI_add, Option.bind_some, bct_v, bct_t, otl_s, otl_n, List.cons_append, List.nil_append, List.getElem?_cons_zero, List.getElem?_cons_succ, ↓reduceIte, nI_add, nI_leS, nI_ltS, nI_eqS, nI_m1S, Nat.reduceAdd, Nat.reduceLT, Nat.reduceLeDiff, Nat.reduceMul, Nat.reduceEqDiff, not_true_eq_false, not_false_eq_true]
    | false =>
      rw [q] at m
      simp only [bk269_7, e, e2, bk269_15, kx, m, bk269_23, b2i_f, bk269_30, bk269_31, nI_add, Nat.add_zero, reduceCtorEq, Option.bind_some, bct_v, bct_t, otl_s, otl_n, List.cons_append, List.nil_append, List.getElem?_cons_zero, List.getElem?_cons_succ, ↓reduceIte, nI_add, nI_leS, nI_ltS, nI_eqS, nI_m1S, Nat.reduceAdd, Nat.reduceLT, Nat.reduceLeDiff, Nat.reduceMul, Nat.reduceEqDiff, not_true_eq_false, not_false_eq_true]
  have L1 := loopQ (Q := fun j => am_run 269 7 [some (.ref x), some (.int (nI i)), some (.int (nI (cnt j may))), some (.int (nI 0)), some (.int (nI j))] [] w) 144 l1
  try dsimp only at L1
  rw [show nI (cnt 0 may) = nI 0 from rfl] at L1
  rw [L1, bk269_7, if_pos ((nI_leS (show 144 < 2147483648 by decide) (show 144 < 2147483648 by decide)).mpr (Nat.le_refl _)), bk269_39]
  generalize cnt 144 may = N at a3 p5 c1
  -- the cells
  have l2 : ∀ j, j < 36 → am_run 269 42 [some (.ref x), some (.int (nI i)), some (.int (nI N)), some (.int (nI (cnt j (anyF may)))), some (.int (nI j))] [] w = am_run 269 42 [some (.ref x), some (.int (nI i)), some (.int (nI N)), some (.int (nI (cnt (j + 1) (anyF may)))), some (.int (nI (j + 1)))] [] w := fun j hj => by
    have e : (nI 36 ≤ nI j) = (36 ≤ j) := nI_leS (by decide) (by omega)
    have e2 : ¬ 36 ≤ j := by omega
    have m0 := M (4 * j) (by omega)
    have m1 := M (4 * j + 1) (by omega)
    have m2 := M (4 * j + 2) (by omega)
    have m3 := M (4 * j + 3) (by omega)
    have t10 : (nI 1 = nI 0) = False := by rw [nI_eqS (by decide) (by decide)]; exact eq_false (by decide)
    show _ = am_run 269 42 [some (.ref x), some (.int (nI i)), some (.int (nI N)), some (.int (nI (cnt j (anyF may) + (if anyF may j = true then 1 else 0)))), some (.int (nI (j + 1)))] [] w
    unfold anyF
    generalize cnt j _ = V
    cases q0 : may (4 * j) with
    | true =>
      rw [q0] at m0
      simp only [bk269_42, e, e2, bk269_49, kx, nI_mulS, m0, bk269_59, b2i_t, t10, bk269_104, bk269_109, nI_add, Bool.true_or, Option.bind_some, bct_v, bct_t, otl_s, otl_n, List.cons_append, List.nil_append, List.getElem?_cons_zero, List.getElem?_cons_succ, ↓reduceIte, nI_add, nI_leS, nI_ltS, nI_eqS, nI_m1S, Nat.reduceAdd, Nat.reduceLT, Nat.reduceLeDiff, Nat.reduceMul, Nat.reduceEqDiff, not_true_eq_false, not_false_eq_true]
    | false =>
    rw [q0] at m0
    cases q1 : may (4 * j + 1) with
    | true =>
      rw [q1] at m1
      simp only [bk269_42, e, e2, bk269_49, kx, nI_mulS, m0, bk269_59, b2i_f, bk269_62, nI_add, m1, bk269_73, b2i_t, t10, bk269_104, bk269_109, Bool.true_or, Bool.or_true, Option.bind_some, bct_v, bct_t, otl_s, otl_n, List.cons_append, List.nil_append, List.getElem?_cons_zero, List.getElem?_cons_succ, ↓reduceIte, nI_add, nI_leS, nI_ltS, nI_eqS, nI_m1S, Nat.reduceAdd, Nat.reduceLT, Nat.reduceLeDiff, Nat.reduceMul, Nat.reduceEqDiff, not_true_eq_false, not_false_eq_true]
    | false =>
    rw [q1] at m1
    cases q2 : may (4 * j + 2) with
    | true =>
      rw [q2] at m2
      simp only [bk269_42, e, e2, bk269_49, kx, nI_mulS, m0, bk269_59, b2i_f, bk269_62, nI_add, m1, bk269_73, bk269_76, m2, bk269_87, b2i_t, t10, bk269_104, bk269_109, Bool.true_or, Bool.or_true, Option.bind_some, bct_v, bct_t, otl_s, otl_n, List.cons_append, List.nil_append, List.getElem?_cons_zero, List.getElem?_cons_succ, ↓reduceIte, nI_add, nI_leS, nI_ltS, nI_eqS, nI_m1S, Nat.reduceAdd, Nat.reduceLT, Nat.reduceLeDiff, Nat.reduceMul, Nat.reduceEqDiff, not_true_eq_false, not_false_eq_true]
    | false =>
    rw [q2] at m2
    cases q3 : may (4 * j + 3) with
    | true =>
      rw [q3] at m3
      simp only [bk269_42, e, e2, bk269_49, kx, nI_mulS, m0, bk269_59, b2i_f, bk269_62, nI_add, m1, bk269_73, bk269_76, m2, bk269_87, bk269_90, m3, bk269_101, b2i_t, t10, bk269_104, bk269_109, Bool.true_or, Bool.or_true, Option.bind_some, bct_v, bct_t, otl_s, otl_n, List.cons_append, List.nil_append, List.getElem?_cons_zero, List.getElem?_cons_succ, ↓reduceIte, nI_add, nI_leS, nI_ltS, nI_eqS, nI_m1S, Nat.reduceAdd, Nat.reduceLT, Nat.reduceLeDiff, Nat.reduceMul, Nat.reduceEqDiff, not_true_eq_false, not_false_eq_true]
    | false =>
    rw [q3] at m3
    simp only [bk269_42, e, e2, bk269_49, kx, nI_mulS, m0, bk269_59, b2i_f, bk269_62, nI_add, m1, bk269_73, bk269_76, m2, bk269_87, bk269_90, m3, bk269_101, bk269_108, bk269_109, Bool.or_false, reduceCtorEq, Nat.add_zero, Option.bind_some, bct_v, bct_t, otl_s, otl_n, List.cons_append, List.nil_append, List.getElem?_cons_zero, List.getElem?_cons_succ, ↓reduceIte, nI_add, nI_leS, nI_ltS, nI_eqS, nI_m1S, Nat.reduceAdd, Nat.reduceLT, Nat.reduceLeDiff, Nat.reduceMul, Nat.reduceEqDiff, not_true_eq_false, not_false_eq_true]
  have L2 := loopQ (Q := fun j => am_run 269 42 [some (.ref x), some (.int (nI i)), some (.int (nI N)), some (.int (nI (cnt j (anyF may)))), some (.int (nI j))] [] w) 36 l2
  try dsimp only at L2
  rw [show nI (cnt 0 (anyF may)) = nI 0 from rfl] at L2
  rw [L2, bk269_42, if_pos ((nI_leS (show 36 < 2147483648 by decide) (show 36 < 2147483648 by decide)).mpr (Nat.le_refl _))]
  have dn := dbt_ok ⟨cnt 36 (anyF may), by omega⟩
  have de := dbt_eq ⟨cnt 36 (anyF may), by omega⟩
  unfold dbtS at D
  dsimp only at dn de
  generalize cnt 36 (anyF may) = V at D dn de
  have e1 : (nI N < nI 1) = False := by rw [nI_ltS (by omega) (by decide)]; exact eq_false (by omega)
  have t10 : (nI 1 = nI 0) = False := by rw [nI_eqS (by decide) (by decide)]; exact eq_false (by decide)
  have mp := M (ws i).2.1 (by omega)
  rw [q2] at mp
  simp only [bk269_117, kx, a3, bk269_124, bk269_127, e1, bk269_132, D, bk269_137 dn, bk269_143, de, bk269_147, a0, bk269_155, mp, bk269_158, b2i_t, t10, bk269_161, a9, bk269_168, bk269_171, a8, bk269_178, bk269_181, a7, bk269_188, a5, bk269_194, a6, bk269_201, bk269_205, S, bk269_209, bk269_212, bk269_217 (s0 := nI 1) (by decide), Option.bind_some, bct_v, bct_t, otl_s, otl_n, List.cons_append, List.nil_append, List.getElem?_cons_zero, List.getElem?_cons_succ, ↓reduceIte, nI_add, nI_leS, nI_ltS, nI_eqS, nI_m1S, Nat.reduceAdd, Nat.reduceLT, Nat.reduceLeDiff, Nat.reduceMul, Nat.reduceEqDiff, not_true_eq_false, not_false_eq_true]
end IS
