/-! THE REFERENCE: what is asked of the house. Mine. -/
def hsR (kd hr : Nat → Nat) (cp br : Nat → Bool) (n mi : Nat) (dr me di re : Int32) (k : Nat) : Int32 := match k with
  | 0 => nI mi
  | 1 => nI (mi / 60 % 24)
  | 2 => nI (cnt 72 (fun k => wiP k && kd k == 1))
  | 3 => nI (cnt 72 (fun k => wiP k && kd k == 2))
  | 4 => nI (cnt 72 (fun k => kd k == 2 && (hr k).testBit (mi / 60 % 24)))
  | 5 => nI (cnt 36 cp)
  | 6 => nI (cnt 36 br)
  | 7 => nI n
  | 8 => dr
  | 9 => me
  | 10 => di
  | _ => re
section HOU
variable {w : am_Wd} {g : Nat → Nat} {m kq hq ca ba wl ed : Nat} {wad : Nat → Nat} {kd hr : Nat → Nat} {cp br : Nat → Bool} {n : Nat} {ws : Nat → sW} {th mi nd : Nat} {dr me di re : Int32}
theorem it213 (R : RMx w g m kq hq ca ba wl ed wad kd hr cp br n ws th mi nd dr me di re) (hk : kdok kd) (hh : hrok hr) (hm : mi ≤ 3000) {c j : Nat} (hc : c < 36) (hj : j < 2) (q : Int32) :
    am_run 213 13 [some (.ref m), some (.int q), some (.int (nI (cnt (2 * c + j) (fun k => kd k == 2 && (hr k).testBit (mi / 60 % 24))))), some (.int (nI c)), some (.int (nI j))] [] w = am_run 213 13 [some (.ref m), some (.int q), some (.int (nI (cnt (2 * c + j + 1) (fun k => kd k == 2 && (hr k).testBit (mi / 60 % 24))))), some (.int (nI c)), some (.int (nI (j + 1)))] [] w := by
  have z := x42 R hh hm hc hj
  have r0 := R.2.1.row hc
  have r1 := R.2.1.at hc hj
  have k2 := hk (2 * c + j)
  have e0 : (nI (kd (2 * c + j)) = nI 2) = (kd (2 * c + j) = 2) := nI_eqS (by omega) (by decide)
  rw [bk213_13, if_neg (by rw [nI_leS (by decide) (by omega)]; omega)]
  simp only [bk213_19, gfc R.1, oM_0, oM_1, oM_2, oM_3, oM_4, oM_5, oM_6, oM_7, oM_8, oM_9, oM_10, oM_11, bk213_24, r0, bk213_26, r1, bk213_29, e0, Option.bind_some, bct_v, bct_t, otl_s, otl_n, List.cons_append, List.nil_append, List.getElem?_cons_zero, List.getElem?_cons_succ, ↓reduceIte]
  by_cases y : kd (2 * c + j) = 2
  · rw [if_neg (fun x => x y)]
    simp only [bk213_33, rm_kf R, z, bk213_40, b2i_0, Option.bind_some, bct_v, bct_t, otl_s, otl_n, List.cons_append, List.nil_append, List.getElem?_cons_zero, List.getElem?_cons_succ, ↓reduceIte]
    cases e : (hr (2 * c + j)).testBit (mi / 60 % 24) with
    | true =>
      rw [cnt_s (p := fun k => kd k == 2 && (hr k).testBit (mi / 60 % 24)) (b := true) (by show (kd (2 * c + j) == 2 && (hr (2 * c + j)).testBit (mi / 60 % 24)) = true; rw [e, y]; rfl)]
      rw [if_neg (fun x => nomatch x), bk213_43, bk213_48, nI_add, nI_add]
      rfl
    | false =>
      rw [cnt_s (p := fun k => kd k == 2 && (hr k).testBit (mi / 60 % 24)) (b := false) (by show (kd (2 * c + j) == 2 && (hr (2 * c + j)).testBit (mi / 60 % 24)) = false; rw [e, y]; rfl)]
      rw [if_pos rfl, bk213_47, bk213_48, nI_add, nI_add]
      rfl
  · rw [cnt_s (p := fun k => kd k == 2 && (hr k).testBit (mi / 60 % 24)) (b := false) (by show (kd (2 * c + j) == 2 && (hr (2 * c + j)).testBit (mi / 60 % 24)) = false; rw [show (kd (2 * c + j) == 2) = false from by simpa using y]; rfl)]
    rw [if_pos y, bk213_47, bk213_48, nI_add, nI_add]
    rfl
theorem x213 (R : RMx w g m kq hq ca ba wl ed wad kd hr cp br n ws th mi nd dr me di re) (hJ : gJ w g) (hn : n ≤ 3) (hk : kdok kd) (hh : hrok hr) (hm : mi ≤ 3000) {k : Nat} (hk2 : k ≤ 11) :
    ∃ w', am_x 213 [.ref m, .int (nI k)] w = some (.inl (some (.int (hsR kd hr cp br n mi dr me di re k))), w') ∧ ext w w' 1 12 := by
  have cell : ∀ c, c < 36 → am_run 213 4 [some (.ref m), some (.int (nI k)), some (.int (nI (cnt (2 * c) (fun k => kd k == 2 && (hr k).testBit (mi / 60 % 24))))), some (.int (nI c)), none] [] w = am_run 213 4 [some (.ref m), some (.int (nI k)), some (.int (nI (cnt (2 * (c + 1)) (fun k => kd k == 2 && (hr k).testBit (mi / 60 % 24))))), some (.int (nI (c + 1))), none] [] w := by
    intro c hc
    rw [bk213_4, if_neg (by rw [nI_leS (by decide) (by omega)]; omega), bk213_10]
    refine Eq.trans (it213 R hk hh hm (j := 0) hc (by decide) (nI k)) (Eq.trans (it213 R hk hh hm (j := 1) hc (by decide) (nI k)) ?_)
    rw [bk213_13, if_pos (by rw [nI_leS (by decide) (by decide)]; decide), bk213_56, nI_add]
    rfl
  have go : ∀ c, c ≤ 36 → am_run 213 4 [some (.ref m), some (.int (nI k)), some (.int (nI 0)), some (.int (nI 0)), none] [] w = am_run 213 4 [some (.ref m), some (.int (nI k)), some (.int (nI (cnt (2 * c) (fun k => kd k == 2 && (hr k).testBit (mi / 60 % 24))))), some (.int (nI c)), none] [] w := by
    intro c
    induction c with
    | zero => exact fun _ => rfl
    | succ c ih => exact fun hc => (ih (by omega)).trans (cell c (by omega))
  rw [bx213, bk213_0, go 36 (Nat.le_refl 36), bk213_4, if_pos (by rw [nI_leS (by decide) (by decide)]; decide)]
  have RX : ∀ M, RMx (nwr w 0 12 M) g m kq hq ca ba wl ed wad kd hr cp br n ws th mi nd dr me di re := fun M => rm_ext R hn hJ nwr_ext
  have gf : ∀ M k, am_gf (nwr w 0 12 M) m 11 k = (oM th mi nd dr me di re kq hq ca ba wl)[k]? := fun M k => gfc (RX M).1
  have kf : ∀ M, am_kf (nwr w 0 12 M) m 11 = some () := fun M => rm_kf (RX M)
  have kl : ∀ M, am_kf (nwr w 0 12 M) wl 3 = some () := fun M => kfc (RX M).2.2.2.2.2.1.1
  have z1 : ∀ M, am_x 177 [.ref m, .int (nI 1)] (nwr w 0 12 M) = _ := fun M => x177 (RX M) hk (q := 1) (by decide)
  have z2 : ∀ M, am_x 177 [.ref m, .int (nI 2)] (nwr w 0 12 M) = _ := fun M => x177 (RX M) hk (q := 2) (by decide)
  have zc : ∀ M, am_x 44 [.ref ca] (nwr w 0 12 M) = _ := fun M => x44 (RX M).2.2.2.1 (p := cp) (fun _ _ => rfl) (by decide)
  have zb : ∀ M, am_x 44 [.ref ba] (nwr w 0 12 M) = _ := fun M => x44 (RX M).2.2.2.2.1 (p := br) (fun _ _ => rfl) (by decide)
  have zl : ∀ M, am_x 56 [.ref wl] (nwr w 0 12 M) = _ := fun M => x56 (RX M).2.2.2.2.2.1
  have na : am_na w 0 (nI 12) = some (nwr w 0 12 (fun _ => 0)) := na_nwr (by decide) rfl
  have rd : ∀ M, am_ri 0 (nwr w 0 12 M) w.2.1 (nI k) = some (M k) := fun M => ric (nwr_at (w := w) (t := 0) (n := 12) (M := M)) (i := k) rfl (by omega) (by decide)
  have tail : ∀ O : Nat, ∃ M : Nat → Int32, (∀ x, x ≤ 11 → M x = (match x with | 0 => nI mi | 1 => nI (mi / 60 % 24) | 2 => nI (cnt 72 (fun k => wiP k && kd k == 1)) | 3 => nI (cnt 72 (fun k => wiP k && kd k == 2)) | 4 => nI O | 5 => nI (cnt 36 cp) | 6 => nI (cnt 36 br) | 7 => nI n | 8 => dr | 9 => me | 10 => di | _ => re : Int32)) ∧ am_run 213 62 [some (.ref m), some (.int (nI k)), some (.int (nI O)), none, none] [] w = some (.inl (some (.int (M k))), nwr w 0 12 M) := by
    intro O
    refine ⟨upd (upd (upd (upd (upd (upd (upd (upd (upd (upd (upd (upd (fun _ => 0) 0 (nI mi)) 1 (nI (mi / 60 % 24))) 2 (nI (cnt 72 (fun k => wiP k && kd k == 1)))) 3 (nI (cnt 72 (fun k => wiP k && kd k == 2)))) 4 (nI O)) 5 (nI (cnt 36 cp))) 6 (nI (cnt 36 br))) 7 (nI n)) 8 dr) 9 me) 10 di) 11 re, ?_, ?_⟩
    · intro x hx
      rcases (show x = 0 ∨ x = 1 ∨ x = 2 ∨ x = 3 ∨ x = 4 ∨ x = 5 ∨ x = 6 ∨ x = 7 ∨ x = 8 ∨ x = 9 ∨ x = 10 ∨ x = 11 by omega) with rfl | rfl | rfl | rfl | rfl | rfl | rfl | rfl | rfl | rfl | rfl | rfl <;> rfl
    · simp only [bk213_62, bk213_66, bk213_72, bk213_73, bk213_79, bk213_86, bk213_93, bk213_94, bk213_101, bk213_102, bk213_106, bk213_112, bk213_115, bk213_116, bk213_123, bk213_126, bk213_127, bk213_134, bk213_137, bk213_138, bk213_145, bk213_146, bk213_153, bk213_154, bk213_161, bk213_162, bk213_169, bk213_170, bk213_174, bx213, na, gf, oM_0, oM_1, oM_2, oM_3, oM_4, oM_5, oM_6, oM_7, oM_8, oM_9, oM_10, oM_11, nwr_put, kf, kl, z1, z2, zc, zb, zl, nI_divS (show mi < 2147483648 by omega) (show 0 < 60 by decide) (show 60 < 2147483648 by decide), nI_remS (show mi / 60 < 2147483648 by omega) (show 0 < 24 by decide) (show 24 < 2147483648 by decide), rd, Option.bind_some, bct_v, bct_t, otl_s, otl_n, List.cons_append, List.nil_append, List.getElem?_cons_zero, List.getElem?_cons_succ, ↓reduceIte, nI_add, nI_leS, nI_ltS, nI_eqS, nI_m1S, Nat.reduceAdd, Nat.reduceLT, Nat.reduceLeDiff, Nat.reduceMul, Nat.reduceEqDiff, not_true_eq_false, not_false_eq_true]
  obtain ⟨M, m1, m2⟩ := tail (cnt 72 (fun k => kd k == 2 && (hr k).testBit (mi / 60 % 24)))
  refine ⟨nwr w 0 12 M, Eq.trans m2 ?_, nwr_ext⟩
  rw [m1 k hk2]
  rfl
end HOU
