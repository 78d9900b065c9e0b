/-! THE REFERENCE: things made. Mine. -/
theorem rows_ok : ∀ (n k : Nat) (w : am_Wd), (∀ b, b < w.2.1 → (am_rows w k n).1 b = w.1 b) ∧ (∀ c, c < n → (am_rows w k n).1 (w.2.1 + c) = some (.inl (0, k, .inl (fun _ => 0)))) ∧ (am_rows w k n).2 = (w.2.1 + n, w.2.2.1 + k * n, w.2.2.2)
  | 0, k, w => ⟨fun _ _ => rfl, fun c h => absurd h (by omega), rfl⟩
  | n + 1, k, w => by
    obtain ⟨h1, h2, h3⟩ := rows_ok n k w
    have e1 : (am_rows w k n).2.1 = w.2.1 + n := congrArg (fun p => p.1) h3
    refine ⟨fun b hb => ?_, fun c hc => ?_, ?_⟩
    · show (am_nw (am_rows w k n) _ k).1 b = _
      rw [nw_n (by omega)]
      exact h1 b hb
    · show (am_nw (am_rows w k n) _ k).1 (w.2.1 + c) = _
      by_cases e : c = n
      · subst e
        rw [← e1]
        exact nw_s
      · rw [nw_n (by omega)]
        exact h2 c (by omega)
    · show ((am_rows w k n).2.1 + 1, (am_rows w k n).2.2.1 + k, (am_rows w k n).2.2.2) = _
      rw [h3]
      show (w.2.1 + n + 1, w.2.2.1 + k * n + k, w.2.2.2) = _
      rw [Nat.mul_succ, Nat.add_assoc, Nat.add_assoc]
/-- rows of two, made -/
def mnw (w : am_Wd) : am_Wd := am_rows (am_nw w (.inl (6, 36, .inr (.inr (.inr (.inr (fun i => if i < 36 then some (w.2.1 + 1 + i) else none)))))) 36) 2 36
theorem mn_ok (w : am_Wd) : am_mn w (nI 36) (nI 2) = some (mnw w) ∧ cQ (mnw w) w.2.1 6 36 (fun i => if i < 36 then some (w.2.1 + 1 + i) else none) ∧ (∀ c, c < 36 → cI (mnw w) (w.2.1 + 1 + c) 0 2 (fun _ => 0)) ∧ (∀ b, b < w.2.1 → (mnw w).1 b = w.1 b) ∧ (mnw w).2 = (w.2.1 + 37, w.2.2.1 + 108, w.2.2.2) := by
  obtain ⟨h1, h2, h3⟩ := rows_ok 36 2 (am_nw w (.inl (6, 36, .inr (.inr (.inr (.inr (fun i => if i < 36 then some (w.2.1 + 1 + i) else none)))))) 36)
  have e1 : (nI 36).toNatClampNeg = 36 := nI_clamp (by decide)
  have e2 : (nI 2).toNatClampNeg = 2 := nI_clamp (by decide)
  refine ⟨?_, (h1 w.2.1 (Nat.lt_succ_self _)).trans nw_s, fun c hc => h2 c hc, fun b hb => (h1 b (Nat.lt_succ_of_lt hb)).trans (nw_n (by omega)), h3⟩
  unfold am_mn
  rw [if_neg (by rw [e1, e2]; rintro (q | q | q | q) <;> first | (exact nI_pos (by decide) q) | omega), e1, e2]
  rfl
theorem mn_ext {w : am_Wd} : ext w (mnw w) 37 108 := by
  obtain ⟨-, -, -, h, e⟩ := mn_ok w
  refine ⟨h, ?_⟩
  rw [e]
  exact ⟨Nat.le_add_right _ _, Nat.le_refl _, Nat.le_add_right _ _, Nat.le_refl _, rfl⟩
theorem rws_0 {w : am_Wd} {g : Nat → Nat} {q t : Nat} (h1 : cQ w q 6 36 (fun i => if i < 36 then some (q + 1 + i) else none)) (h2 : ∀ c, c < 36 → cI w (q + 1 + c) 0 2 (fun _ => 0)) (h3 : ∀ c, c < 36 → g (q + 1 + c) = t + c) : Rws w g q t (fun _ => 0) := ⟨h1, fun c hc => ⟨⟨_, h2 c hc, rfl, rfl⟩, h3 c hc⟩⟩
/-- a list grown by one -/
theorem wks_n {wad : Nat → Nat} : (fun _ => none : Nat → Option Nat) = wks 0 wad := by
  funext i
  unfold wks
  rw [if_neg (Nat.not_lt_zero i)]
theorem x195 {w : am_Wd} {g : Nat → Nat} {wl ed n a : Nat} {wad : Nat → Nat} {fs : List Value} (L : Lst w g wl ed n wad) (hn : n < 3) (hJ : gJ w g) (gw : g wl = 105) (ha : cO w a 10 fs) (nl : a ≠ wl) (ne : a ≠ ed) (la : a < w.2.1) :
    ∃ w' ed' g', am_x 195 [.ref wl, .ref a] w = some (.inl (some (.int (nI 1))), w') ∧ Lst w' g' wl ed' (n + 1) (up wad n a) ∧ stp 105 107 g g' 1 10 w w' := by
  obtain ⟨h1, h2⟩ := L
  have p1 : am_pf w wl 3 0 (.int (nI (n + 1))) = some (am_pt w wl (.inr (3, [.int (nI (n + 1)), .ref ed, .int (nI n)]))) := pfc h1 (by show 0 < 3; decide) (by decide)
  have lw : wl < w.2.1 := lt_J hJ gw (by decide)
  have c1 : cO (am_pt w wl (.inr (3, [.int (nI (n + 1)), .ref ed, .int (nI n)]))) wl 3 [.int (nI (n + 1)), .ref ed, .int (nI n)] := pt_s
  have a1 : cO (am_pt w wl (.inr (3, [.int (nI (n + 1)), .ref ed, .int (nI n)]))) a 10 fs := cO_of ha (pt_n nl)
  have f1 : frm g 105 106 w (am_pt w wl (.inr (3, [.int (nI (n + 1)), .ref ed, .int (nI n)]))) := frm_pt (by omega) (by omega)
  have st1 := stp_frm (lo := 105) (hi := 107) hJ f1 (by decide) (by decide)
  have m1 : (am_pt w wl (.inr (3, [.int (nI (n + 1)), .ref ed, .int (nI n)]))).2 = w.2 := rfl
  rcases h2 with ⟨h0, hs, hq, hg⟩ | ⟨hq, hg⟩
  · subst h0
    have nwe : wl ≠ ed := fun e => by rw [← e, gw] at hg; cases hg
    have q1 : cQ (am_pt w wl (.inr (3, [.int (nI (0 + 1)), .ref ed, .int (nI 0)]))) ed 13 0 (fun _ => none) := cQ_of hq (pt_n (fun e => nwe e.symm))
    have s1 : (am_pt w wl (.inr (3, [.int (nI (0 + 1)), .ref ed, .int (nI 0)]))).2.2.2 1 = some ed := hs
    generalize am_pt w wl (.inr (3, [.int (nI (0 + 1)), .ref ed, .int (nI 0)])) = w1 at p1 c1 a1 q1 s1 m1 st1
    have m1' : w1.2.1 = w.2.1 := by rw [m1]
    have na : am_na w1 5 (nI 10) = some (am_nw w1 (.inl (5, 10, am_in 5)) 10) := nac (by decide)
    have r2 : cQ (am_nw w1 (.inl (5, 10, am_in 5)) 10) w1.2.1 5 10 (wks 0 wad) := by
      rw [← wks_n]
      exact nw_s
    have e2 : ext w1 (am_nw w1 (.inl (5, 10, am_in 5)) 10) 1 10 := ext_nw
    have c2 : cO (am_nw w1 (.inl (5, 10, am_in 5)) 10) wl 3 [.int (nI (0 + 1)), .ref ed, .int (nI 0)] := cO_of c1 (nw_n (by omega))
    have a2 : cO (am_nw w1 (.inl (5, 10, am_in 5)) 10) a 10 fs := cO_of a1 (nw_n (by omega))
    have m2 : w1.2.1 < (am_nw w1 (.inl (5, 10, am_in 5)) 10).2.1 := Nat.lt_succ_self _
    have gw2 : up g w1.2.1 106 wl = 105 := (up_n (by omega)).trans gw
    have gr2 : up g w1.2.1 106 w1.2.1 = 106 := up_s
    generalize am_nw w1 (.inl (5, 10, am_in 5)) 10 = w2 at na r2 e2 c2 a2 m2
    have p2 : am_pf w2 wl 3 1 (.ref w1.2.1) = some (am_pt w2 wl (.inr (3, [.int (nI (0 + 1)), .ref w1.2.1, .int (nI 0)]))) := pfc c2 (by show 1 < 3; decide) (by decide)
    have c3 : cO (am_pt w2 wl (.inr (3, [.int (nI (0 + 1)), .ref w1.2.1, .int (nI 0)]))) wl 3 [.int (nI (0 + 1)), .ref w1.2.1, .int (nI 0)] := pt_s
    have r3 : cQ (am_pt w2 wl (.inr (3, [.int (nI (0 + 1)), .ref w1.2.1, .int (nI 0)]))) w1.2.1 5 10 (wks 0 wad) := cQ_of r2 (pt_n (by omega))
    have a3 : cO (am_pt w2 wl (.inr (3, [.int (nI (0 + 1)), .ref w1.2.1, .int (nI 0)]))) a 10 fs := cO_of a2 (pt_n nl)
    have f3 : frm (up g w1.2.1 106) 105 107 w2 (am_pt w2 wl (.inr (3, [.int (nI (0 + 1)), .ref w1.2.1, .int (nI 0)]))) := frm_pt (by omega) (by omega)
    generalize am_pt w2 wl (.inr (3, [.int (nI (0 + 1)), .ref w1.2.1, .int (nI 0)])) = w3 at p2 c3 r3 a3 f3
    have p4 : am_wq 5 10 w3 w1.2.1 (nI 0) a = some (am_pt w3 w1.2.1 (.inl (5, 10, .inr (.inr (.inr (.inr (va_up (wks 0 wad) 0 (some a)))))))) := wqc r3 (by decide) a3 (by decide) (by decide)
    rw [wks_up] at p4
    have c4 : cO (am_pt w3 w1.2.1 (.inl (5, 10, .inr (.inr (.inr (.inr (wks (0 + 1) (up wad 0 a)))))))) wl 3 [.int (nI (0 + 1)), .ref w1.2.1, .int (nI 0)] := cO_of c3 (pt_n (by omega))
    have r4 : cQ (am_pt w3 w1.2.1 (.inl (5, 10, .inr (.inr (.inr (.inr (wks (0 + 1) (up wad 0 a)))))))) w1.2.1 5 10 (wks (0 + 1) (up wad 0 a)) := pt_s
    have f4 : frm (up g w1.2.1 106) 105 107 w3 (am_pt w3 w1.2.1 (.inl (5, 10, .inr (.inr (.inr (.inr (wks (0 + 1) (up wad 0 a)))))))) := frm_pt (by omega) (by omega)
    generalize am_pt w3 w1.2.1 (.inl (5, 10, .inr (.inr (.inr (.inr (wks (0 + 1) (up wad 0 a))))))) = w4 at p4 c4 r4 f4
    have p5 : am_pf w4 wl 3 2 (.int (nI (0 + 1))) = some (am_pt w4 wl (.inr (3, [.int (nI (0 + 1)), .ref w1.2.1, .int (nI (0 + 1))]))) := pfc c4 (by show 2 < 3; decide) (by decide)
    have r5 : cQ (am_pt w4 wl (.inr (3, [.int (nI (0 + 1)), .ref w1.2.1, .int (nI (0 + 1))]))) w1.2.1 5 10 (wks (0 + 1) (up wad 0 a)) := cQ_of r4 (pt_n (by omega))
    have f5 : frm (up g w1.2.1 106) 105 107 w4 (am_pt w4 wl (.inr (3, [.int (nI (0 + 1)), .ref w1.2.1, .int (nI (0 + 1))]))) := frm_pt (by omega) (by omega)
    refine ⟨am_pt w4 wl (.inr (3, [.int (nI (0 + 1)), .ref w1.2.1, .int (nI (0 + 1))])), w1.2.1, up g w1.2.1 106, ?_, ⟨pt_s, Or.inr ⟨r5, gr2⟩⟩, stp_wk (stp_tr st1 (stp_new (stp_J st1) e2 (Nat.le_refl _) m2 (frm_tr f3 (frm_tr f4 f5)) (Nat.le_refl 105) (Nat.le_refl 107) (by decide) (by decide))) (by decide) (by decide)⟩
    have mx : bj_max (nI 10) (nI 1) = nI 10 := bj_maxS (by decide) (by decide)
    have l1 := lenQ q1 (by decide)
    simp only [bx195, bk195_0, gfc h1, List.getElem?_cons_zero, bk195_5, nI_add, p1, bk195_10, gfc c1, List.getElem?_cons_succ, bk195_16, bk195_20, kfc c1, bx149, bk149_0, l1, bk149_3, not_true_eq_false, bk149_6, bx104, bk104_0, bk104_5, bx55, bk55_0, bk55_4, bk55_5, nI_ltS (show 0 < 2147483648 by decide) (show 0 < 2147483648 by decide), Nat.lt_irrefl, bk55_10, bk55_14 s1, bk55_17, bk55_45, Nat.zero_add, mx, na, bk55_55, p2, bk55_59, bk104_10, bk149_10, bk149_11, p4, bk149_15, p5, bk149_22, bk195_23, Option.bind_some, bct_v, otl_s, otl_n, List.cons_append, List.nil_append, ↓reduceIte]
  · have nwe : wl ≠ ed := fun e => by rw [← e, gw] at hg; cases hg
    have q1 : cQ (am_pt w wl (.inr (3, [.int (nI (n + 1)), .ref ed, .int (nI n)]))) ed 5 10 (wks n wad) := cQ_of hq (pt_n (fun e => nwe e.symm))
    generalize am_pt w wl (.inr (3, [.int (nI (n + 1)), .ref ed, .int (nI n)])) = w1 at p1 c1 a1 q1 m1 st1
    have p4 : am_wq 5 10 w1 ed (nI n) a = some (am_pt w1 ed (.inl (5, 10, .inr (.inr (.inr (.inr (va_up (wks n wad) n (some a)))))))) := wqc q1 (by decide) a1 (by omega) (by decide)
    rw [wks_up] at p4
    have c4 : cO (am_pt w1 ed (.inl (5, 10, .inr (.inr (.inr (.inr (wks (n + 1) (up wad n a)))))))) wl 3 [.int (nI (n + 1)), .ref ed, .int (nI n)] := cO_of c1 (pt_n nwe)
    have r4 : cQ (am_pt w1 ed (.inl (5, 10, .inr (.inr (.inr (.inr (wks (n + 1) (up wad n a)))))))) ed 5 10 (wks (n + 1) (up wad n a)) := pt_s
    have f4 : frm g 105 107 w1 (am_pt w1 ed (.inl (5, 10, .inr (.inr (.inr (.inr (wks (n + 1) (up wad n a)))))))) := frm_pt (by omega) (by omega)
    generalize am_pt w1 ed (.inl (5, 10, .inr (.inr (.inr (.inr (wks (n + 1) (up wad n a))))))) = w4 at p4 c4 r4 f4
    have p5 : am_pf w4 wl 3 2 (.int (nI (n + 1))) = some (am_pt w4 wl (.inr (3, [.int (nI (n + 1)), .ref ed, .int (nI (n + 1))]))) := pfc c4 (by show 2 < 3; decide) (by decide)
    have r5 : cQ (am_pt w4 wl (.inr (3, [.int (nI (n + 1)), .ref ed, .int (nI (n + 1))]))) ed 5 10 (wks (n + 1) (up wad n a)) := cQ_of r4 (pt_n (fun e => nwe e.symm))
    have f5 : frm g 105 107 w4 (am_pt w4 wl (.inr (3, [.int (nI (n + 1)), .ref ed, .int (nI (n + 1))]))) := frm_pt (by omega) (by omega)
    refine ⟨am_pt w4 wl (.inr (3, [.int (nI (n + 1)), .ref ed, .int (nI (n + 1))])), ed, g, ?_, ⟨pt_s, Or.inr ⟨r5, hg⟩⟩, stp_wk (stp_tr st1 (stp_frm (stp_J st1) (frm_tr f4 f5) (Nat.le_refl 105) (Nat.le_refl 107))) (by decide) (by decide)⟩
    have l1 := lenQ q1 (by decide)
    simp only [bx195, bk195_0, gfc h1, List.getElem?_cons_zero, bk195_5, nI_add, p1, bk195_10, gfc c1, List.getElem?_cons_succ, bk195_16, bk195_20, kfc c1, bx149, bk149_0, l1, bk149_3, nI_eqS (show n < 2147483648 by omega) (show 10 < 2147483648 by decide), show ¬ n = 10 from by omega, not_false_eq_true, bk149_11, p4, bk149_15, p5, bk149_22, bk195_23, Option.bind_some, bct_v, otl_s, otl_n, List.cons_append, List.nil_append, ↓reduceIte]
