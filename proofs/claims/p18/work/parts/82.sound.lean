/-! THE REFERENCE: going through the walkers; soundness. Mine. -/
def itO (c : Nat) (l : Int32) (n wl : Nat) : List Value := [.int (nI c), .int l, .int (nI n), .ref wl]
theorem itO_0 {c : Nat} {l : Int32} {n wl : Nat} : (itO c l n wl)[0]? = some (.int (nI c)) := rfl
theorem itO_1 {c : Nat} {l : Int32} {n wl : Nat} : (itO c l n wl)[1]? = some (.int l) := rfl
theorem itO_2 {c : Nat} {l : Int32} {n wl : Nat} : (itO c l n wl)[2]? = some (.int (nI n)) := rfl
theorem itO_3 {c : Nat} {l : Int32} {n wl : Nat} : (itO c l n wl)[3]? = some (.ref wl) := rfl
def sndR (kd hr : Nat → Nat) (h : Nat) (y : sW) : Bool := decide (¬ y.2.2.2.2.1 < y.2.2.2.2.2.1 + y.2.2.2.2.2.2.1) && decide (ofwR kd hr h y 7 + ofwR kd hr h y 8 = ofwR kd hr h y 5 + ofwR kd hr h y 6)
section SND
variable {w : am_Wd} {g : Nat → Nat} {m kq hq ca ba wl ed : Nat} {wad : Nat → Nat} {kd hr : Nat → Nat} {cp br : Nat → Bool} {n : Nat} {ws : Nat → sW} {th mi nd : Nat} {dr me di re : Int32}
theorem x105 (h : Lst w g wl ed n wad) (hl : wl < w.2.1) : ∃ w', am_x 105 [.ref wl] w = some (.inl (some (.ref w.2.1)), w') ∧ ext w w' 1 4 ∧ w.2.1 < w'.2.1 ∧ cO w' w.2.1 2 (itO 0 (-1) n wl) := by
  have l1 : cO (am_nw w (.inr (2, am_df 2 4)) 4) wl 3 [.int (nI n), .ref ed, .int (nI n)] := cO_of h.1 (nw_n (by omega))
  have q0 : cO (am_nw w (.inr (2, am_df 2 4)) 4) w.2.1 2 (am_df 2 4) := nw_s
  have p0 : ∀ fs', am_pt (am_nw w (.inr (2, am_df 2 4)) 4) w.2.1 (.inr (2, fs')) = am_pt (am_nw w (.inr (2, am_df 2 4)) 4) w.2.1 (.inr (2, fs')) := fun _ => rfl
  have step : ∀ fs, cO (am_pt (am_nw w (.inr (2, am_df 2 4)) 4) w.2.1 (.inr (2, fs))) w.2.1 2 fs := fun fs => pt_s
  have sl : ∀ fs, cO (am_pt (am_nw w (.inr (2, am_df 2 4)) 4) w.2.1 (.inr (2, fs))) wl 3 [.int (nI n), .ref ed, .int (nI n)] := fun fs => cO_of l1 (pt_n (by omega))
  have f1 : am_pf (am_nw w (.inr (2, am_df 2 4)) 4) w.2.1 2 3 (.ref wl) = some (am_pt (am_nw w (.inr (2, am_df 2 4)) 4) w.2.1 (.inr (2, [.int (nI 0), .int (nI 0), .int (nI 0), .ref wl]))) := pfc q0 (by show 3 < 4; decide) (by decide)
  have f2 : am_pf (am_pt (am_nw w (.inr (2, am_df 2 4)) 4) w.2.1 (.inr (2, [.int (nI 0), .int (nI 0), .int (nI 0), .ref wl]))) w.2.1 2 1 (.int (-1)) = some (am_pt (am_nw w (.inr (2, am_df 2 4)) 4) w.2.1 (.inr (2, [.int (nI 0), .int (-1), .int (nI 0), .ref wl]))) := by
    rw [pfc (step _) (by show 1 < 4; decide) (by decide), pt_pt]
    rfl
  have f3 : am_pf (am_pt (am_nw w (.inr (2, am_df 2 4)) 4) w.2.1 (.inr (2, [.int (nI 0), .int (-1), .int (nI 0), .ref wl]))) w.2.1 2 2 (.int (nI n)) = some (am_pt (am_nw w (.inr (2, am_df 2 4)) 4) w.2.1 (.inr (2, itO 0 (-1) n wl))) := by
    rw [pfc (step _) (by show 2 < 4; decide) (by decide), pt_pt]
    rfl
  refine ⟨am_pt (am_nw w (.inr (2, am_df 2 4)) 4) w.2.1 (.inr (2, itO 0 (-1) n wl)), ?_, ext_pt ext_nw (Nat.le_refl _), Nat.lt_succ_self _, pt_s⟩
  have g3 : am_gf (am_pt (am_nw w (.inr (2, am_df 2 4)) 4) w.2.1 (.inr (2, [.int (nI 0), .int (-1), .int (nI 0), .ref wl]))) w.2.1 2 3 = some (.ref wl) := gfc (step _)
  have g0 : am_gf (am_pt (am_nw w (.inr (2, am_df 2 4)) 4) w.2.1 (.inr (2, [.int (nI 0), .int (-1), .int (nI 0), .ref wl]))) wl 3 0 = some (.int (nI n)) := gfc (sl _)
  simp only [bx105, bk105_0, bk105_3, bx53, bk53_0, f1, bk53_5, f2, bk53_14, g3, bk53_19, g0, bk53_22, f3, bk53_25, bk105_8, Option.bind_some, bct_v, bct_t, otl_s, otl_n, List.cons_append, List.nil_append, List.getElem?_cons_zero, List.getElem?_cons_succ, ↓reduceIte]
theorem x52 {it c : Nat} {l : Int32} (hi : cO w it 2 (itO c l n wl)) (h : Lst w g wl ed n wad) (hn : n ≤ 3) (hc : c ≤ n) : am_x 52 [.ref it] w = some (.inl (some (.int (b2i (decide (c < n))))), w) := by
  simp only [bx52, bk52_0, gfc hi, itO_0, bk52_4, itO_3, bk52_8, gfc h.1, bk52_11, nI_eqS (show c < 2147483648 by omega) (show n < 2147483648 by omega), Option.bind_some, bct_v, bct_t, otl_s, otl_n, List.cons_append, List.nil_append, List.getElem?_cons_zero, List.getElem?_cons_succ, ↓reduceIte]
  by_cases q : c = n
  · rw [if_pos q, bk52_18, bk52_19 (by rfl), decide_eq_false (by omega)]; rfl
  · rw [if_neg q, bk52_14, bk52_19 (by rfl), decide_eq_true (by omega)]; rfl
theorem x103 {it c : Nat} {l : Int32} (hi : cO w it 2 (itO c l n wl)) (h : Lst w g wl ed n wad) (hn : n ≤ 3) (hc : c < n) (n1 : wl ≠ it) (n2 : ed ≠ it) : am_x 103 [.ref it] w = some (.inl (some (.ref (wad c))), am_pt w it (.inr (2, itO (c + 1) (nI c) n wl))) := by
  obtain ⟨h1, h2⟩ := h
  have hq : cQ w ed 5 10 (wks n wad) := by
    rcases h2 with ⟨h2, -⟩ | ⟨h2, -⟩
    · omega
    · exact h2
  have f1 : am_pf w it 2 0 (.int (nI (c + 1))) = some (am_pt w it (.inr (2, itO (c + 1) l n wl))) := pfc hi (by show 0 < 4; decide) (by decide)
  have q1 : cO (am_pt w it (.inr (2, itO (c + 1) l n wl))) it 2 (itO (c + 1) l n wl) := pt_s
  have f2 : am_pf (am_pt w it (.inr (2, itO (c + 1) l n wl))) it 2 1 (.int (nI c)) = some (am_pt w it (.inr (2, itO (c + 1) (nI c) n wl))) := by
    rw [pfc q1 (by show 1 < 4; decide) (by decide), pt_pt]
    rfl
  have hq' : cQ (am_pt w it (.inr (2, itO (c + 1) (nI c) n wl))) ed 5 10 (wks n wad) := cQ_of hq (pt_n n2)
  have r0 := rqc hq' (i := c) (Or.inr (Or.inl rfl)) (by omega) (by decide)
  rw [show wks n wad c = some (wad c) from if_pos hc] at r0
  have r0' : am_rq (am_pt w it (.inr (2, itO (c + 1) (nI c) n wl))) ed (nI c) = some (.ref (wad c)) := r0
  simp only [bx103, bk103_0, kfc hi, bx51, bk51_0, gfc hi, itO_0, itO_2, itO_3, bk51_4, gfc h1, bk51_7, bk51_11, bk51_22, bk103_4, bk103_8, bk103_14, bk103_17, nI_ltS (show c < 2147483648 by omega) (show n < 2147483648 by omega), hc, bk103_28, bk103_32, bk103_35, lenQ hq (by decide), bk103_39, nI_ltS (show c < 2147483648 by omega) (show 10 < 2147483648 by decide), show c < 10 from by omega, bk103_50, nI_add, f1, bk103_57, f2, bk103_64, r0', bk103_65, Option.bind_some, bct_v, bct_t, otl_s, otl_n, List.cons_append, List.nil_append, List.getElem?_cons_zero, List.getElem?_cons_succ, ↓reduceIte]
theorem ext_of_pt {w0 w1 : am_Wd} {k s a : Nat} {e : am_En} (h : ext w0 w1 k s) (ha : w0.2.1 ≤ a) : ext w0 (am_pt w1 a e) k s := ext_pt h ha
/-- one walker looked at -/
theorem it186 (R : RMx w g m kq hq ca ba wl ed wad kd hr cp br n ws th mi nd dr me di re) (hJ : gJ w g) (hn : n ≤ 3) (hk : kdok kd) (hh : hrok hr) (hm : mi ≤ 3000) (ho : ∀ i, i < n → okY (ws i)) {c it k s : Nat} {l : Int32} {w1 : am_Wd} (e : ext w w1 k s) (hit : w.2.1 ≤ it) (hi2 : it < w1.2.1) (hi : cO w1 it 2 (itO c l n wl)) (hc : c < n) :
    ∃ w2, ext w w2 (k + 4) (s + 52) ∧ it < w2.2.1 ∧ cO w2 it 2 (itO (c + 1) (nI c) n wl) ∧ am_run 186 8 [some (.ref m), some (.ref it), none, none] [] w1 = if sndR kd hr (mi / 60 % 24) (ws c) = true then am_run 186 8 [some (.ref m), some (.ref it), none, none] [] w2 else some (.inl (some (.int (nI 0))), w2) := by
  have R1 := rm_ext R hn hJ e
  have n1 : wl ≠ it := fun q => by have := lt_J hJ R.2.2.2.2.2.2.2.2.2.2.2.2 (by decide); omega
  have n2 : ed ≠ it := fun q => by
    have : ed < w.2.1 := by
      rcases R.2.2.2.2.2.1.2 with ⟨-, -, -, z⟩ | ⟨-, z⟩
      · exact lt_J hJ z (by decide)
      · exact lt_J hJ z (by decide)
    omega
  have z52 := x52 hi R1.2.2.2.2.2.1 hn (by omega)
  have z103 := x103 hi R1.2.2.2.2.2.1 hn hc n1 n2
  have e2 : ext w (am_pt w1 it (.inr (2, itO (c + 1) (nI c) n wl))) k s := ext_pt e hit
  have q2 : cO (am_pt w1 it (.inr (2, itO (c + 1) (nI c) n wl))) it 2 (itO (c + 1) (nI c) n wl) := pt_s
  have l2 : it < (am_pt w1 it (.inr (2, itO (c + 1) (nI c) n wl))).2.1 := hi2
  generalize am_pt w1 it (.inr (2, itO (c + 1) (nI c) n wl)) = w2 at z103 e2 q2 l2
  have R2 := rm_ext R hn hJ e2
  have hy := sW_eta (ws c)
  obtain ⟨o1, o2, o3, o4, o5⟩ := ho c hc
  have h2 := rm_get R2 hc hy
  have z37 := x37 h2
  have kfw := mk_kf h2
  have hl := cnt_le (ws c).2.2.2.2.2.2.2.1 144
  obtain ⟨ma, mq, c1, -⟩ := h2
  have a1 : am_x 39 [.int (nI (cnt 144 (ws c).2.2.2.2.2.2.2.1)), .int (nI 1), .int (nI 144)] w2 = some (.inl (some (.int (nI 1))), w2) := x39 (by decide) o5 hl
  have a2 : am_x 39 [.int (nI (ws c).2.2.1), .int (nI 0), .int (nI 500)] w2 = some (.inl (some (.int (nI 1))), w2) := x39 (by decide) (Nat.zero_le _) o3
  have a3 : am_x 39 [.int (nI (ws c).2.1), .int (nI 0), .int (nI 143)] w2 = some (.inl (some (.int (nI 1))), w2) := x39 (by decide) (Nat.zero_le _) (by omega)
  by_cases q : (ws c).2.2.2.2.1 < (ws c).2.2.2.2.2.1 + (ws c).2.2.2.2.2.2.1
  · refine ⟨w2, ext_wk e2 (by omega) (by omega), l2, q2, ?_⟩
    rw [if_neg (by unfold sndR; rw [decide_eq_false (fun x => x q)]; simp)]
    simp only [bk186_8, kfc hi, z52, decide_eq_true hc, bk186_14, b2i_0, reduceCtorEq, bk186_17, z103, bk186_23, kfw, bk186_26, z37, bk186_31, a1, bk186_38, bk186_41, gfc c1, oK_0, oK_1, oK_2, oK_3, oK_4, oK_5, oK_6, oK_7, oK_8, bk186_45, a2, bk186_52, bk186_55, bk186_59, a3, bk186_66, bk186_69, bk186_73, bk186_77, bk186_81, q, bk186_89, bk186_90, bk186_127, nI_eqS (show 1 < 2147483648 by decide) (show 0 < 2147483648 by decide), show ¬ 1 = 0 from by decide, Option.bind_some, bct_v, bct_t, otl_s, otl_n, List.cons_append, List.nil_append, List.getElem?_cons_zero, List.getElem?_cons_succ, ↓reduceIte]
  · obtain ⟨w3, b3, e3⟩ := x146 R2 (gJ_ext hJ e2) hk hh hm hc hy o4 (k := 7) (by decide)
    have e3' := ext_tr e2 e3
    have R3 := rm_ext R hn hJ e3'
    obtain ⟨w4, b4, e4⟩ := x146 R3 (gJ_ext hJ e3') hk hh hm hc hy o4 (k := 8) (by decide)
    have e4' := ext_tr e3' e4
    have R4 := rm_ext R hn hJ e4'
    obtain ⟨w5, b5, e5⟩ := x146 R4 (gJ_ext hJ e4') hk hh hm hc hy o4 (k := 5) (by decide)
    have e5' := ext_tr e4' e5
    have R5 := rm_ext R hn hJ e5'
    obtain ⟨w6, b6, e6⟩ := x146 R5 (gJ_ext hJ e5') hk hh hm hc hy o4 (k := 6) (by decide)
    have e6' := ext_tr e5' e6
    have l3 : it < w3.2.1 := by have := e3.2.1; omega
    have l4 : it < w4.2.1 := by have := e4.2.1; omega
    have l5 : it < w5.2.1 := by have := e5.2.1; omega
    have q6 : cO w6 it 2 (itO (c + 1) (nI c) n wl) := cO_of (cO_of (cO_of (cO_of q2 (e3.1 it l2)) (e4.1 it l3)) (e5.1 it l4)) (e6.1 it l5)
    have eq : sndR kd hr (mi / 60 % 24) (ws c) = decide (ofwR kd hr (mi / 60 % 24) (ws c) 7 + ofwR kd hr (mi / 60 % 24) (ws c) 8 = ofwR kd hr (mi / 60 % 24) (ws c) 5 + ofwR kd hr (mi / 60 % 24) (ws c) 6) := by
      unfold sndR
      rw [decide_eq_true q, Bool.true_and]
    refine ⟨w6, ext_wk e6' (by omega) (by omega), by have := e6.2.1; omega, q6, ?_⟩
    rw [eq]
    simp only [bk186_8, kfc hi, z52, decide_eq_true hc, bk186_14, b2i_0, reduceCtorEq, bk186_17, z103, bk186_23, kfw, bk186_26, z37, bk186_31, a1, bk186_38, bk186_41, gfc c1, oK_0, oK_1, oK_2, oK_3, oK_4, oK_5, oK_6, oK_7, oK_8, bk186_45, a2, bk186_52, bk186_55, bk186_59, a3, bk186_66, bk186_69, bk186_73, bk186_77, bk186_81, q, bk186_85, bk186_90, nI_eqS (show 1 < 2147483648 by decide) (show 0 < 2147483648 by decide), show ¬ 1 = 0 from by decide, bk186_95, rm_kf R2, b3, bk186_102, rm_kf R3, b4, bk186_109, rm_kf R4, b5, bk186_116, rm_kf R5, b6, bk186_123, Option.bind_some, bct_v, bct_t, otl_s, otl_n, List.cons_append, List.nil_append, List.getElem?_cons_zero, List.getElem?_cons_succ, ↓reduceIte]
    by_cases y : ofwR kd hr (mi / 60 % 24) (ws c) 7 + ofwR kd hr (mi / 60 % 24) (ws c) 8 = ofwR kd hr (mi / 60 % 24) (ws c) 5 + ofwR kd hr (mi / 60 % 24) (ws c) 6
    · rw [if_pos y, if_pos (decide_eq_true y), bk186_129, bk186_8]
    · rw [if_neg y, if_neg (by rw [decide_eq_false y]; decide), bk186_127]
def sndRS (kd hr : Nat → Nat) (h n : Nat) (ws : Nat → sW) : Bool := (fst1 n fun i => !(sndR kd hr h (ws i))).isNone
theorem x186 (R : RMx w g m kq hq ca ba wl ed wad kd hr cp br n ws th mi nd dr me di re) (hJ : gJ w g) (hn : n ≤ 3) (hk : kdok kd) (hh : hrok hr) (hm : mi ≤ 3000) (ho : ∀ i, i < n → okY (ws i)) : ∃ w', am_x 186 [.ref m] w = some (.inl (some (.int (b2i (sndRS kd hr (mi / 60 % 24) n ws)))), w') ∧ ext w w' 13 160 := by
  have L := R.2.2.2.2.2.1
  obtain ⟨w1, a1, e1, li, c1⟩ := x105 L (lt_J hJ R.2.2.2.2.2.2.2.2.2.2.2.2 (by decide))
  have go : ∀ c, c ≤ n → (∀ j, j < c → sndR kd hr (mi / 60 % 24) (ws j) = true) → ∃ w2 l, ext w w2 (1 + 4 * c) (4 + 52 * c) ∧ w.2.1 < w2.2.1 ∧ cO w2 w.2.1 2 (itO c l n wl) ∧ am_run 186 8 [some (.ref m), some (.ref w.2.1), none, none] [] w1 = am_run 186 8 [some (.ref m), some (.ref w.2.1), none, none] [] w2 := by
    intro c
    induction c with
    | zero => exact fun _ _ => ⟨w1, -1, e1, li, c1, rfl⟩
    | succ c ih =>
      intro hc hs
      obtain ⟨w2, l, k1, k2, k3, k4⟩ := ih (by omega) (fun j hj => hs j (by omega))
      obtain ⟨w3, j1, j2, j3, j4⟩ := it186 R hJ hn hk hh hm ho k1 (Nat.le_refl _) k2 k3 (by omega)
      rw [if_pos (hs c (by omega))] at j4
      exact ⟨w3, nI c, ext_wk j1 (by omega) (by omega), j2, j3, k4.trans j4⟩
  have st : am_x 186 [.ref m] w = am_run 186 8 [some (.ref m), some (.ref w.2.1), none, none] [] w1 := by
    simp only [bx186, bk186_0, gfc R.1, oM_0, oM_1, oM_2, oM_3, oM_4, oM_5, oM_6, oM_7, oM_8, oM_9, oM_10, oM_11, bk186_4, kfc L.1, a1, bk186_7, Option.bind_some, bct_v, bct_t, otl_s, otl_n, List.cons_append, List.nil_append, List.getElem?_cons_zero, List.getElem?_cons_succ, ↓reduceIte]
  rw [st]
  unfold sndRS
  cases e : fst1 n (fun i => !(sndR kd hr (mi / 60 % 24) (ws i))) with
  | none =>
    obtain ⟨w2, l, k1, k2, k3, k4⟩ := go n (Nat.le_refl n) (fun j hj => by
      have := fst1_none e j hj
      simpa using this)
    have R2 := rm_ext R hn hJ k1
    have z := x52 k3 R2.2.2.2.2.2.1 hn (Nat.le_refl n)
    refine ⟨w2, ?_, ext_wk k1 (by omega) (by omega)⟩
    rw [k4]
    simp only [bk186_8, kfc k3, z, decide_eq_false (Nat.lt_irrefl n), bk186_14, b2i_0, bk186_132, Option.bind_some, bct_v, bct_t, otl_s, otl_n, List.cons_append, List.nil_append, List.getElem?_cons_zero, List.getElem?_cons_succ, ↓reduceIte]
    rfl
  | some k =>
    obtain ⟨h1, h2, h3⟩ := fst1_some e
    obtain ⟨w2, l, k1, k2, k3, k4⟩ := go k (by omega) (fun j hj => by
      have := h3 j hj
      simpa using this)
    obtain ⟨w3, j1, j2, j3, j4⟩ := it186 R hJ hn hk hh hm ho k1 (Nat.le_refl _) k2 k3 h1
    rw [if_neg (by
      have : (!(sndR kd hr (mi / 60 % 24) (ws k))) = true := h2
      intro q
      rw [q] at this
      cases this)] at j4
    refine ⟨w3, ?_, ext_wk j1 (by omega) (by omega)⟩
    rw [k4, j4]
    rfl
end SND
