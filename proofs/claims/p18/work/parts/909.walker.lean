/-! THE REFERENCE'S CALLS: walker. Mine. -/
theorem stp_new2 {lo hi lo' hi' k s : Nat} {g g' : Nat → Nat} {w w1 w2 : am_Wd} (e : ext w w1 k s) (h0 : ∀ b, b < w.2.1 → g' b = g b) (h1 : ∀ b, w.2.1 ≤ b → g' b = 0 ∨ (lo ≤ g' b ∧ g' b < hi)) (hJ : gJ w1 g') (f : frm g' lo' hi' w1 w2) (h2 : lo ≤ lo') (h3 : hi' ≤ hi) : stp lo hi g g' k s w w2 := by
  refine ⟨fun c hc hg => (f.1 c (by rw [h0 c hc]; omega)).trans (e.1 c hc), h0, h1, fun c hc => hJ c (by rw [← f.2]; exact hc), ?_⟩
  rw [f.2]
  exact e.2
/-- tags of a new walker of the reference -/
def gM (g : Nat → Nat) (a n : Nat) : Nat → Nat := fun b => if b < a then g b else if b = a then 110 + 10 * n else if b = a + 1 then 111 + 10 * n else if b = a + 2 then 112 + 10 * n else if b < a + 39 then 400 + 100 * n + (b - (a + 3)) else g b
theorem gM_lt {g : Nat → Nat} {a n b : Nat} (h : b < a) : gM g a n b = g b := if_pos h
theorem gM_a {g : Nat → Nat} {a n : Nat} : gM g a n a = 110 + 10 * n := by unfold gM; rw [if_neg (by omega), if_pos rfl]
theorem gM_1 {g : Nat → Nat} {a n : Nat} : gM g a n (a + 1) = 111 + 10 * n := by unfold gM; rw [if_neg (by omega), if_neg (by omega), if_pos rfl]
theorem gM_2 {g : Nat → Nat} {a n : Nat} : gM g a n (a + 2) = 112 + 10 * n := by unfold gM; rw [if_neg (by omega), if_neg (by omega), if_neg (by omega), if_pos rfl]
theorem gM_r {g : Nat → Nat} {a n c : Nat} (h : c < 36) : gM g a n (a + 2 + 1 + c) = 400 + 100 * n + c := by unfold gM; rw [if_neg (by omega), if_neg (by omega), if_neg (by omega), if_neg (by omega), if_pos (by omega)]; omega
theorem gM_ge {g : Nat → Nat} {a n b : Nat} (h : a + 39 ≤ b) : gM g a n b = g b := by unfold gM; rw [if_neg (by omega), if_neg (by omega), if_neg (by omega), if_neg (by omega), if_neg (by omega)]
theorem gM_in {g : Nat → Nat} {a n b : Nat} (hn : n < 3) (h : a ≤ b) (h2 : b < a + 39) : 100 ≤ gM g a n b ∧ gM g a n b < 800 := by
  unfold gM
  rw [if_neg (by omega)]
  by_cases e1 : b = a
  · rw [if_pos e1]; omega
  · rw [if_neg e1]
    by_cases e2 : b = a + 1
    · rw [if_pos e2]; omega
    · rw [if_neg e2]
      by_cases e3 : b = a + 2
      · rw [if_pos e3]; omega
      · rw [if_neg e3, if_pos h2]; omega
/-- a walker's object, as it begins -/
theorem x36 (w : am_Wd) : ∃ w', am_x 36 [.ref w.2.1] (am_nw w (.inr (10, am_df 10 9)) 9) = some (.inl none, w') ∧ ext w w' 39 261 ∧ w'.2.1 = w.2.1 + 39 ∧ cO w' w.2.1 10 (oK 0 0 0 (w.2.1 + 1) (w.2.1 + 2) (nI 0) (nI 0) (nI 0) (nI 0)) ∧ cI w' (w.2.1 + 1) 2 144 (fun _ => 0) ∧ cQ w' (w.2.1 + 2) 6 36 (fun i => if i < 36 then some (w.2.1 + 2 + 1 + i) else none) ∧ ∀ c, c < 36 → cI w' (w.2.1 + 2 + 1 + c) 0 2 (fun _ => 0) := by
  have c0 : cO (am_nw w (.inr (10, am_df 10 9)) 9) w.2.1 10 [.int (nI 0), .int (nI 0), .int (nI 0), .null, .null, .int (nI 0), .int (nI 0), .int (nI 0), .int (nI 0)] := nw_s
  have e0 : ext w (am_nw w (.inr (10, am_df 10 9)) 9) 1 9 := ext_nw
  have l0 : (am_nw w (.inr (10, am_df 10 9)) 9).2.1 = w.2.1 + 1 := rfl
  generalize am_nw w (.inr (10, am_df 10 9)) 9 = w0 at c0 e0 l0
  have na : am_na w0 2 (nI 144) = some (nwr w0 2 144 (fun _ => 0)) := na_nwr (by decide) rfl
  have e1 : ext w0 (nwr w0 2 144 (fun _ => 0)) 1 144 := nwr_ext
  have c1 : cO (nwr w0 2 144 (fun _ => 0)) w.2.1 10 _ := cO_of c0 (e1.1 _ (by omega))
  have r1 : cI (nwr w0 2 144 (fun _ => 0)) w0.2.1 2 144 (fun _ => 0) := nwr_at
  have l1 : (nwr w0 2 144 (fun _ => 0)).2.1 = w0.2.1 + 1 := rfl
  generalize nwr w0 2 144 (fun _ => 0) = w1 at na e1 c1 r1 l1
  have p2 : am_pf w1 w.2.1 10 3 (.ref w0.2.1) = some (am_pt w1 w.2.1 (.inr (10, [.int (nI 0), .int (nI 0), .int (nI 0), .ref w0.2.1, .null, .int (nI 0), .int (nI 0), .int (nI 0), .int (nI 0)]))) := pfc c1 (by show 3 < 9; decide) (by decide)
  have c2 : cO (am_pt w1 w.2.1 (.inr (10, [.int (nI 0), .int (nI 0), .int (nI 0), .ref w0.2.1, .null, .int (nI 0), .int (nI 0), .int (nI 0), .int (nI 0)]))) w.2.1 10 [.int (nI 0), .int (nI 0), .int (nI 0), .ref w0.2.1, .null, .int (nI 0), .int (nI 0), .int (nI 0), .int (nI 0)] := pt_s
  have r2 : cI (am_pt w1 w.2.1 (.inr (10, [.int (nI 0), .int (nI 0), .int (nI 0), .ref w0.2.1, .null, .int (nI 0), .int (nI 0), .int (nI 0), .int (nI 0)]))) w0.2.1 2 144 (fun _ => 0) := cI_of r1 (pt_n (by omega))
  have e2 : ext w (am_pt w1 w.2.1 (.inr (10, [.int (nI 0), .int (nI 0), .int (nI 0), .ref w0.2.1, .null, .int (nI 0), .int (nI 0), .int (nI 0), .int (nI 0)]))) 2 153 := ext_pt (ext_tr e0 e1) (Nat.le_refl _)
  have l2 : (am_pt w1 w.2.1 (.inr (10, [.int (nI 0), .int (nI 0), .int (nI 0), .ref w0.2.1, .null, .int (nI 0), .int (nI 0), .int (nI 0), .int (nI 0)]))).2.1 = w.2.1 + 2 := by show w1.2.1 = _; omega
  generalize am_pt w1 w.2.1 (.inr (10, [.int (nI 0), .int (nI 0), .int (nI 0), .ref w0.2.1, .null, .int (nI 0), .int (nI 0), .int (nI 0), .int (nI 0)])) = w2 at p2 c2 r2 e2 l2
  obtain ⟨m1, m2, m3, m4, m5⟩ := mn_ok w2
  have c3 : cO (mnw w2) w.2.1 10 _ := cO_of c2 (m4 _ (by omega))
  have r3 : cI (mnw w2) w0.2.1 2 144 (fun _ => 0) := cI_of r2 (m4 _ (by omega))
  have e3 : ext w (mnw w2) 39 261 := ext_tr e2 mn_ext
  have l3 : (mnw w2).2.1 = w.2.1 + 39 := by rw [m5]; show w2.2.1 + 37 = _; omega
  generalize mnw w2 = w3 at m1 m2 m3 m4 c3 r3 e3 l3
  have p4 : am_pf w3 w.2.1 10 4 (.ref w2.2.1) = some (am_pt w3 w.2.1 (.inr (10, oK 0 0 0 w0.2.1 w2.2.1 (nI 0) (nI 0) (nI 0) (nI 0)))) := pfc c3 (by show 4 < 9; decide) (by decide)
  refine ⟨am_pt w3 w.2.1 (.inr (10, oK 0 0 0 w0.2.1 w2.2.1 (nI 0) (nI 0) (nI 0) (nI 0))), ?_, ext_pt e3 (Nat.le_refl _), l3, ?_, ?_, ?_, fun c hc => ?_⟩
  · simp only [bx36, bk36_0, na, bk36_10, p2, bk36_13, m1, bk36_21, p4, bk36_24, Option.bind_some, bct_v, bct_t, otl_s, otl_n, List.cons_append, List.nil_append, List.getElem?_cons_zero, List.getElem?_cons_succ, ↓reduceIte]
  · rw [← l0, ← l2]
    exact pt_s
  · rw [← l0]
    exact cI_of r3 (pt_n (by omega))
  · have := cQ_of m2 (pt_n (w := w3) (a := w.2.1) (e := .inr (10, oK 0 0 0 w0.2.1 w2.2.1 (nI 0) (nI 0) (nI 0) (nI 0))) (show w2.2.1 ≠ w.2.1 by omega))
    rw [l2] at this ⊢
    exact this
  · have := cI_of (m3 c hc) (pt_n (w := w3) (a := w.2.1) (e := .inr (10, oK 0 0 0 w0.2.1 w2.2.1 (nI 0) (nI 0) (nI 0) (nI 0))) (show w2.2.1 + 1 + c ≠ w.2.1 by omega))
    rw [l2] at this ⊢
    exact this
section CN
variable {w : am_Wd} {g : Nat → Nat} {m kq hq ca ba wl ed : Nat} {wad : Nat → Nat} {kd hr : Nat → Nat} {cp br : Nat → Bool} {n : Nat} {ws : Nat → sW} {th mi nd : Nat} {dr me di re : Int32}
variable {i a ho po ch : Nat} {lo ac bu sl : Int32} {may : Nat → Bool} {mp : Nat → Nat}
/-- what is written is a new walker's -/
theorem rm_new (R : RMx w g m kq hq ca ba wl ed wad kd hr cp br n ws th mi nd dr me di re) (hn : n ≤ 3) {w' : am_Wd} (f : frm g (110 + 10 * n) (113 + 10 * n) w w') : RMx w' g m kq hq ca ba wl ed wad kd hr cp br n ws th mi nd dr me di re := by
  obtain ⟨h1, k1, k2, k3, k4, k5, k6, g1, g2, g3, g4, g5, g6⟩ := R
  have he : w'.1 ed = w.1 ed := by
    rcases k5.2 with ⟨-, -, -, e⟩ | ⟨-, e⟩ <;> exact f.1 ed (by omega)
  exact ⟨cO_of h1 (f.1 m (by omega)), k1.of (f.1 kq (by omega)) (fun b z1 z2 => f.1 b (by omega)), k2.of (f.1 hq (by omega)) (fun b z1 z2 => f.1 b (by omega)), cI_of k3 (f.1 ca (by omega)), cI_of k4 (f.1 ba (by omega)), k5.of (f.1 wl (by omega)) he (by rw [f.2]), fun i hi => (k6 i hi).of (fun b z1 z2 => f.1 b (by omega)) (fun b z1 z2 => f.1 b (by omega)), g1, g2, g3, g4, g5, g6⟩
/-- the list grown: all else stands -/
theorem rm_add {w' : am_Wd} {g' : Nat → Nat} {ed' a k s : Nat} {y : sW} (R : RMx w g m kq hq ca ba wl ed wad kd hr cp br n ws th mi nd dr me di re) (hn : n < 3) (hJ : gJ w g) (h : Mkv w g n a y) (S : stp 105 107 g g' k s w w') (L : Lst w' g' wl ed' (n + 1) (up wad n a)) : RMx w' g' m kq hq ca ba wl ed' (up wad n a) kd hr cp br (n + 1) (up ws n y) th mi nd dr me di re := by
  obtain ⟨h1, k1, k2, k3, k4, k5, k6, g1, g2, g3, g4, g5, g6⟩ := R
  have hg := stp_g hJ S
  have sm : ∀ b t, g b = t → t ≠ 0 → (t < 105 ∨ 107 ≤ t) → w'.1 b = w.1 b := fun b t e h0 h2 => S.1 b (lt_J hJ e h0) (by omega)
  have mk : ∀ i a y, Mkv w g i a y → i ≤ n → Mkv w' g' i a y := fun i a y hM hi => (hM.of (fun b z1 z2 => sm b _ rfl (by omega) (by omega)) (fun b z1 z2 => sm b _ rfl (by omega) (by omega))).g hg
  refine ⟨cO_of h1 (sm _ _ g1 (by decide) (by decide)), (k1.of (sm _ _ g2 (by decide) (by decide)) (fun b z1 z2 => sm b _ rfl (by omega) (by omega))).g (by decide) hg, (k2.of (sm _ _ g3 (by decide) (by decide)) (fun b z1 z2 => sm b _ rfl (by omega) (by omega))).g (by decide) hg, cI_of k3 (sm _ _ g4 (by decide) (by decide)), cI_of k4 (sm _ _ g5 (by decide) (by decide)), L, fun i hi => ?_, (hg _ (by omega)).trans g1, (hg _ (by omega)).trans g2, (hg _ (by omega)).trans g3, (hg _ (by omega)).trans g4, (hg _ (by omega)).trans g5, (hg _ (by omega)).trans g6⟩
  by_cases e : i = n
  · subst e
    rw [up_s, up_s]
    exact mk _ _ _ h (Nat.le_refl _)
  · rw [up_n e, up_n e]
    exact mk _ _ _ (k6 i (by omega)) (by omega)
theorem y207 (R : RMx w g m kq hq ca ba wl ed wad kd hr cp br n ws th mi nd dr me di re) (hn : n ≤ 3) (hJ : gJ w g) (hn3 : n < 3) {c f h : Nat} (hc : c ≤ 35) (hf : f ≤ 3) (h1c : 1 ≤ h) (h5 : h ≤ 500) (b : Bool) :
    ∃ w' g', am_x 207 [.ref m, .int (nI c), .int (nI f), .int (nI h), .int (b2i b)] w = some (.inl (some (.int (nI n))), w') ∧ RM w' g' m kd hr cp br (n + 1) (up ws n (c, c * 4 + f, h, nI 0, nI 0, nI 0, nI 0, may0 (c * 4 + f) b, fun _ => 0)) 0 mi nd dr me di re ∧ stp 100 800 g g' 40 271 w w' := by
  have z1 := x97 (w := w) hc
  obtain ⟨w1, a1, R1, f1⟩ := x96 R hn false (c := 1) (by decide)
  have a1' : am_x 96 [.ref m, .int (nI 0), .int (nI 1)] w = _ := a1
  have z2 := x98 (w := w1) hf
  have z3 := x39 (w := w1) (a := 1) (b := 500) (j := h) (by decide) h1c h5
  obtain ⟨w2, a2, R2, f2⟩ := x40 R1 hn false (c := 2) (by decide)
  have a2' : am_x 40 [.ref m, .int (nI 0), .int (nI 2)] w1 = _ := a2
  obtain ⟨w3, a3, R3, f3⟩ := x40 R2 hn false (c := 3) (by decide)
  have a3' : am_x 40 [.ref m, .int (nI 0), .int (nI 3)] w2 = _ := a3
  have s3 := stp_frm (lo := 100) (hi := 800) hJ (frm_tr f1 (frm_tr f2 f3)) (by decide) (by decide)
  have hJ3 := stp_J s3
  obtain ⟨w4, a4, e4, l4, c4, r4, q4, i4⟩ := x36 w3
  -- the tags
  have g0 : ∀ b, b < w3.2.1 → gM g w3.2.1 n b = g b := fun b hb => gM_lt hb
  have gJ4 : gJ w4 (gM g w3.2.1 n) := fun b hb => by rw [gM_ge (by omega)]; exact hJ3 b (by omega)
  have g1 : ∀ b, w3.2.1 ≤ b → gM g w3.2.1 n b = 0 ∨ (100 ≤ gM g w3.2.1 n b ∧ gM g w3.2.1 n b < 800) := fun b hb => by
    rcases Nat.lt_or_ge b (w3.2.1 + 39) with q | q
    · exact Or.inr (gM_in hn3 hb q)
    · rw [gM_ge q]; exact Or.inl (hJ3 b hb)
  have R4 := rm_g (rm_ext R3 hn hJ3 e4) (g' := gM g w3.2.1 n) (fun b hb => g0 b (lt_J hJ3 rfl hb))
  -- the fields
  have hr4 : Rws w4 (gM g w3.2.1 n) (w3.2.1 + 2) (400 + 100 * n) (fun _ => 0) := rws_0 q4 i4 (fun c hc => gM_r hc)
  have hm4 : mR w4 (w3.2.1 + 1) (fun _ => false) := ⟨_, r4, fun _ _ => rfl⟩
  have p5 : am_pf w4 w3.2.1 10 0 (.int (nI (4 * c + f))) = some (am_pt w4 w3.2.1 (.inr (10, oK (4 * c + f) 0 0 (w3.2.1 + 1) (w3.2.1 + 2) (nI 0) (nI 0) (nI 0) (nI 0)))) := pfc c4 (by show 0 < 9; decide) (by decide)
  have c5 : cO (am_pt w4 w3.2.1 (.inr (10, oK (4 * c + f) 0 0 (w3.2.1 + 1) (w3.2.1 + 2) (nI 0) (nI 0) (nI 0) (nI 0)))) w3.2.1 10 (oK (4 * c + f) 0 0 (w3.2.1 + 1) (w3.2.1 + 2) (nI 0) (nI 0) (nI 0) (nI 0)) := pt_s
  have p6 : am_pf (am_pt w4 w3.2.1 (.inr (10, oK (4 * c + f) 0 0 (w3.2.1 + 1) (w3.2.1 + 2) (nI 0) (nI 0) (nI 0) (nI 0)))) w3.2.1 10 1 (.int (nI c)) = some (am_pt w4 w3.2.1 (.inr (10, oK (4 * c + f) c 0 (w3.2.1 + 1) (w3.2.1 + 2) (nI 0) (nI 0) (nI 0) (nI 0)))) := by
    rw [pfc c5 (by show 1 < 9; decide) (by decide), pt_pt]
    rfl
  have c6 : cO (am_pt w4 w3.2.1 (.inr (10, oK (4 * c + f) c 0 (w3.2.1 + 1) (w3.2.1 + 2) (nI 0) (nI 0) (nI 0) (nI 0)))) w3.2.1 10 (oK (4 * c + f) c 0 (w3.2.1 + 1) (w3.2.1 + 2) (nI 0) (nI 0) (nI 0) (nI 0)) := pt_s
  have p7 : am_pf (am_pt w4 w3.2.1 (.inr (10, oK (4 * c + f) c 0 (w3.2.1 + 1) (w3.2.1 + 2) (nI 0) (nI 0) (nI 0) (nI 0)))) w3.2.1 10 2 (.int (nI h)) = some (am_pt w4 w3.2.1 (.inr (10, oK (4 * c + f) c h (w3.2.1 + 1) (w3.2.1 + 2) (nI 0) (nI 0) (nI 0) (nI 0)))) := by
    rw [pfc c6 (by show 2 < 9; decide) (by decide), pt_pt]
    rfl
  obtain ⟨k5, f5⟩ := Mkv_fld (w := w4) (g := gM g w3.2.1 n) (i := n) (a := w3.2.1) (po' := 4 * c + f) (ho' := c) (ch' := h) (lo' := nI 0) (ac' := nI 0) (bu' := nI 0) (sl' := nI 0) hm4 hr4 hn3 gM_a gM_1 gM_2
  have c7 : cO (am_pt w4 w3.2.1 (.inr (10, oK (4 * c + f) c h (w3.2.1 + 1) (w3.2.1 + 2) (nI 0) (nI 0) (nI 0) (nI 0)))) w3.2.1 10 (oK (4 * c + f) c h (w3.2.1 + 1) (w3.2.1 + 2) (nI 0) (nI 0) (nI 0) (nI 0)) := pt_s
  have m7 : (am_pt w4 w3.2.1 (.inr (10, oK (4 * c + f) c h (w3.2.1 + 1) (w3.2.1 + 2) (nI 0) (nI 0) (nI 0) (nI 0)))).2 = w4.2 := rfl
  have r7 : cI (am_pt w4 w3.2.1 (.inr (10, oK (4 * c + f) c h (w3.2.1 + 1) (w3.2.1 + 2) (nI 0) (nI 0) (nI 0) (nI 0)))) (w3.2.1 + 1) 2 144 (fun _ => 0) := cI_of r4 (pt_n (by omega))
  have q7 : Rws (am_pt w4 w3.2.1 (.inr (10, oK (4 * c + f) c h (w3.2.1 + 1) (w3.2.1 + 2) (nI 0) (nI 0) (nI 0) (nI 0)))) (gM g w3.2.1 n) (w3.2.1 + 2) (400 + 100 * n) (fun _ => 0) := hr4.of (pt_n (by omega)) (fun b z1 z2 => pt_n (fun e => by rw [e, gM_a] at z1; omega))
  generalize am_pt w4 w3.2.1 (.inr (10, oK (4 * c + f) c h (w3.2.1 + 1) (w3.2.1 + 2) (nI 0) (nI 0) (nI 0) (nI 0))) = w5 at p7 k5 f5 c7 m7 r7 q7
  -- what may be
  have mk : ∃ w6, am_run 207 100 [some (.ref m), none, none, none, some (.int (b2i b)), some (.ref w3.2.1)] [] w5 = am_run 207 125 [some (.ref m), none, none, none, none, some (.ref w3.2.1)] [] w6 ∧ Mkv w6 (gM g w3.2.1 n) n w3.2.1 (c, 4 * c + f, h, nI 0, nI 0, nI 0, nI 0, may0 (c * 4 + f) b, fun _ => 0) ∧ frm (gM g w3.2.1 n) (111 + 10 * n) (112 + 10 * n) w5 w6 := by
    cases b with
    | true =>
      have hF : mR2 (upd (fun _ => 0) (4 * c + f) (b2i true)) (may0 (c * 4 + f) true) := fun q hq => by
        show upd (fun _ => 0) (4 * c + f) (b2i true) q = b2i (decide (q = c * 4 + f))
        by_cases e : q = 4 * c + f
        · rw [e, pk_us, decide_eq_true (show 4 * c + f = c * 4 + f by omega)]
        · rw [pk_un e, decide_eq_false (by omega)]; rfl
      have pw : am_wi 2 w5 (w3.2.1 + 1) (nI (4 * c + f)) (b2i true) = some (mrw w5 (w3.2.1 + 1) (upd (fun _ => 0) (4 * c + f) (b2i true))) := wic r7 (by omega) (by decide)
      obtain ⟨y1, y2⟩ := Mkv_may (g := gM g w3.2.1 n) c7 hF q7 hn3 gM_a gM_1 gM_2
      refine ⟨_, ?_, y1, y2⟩
      simp only [bk207_100, b2i_0, reduceCtorEq, bk207_105, gfc c7, oK_0, oK_1, oK_2, oK_3, oK_4, oK_5, oK_6, oK_7, oK_8, bk207_110, bk207_115, nar_1, pw, bk207_117, Option.bind_some, bct_v, bct_t, otl_s, otl_n, List.cons_append, List.nil_append, List.getElem?_cons_zero, List.getElem?_cons_succ, ↓reduceIte]
    | false =>
      obtain ⟨w6, y1, y2, y3⟩ := x45 k5
      refine ⟨w6, ?_, y2, y3⟩
      simp only [bk207_100, b2i_0, bk207_120, y1, Option.bind_some, bct_v, bct_t, otl_s, otl_n, List.cons_append, List.nil_append, List.getElem?_cons_zero, List.getElem?_cons_succ, ↓reduceIte]
  obtain ⟨w6, a6, k6, f6⟩ := mk
  have f56 := frm_tr (frm_wk f5 (show 110 + 10 * n ≤ 110 + 10 * n by omega) (show 111 + 10 * n ≤ 112 + 10 * n by omega)) (frm_wk f6 (by omega) (by omega))
  have R6 := rm_new R4 hn (frm_wk f56 (Nat.le_refl _) (show 112 + 10 * n ≤ 113 + 10 * n by omega))
  have m6 : w6.2 = w4.2 := (f6.2.trans m7)
  have m6' : w6.2.1 = w3.2.1 + 39 := by rw [m6]; exact l4
  have J6 : gJ w6 (gM g w3.2.1 n) := fun b hb => gJ4 b (by rw [← m6]; exact hb)
  have S6 : stp 100 800 g (gM g w3.2.1 n) 39 261 w3 w6 := stp_new2 e4 g0 g1 gJ4 f56 (by omega) (by omega)
  have k6' := k6
  obtain ⟨ma6, mq6, c6', -⟩ := k6'
  have ga : gM g w3.2.1 n w3.2.1 = 110 + 10 * n := gM_a
  have nl : w3.2.1 ≠ wl := fun e => by have := R6.2.2.2.2.2.2.2.2.2.2.2.2; rw [← e, ga] at this; omega
  have ne : w3.2.1 ≠ ed := fun e => by
    rcases (rm_L R6).2 with ⟨-, -, -, z⟩ | ⟨-, z⟩ <;> rw [← e, ga] at z <;> omega
  obtain ⟨w7, ed7, g7, a7, L7, S7⟩ := x195 (rm_L R6) hn3 J6 R6.2.2.2.2.2.2.2.2.2.2.2.2 c6' nl ne (by omega)
  have R7 := rm_add R6 hn3 J6 k6 S7 L7
  have e47 : 4 * c + f = c * 4 + f := by omega
  rw [e47] at R7
  have S7' : stp 100 800 (gM g w3.2.1 n) g7 1 10 w6 w7 := by
    obtain ⟨x1, x2, x3, x4, x5⟩ := S7
    exact ⟨fun b hb hg => x1 b hb (by omega), x2, fun b hb => by rcases x3 b hb with q | q <;> omega, x4, x5⟩
  refine ⟨w7, g7, ?_, ⟨_, _, _, _, _, _, _, R7⟩, stp_wk (stp_tr s3 (stp_tr S6 S7')) (by omega) (by omega)⟩
  have n3 : ¬ nI n = nI 3 := by rw [nI_eqS (by omega) (by decide)]; omega
  have st : am_x 207 [.ref m, .int (nI c), .int (nI f), .int (nI h), .int (b2i b)] w = am_run 207 100 [some (.ref m), none, none, none, some (.int (b2i b)), some (.ref w3.2.1)] [] w5 := by
    simp only [bx207, bk207_0, z1, bk207_5, rm_kf R, a1', bk207_9, nI_eqS (show 0 < 2147483648 by decide) (show 0 < 2147483648 by decide), not_true_eq_false, bk207_12, z2, bk207_17, bk207_20, z3, bk207_28, nI_eqS (show 1 < 2147483648 by decide) (show 0 < 2147483648 by decide), show ¬ 1 = 0 from by decide, not_false_eq_true, bk207_35, bk207_36, rm_kf R1, a2', b2i_0, bk207_40, bk207_43, gfc R2.1, oM_0, oM_1, oM_2, oM_3, oM_4, oM_5, oM_6, oM_7, oM_8, oM_9, oM_10, oM_11, bk207_48, rm_lk R2, x56 (rm_L R2), bk207_51, n3, bk207_59, bk207_60, rm_kf R2, a3', bk207_64, bk207_69, bk207_72, a4, bk207_76, nI_mulS, nI_add, p5, bk207_88, p6, bk207_94, p7, Option.bind_some, bct_v, bct_t, otl_s, otl_n, List.cons_append, List.nil_append, List.getElem?_cons_zero, List.getElem?_cons_succ, ↓reduceIte]
  rw [st, a6]
  have sub : nI (n + 1) - nI 1 = nI n := by rw [nI_subS (by omega), Nat.add_sub_cancel]
  simp only [bk207_125, gfc R6.1, oM_0, oM_1, oM_2, oM_3, oM_4, oM_5, oM_6, oM_7, oM_8, oM_9, oM_10, oM_11, bk207_129, rm_lk R6, a7, bk207_134, gfc R7.1, bk207_139, rm_lk R7, x56 (rm_L R7), bk207_142, sub, Option.bind_some, bct_v, bct_t, otl_s, otl_n, List.cons_append, List.nil_append, List.getElem?_cons_zero, List.getElem?_cons_succ, ↓reduceIte]
theorem y207c (R : RMx w g m kq hq ca ba wl ed wad kd hr cp br n ws th mi nd dr me di re) (hn : n ≤ 3) (hJ : gJ w g) {z z2 z3 z4 : Int32} (hz : z < nI 0 ∨ nI 35 < z) : ∃ w', am_x 207 [.ref m, .int z, .int z2, .int z3, .int z4] w = some (.inl (some (.int (nI 0))), w') ∧ RM w' g m kd hr cp br n ws 1 mi nd dr me di re ∧ stp 100 800 g g 0 0 w w' := by
  have z1 := x97n (w := w) hz
  obtain ⟨w1, a1, R1, f1⟩ := x96 R hn true (c := 1) (by decide)
  have a1' : am_x 96 [.ref m, .int (nI 1), .int (nI 1)] w = _ := a1
  refine ⟨w1, ?_, ⟨_, _, _, _, _, _, _, R1⟩, stp_frm hJ f1 (by decide) (by decide)⟩
  simp only [bx207, bk207_0, z1, bk207_5, rm_kf R, a1', bk207_9, b2i_0, reduceCtorEq, not_false_eq_true, bk207_67, Option.bind_some, bct_v, bct_t, otl_s, otl_n, List.cons_append, List.nil_append, List.getElem?_cons_zero, List.getElem?_cons_succ, ↓reduceIte]
theorem y207f (R : RMx w g m kq hq ca ba wl ed wad kd hr cp br n ws th mi nd dr me di re) (hn : n ≤ 3) (hJ : gJ w g) {c : Nat} (hc : c ≤ 35) {z z3 z4 : Int32} (hz : z < nI 0 ∨ nI 3 < z) : ∃ w', am_x 207 [.ref m, .int (nI c), .int z, .int z3, .int z4] w = some (.inl (some (.int (nI 0))), w') ∧ RM w' g m kd hr cp br n ws 2 mi nd dr me di re ∧ stp 100 800 g g 0 0 w w' := by
  have z1 := x97 (w := w) hc
  obtain ⟨w1, a1, R1, f1⟩ := x96 R hn false (c := 1) (by decide)
  have a1' : am_x 96 [.ref m, .int (nI 0), .int (nI 1)] w = _ := a1
  have z2 := x98n (w := w1) hz
  obtain ⟨w2, a2, R2, f2⟩ := x40 R1 hn true (c := 2) (by decide)
  have a2' : am_x 40 [.ref m, .int (nI 1), .int (nI 2)] w1 = _ := a2
  refine ⟨w2, ?_, ⟨_, _, _, _, _, _, _, R2⟩, stp_frm hJ (frm_tr f1 f2) (by decide) (by decide)⟩
  simp only [bx207, bk207_0, z1, bk207_5, rm_kf R, a1', bk207_9, b2i_0, not_true_eq_false, bk207_12, z2, bk207_17, nI_eqS (show 1 < 2147483648 by decide) (show 0 < 2147483648 by decide), show ¬ 1 = 0 from by decide, not_false_eq_true, bk207_31, bk207_36, rm_kf R1, a2', bk207_40, reduceCtorEq, bk207_67, Option.bind_some, bct_v, bct_t, otl_s, otl_n, List.cons_append, List.nil_append, List.getElem?_cons_zero, List.getElem?_cons_succ, ↓reduceIte]
theorem y207h (R : RMx w g m kq hq ca ba wl ed wad kd hr cp br n ws th mi nd dr me di re) (hn : n ≤ 3) (hJ : gJ w g) {c f : Nat} (hc : c ≤ 35) (hf : f ≤ 3) {z z4 : Int32} (hz : z < nI 1 ∨ nI 500 < z) : ∃ w', am_x 207 [.ref m, .int (nI c), .int (nI f), .int z, .int z4] w = some (.inl (some (.int (nI 0))), w') ∧ RM w' g m kd hr cp br n ws 2 mi nd dr me di re ∧ stp 100 800 g g 0 0 w w' := by
  have z1 := x97 (w := w) hc
  obtain ⟨w1, a1, R1, f1⟩ := x96 R hn false (c := 1) (by decide)
  have a1' : am_x 96 [.ref m, .int (nI 0), .int (nI 1)] w = _ := a1
  have z2 := x98 (w := w1) hf
  have z3 := x39n (w := w1) hz
  obtain ⟨w2, a2, R2, f2⟩ := x40 R1 hn true (c := 2) (by decide)
  have a2' : am_x 40 [.ref m, .int (nI 1), .int (nI 2)] w1 = _ := a2
  refine ⟨w2, ?_, ⟨_, _, _, _, _, _, _, R2⟩, stp_frm hJ (frm_tr f1 f2) (by decide) (by decide)⟩
  simp only [bx207, bk207_0, z1, bk207_5, rm_kf R, a1', bk207_9, b2i_0, not_true_eq_false, bk207_12, z2, bk207_17, nI_eqS (show 0 < 2147483648 by decide) (show 0 < 2147483648 by decide), bk207_20, z3, bk207_28, bk207_31, bk207_36, rm_kf R1, a2', bk207_40, reduceCtorEq, not_false_eq_true, bk207_67, Option.bind_some, bct_v, bct_t, otl_s, otl_n, List.cons_append, List.nil_append, List.getElem?_cons_zero, List.getElem?_cons_succ, ↓reduceIte]
theorem y207n (R : RMx w g m kq hq ca ba wl ed wad kd hr cp br n ws th mi nd dr me di re) (hn : n ≤ 3) (hJ : gJ w g) (h3 : n = 3) {c f h : Nat} (hc : c ≤ 35) (hf : f ≤ 3) (h1c : 1 ≤ h) (h5 : h ≤ 500) {z : Int32} : ∃ w', am_x 207 [.ref m, .int (nI c), .int (nI f), .int (nI h), .int z] w = some (.inl (some (.int (nI 0))), w') ∧ RM w' g m kd hr cp br n ws 3 mi nd dr me di re ∧ stp 100 800 g g 0 0 w w' := by
  have z1 := x97 (w := w) hc
  obtain ⟨w1, a1, R1, f1⟩ := x96 R hn false (c := 1) (by decide)
  have a1' : am_x 96 [.ref m, .int (nI 0), .int (nI 1)] w = _ := a1
  have z2 := x98 (w := w1) hf
  have z3 := x39 (w := w1) (a := 1) (b := 500) (j := h) (by decide) h1c h5
  obtain ⟨w2, a2, R2, f2⟩ := x40 R1 hn false (c := 2) (by decide)
  have a2' : am_x 40 [.ref m, .int (nI 0), .int (nI 2)] w1 = _ := a2
  obtain ⟨w3, a3, R3, f3⟩ := x40 R2 hn true (c := 3) (by decide)
  have a3' : am_x 40 [.ref m, .int (nI 1), .int (nI 3)] w2 = _ := a3
  refine ⟨w3, ?_, ⟨_, _, _, _, _, _, _, R3⟩, stp_frm hJ (frm_tr f1 (frm_tr f2 f3)) (by decide) (by decide)⟩
  have n3 : (nI n = nI 3) = True := eq_true (by rw [h3])
  simp only [bx207, bk207_0, z1, bk207_5, rm_kf R, a1', bk207_9, nI_eqS (show 0 < 2147483648 by decide) (show 0 < 2147483648 by decide), not_true_eq_false, bk207_12, z2, bk207_17, bk207_20, z3, bk207_28, nI_eqS (show 1 < 2147483648 by decide) (show 0 < 2147483648 by decide), show ¬ 1 = 0 from by decide, not_false_eq_true, bk207_35, bk207_36, rm_kf R1, a2', b2i_0, bk207_40, bk207_43, gfc R2.1, oM_0, oM_1, oM_2, oM_3, oM_4, oM_5, oM_6, oM_7, oM_8, oM_9, oM_10, oM_11, bk207_48, rm_lk R2, x56 (rm_L R2), bk207_51, n3, bk207_55, bk207_60, rm_kf R2, a3', bk207_64, reduceCtorEq, bk207_67, Option.bind_some, bct_v, bct_t, otl_s, otl_n, List.cons_append, List.nil_append, List.getElem?_cons_zero, List.getElem?_cons_succ, ↓reduceIte]
end CN
