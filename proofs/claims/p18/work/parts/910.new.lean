/-! THE REFERENCE: a new object. Mine. -/
def gN (g : Nat → Nat) (a : Nat) : Nat → Nat := fun b => if b < a then g b else if b = a then 100 else if b = a + 1 then 101 else if b < a + 38 then 200 + (b - (a + 2)) else if b = a + 38 then 102 else if b < a + 75 then 300 + (b - (a + 39)) else if b = a + 75 then 103 else if b = a + 76 then 104 else if b = a + 77 then 105 else g b
theorem gN_lt {g : Nat → Nat} {a b : Nat} (h : b < a) : gN g a b = g b := if_pos h
theorem gN_ge {g : Nat → Nat} {a b : Nat} (h : a + 78 ≤ b) : gN g a b = g b := by
  unfold gN
  rw [if_neg (by omega), if_neg (by omega), if_neg (by omega), if_neg (by omega), if_neg (by omega), if_neg (by omega), if_neg (by omega), if_neg (by omega), if_neg (by omega)]
theorem gN_at (g : Nat → Nat) (a : Nat) : gN g a a = 100 ∧ gN g a (a + 1) = 101 ∧ (∀ c, c < 36 → gN g a (a + 1 + 1 + c) = 200 + c) ∧ gN g a (a + 38) = 102 ∧ (∀ c, c < 36 → gN g a (a + 38 + 1 + c) = 300 + c) ∧ gN g a (a + 75) = 103 ∧ gN g a (a + 76) = 104 ∧ gN g a (a + 77) = 105 := by
  unfold gN
  refine ⟨?_, ?_, fun c hc => ?_, ?_, fun c hc => ?_, ?_, ?_, ?_⟩
  · rw [if_neg (by omega), if_pos rfl]
  · rw [if_neg (by omega), if_neg (by omega), if_pos rfl]
  · rw [if_neg (by omega), if_neg (by omega), if_neg (by omega), if_pos (by omega)]; omega
  · rw [if_neg (by omega), if_neg (by omega), if_neg (by omega), if_neg (by omega), if_pos rfl]
  · rw [if_neg (by omega), if_neg (by omega), if_neg (by omega), if_neg (by omega), if_neg (by omega), if_pos (by omega)]; omega
  · rw [if_neg (by omega), if_neg (by omega), if_neg (by omega), if_neg (by omega), if_neg (by omega), if_neg (by omega), if_pos rfl]
  · rw [if_neg (by omega), if_neg (by omega), if_neg (by omega), if_neg (by omega), if_neg (by omega), if_neg (by omega), if_neg (by omega), if_pos rfl]
  · rw [if_neg (by omega), if_neg (by omega), if_neg (by omega), if_neg (by omega), if_neg (by omega), if_neg (by omega), if_neg (by omega), if_neg (by omega), if_pos rfl]
theorem gN_in {g : Nat → Nat} {a b : Nat} (h : a ≤ b) (h2 : b < a + 78) : 100 ≤ gN g a b ∧ gN g a b < 800 := by
  unfold gN
  rw [if_neg (by omega)]
  repeat' split
  all_goals omega
/-- of one cell: what stands there now -/
def oN (dr7 : Int32) (v7 v8 v9 v10 v11 : Value) : List Value := [.int (nI 0), .int (nI 0), .int dr7, .int (nI 0), .int (nI 0), .int (nI 0), .int (nI 0), v7, v8, v9, v10, v11]
theorem x172 (w : am_Wd) {g : Nat → Nat} (hJ : gJ w g) {ed : Nat} (hs : w.2.2.2 1 = some ed) (he : cQ w ed 13 0 (fun _ => none)) (ge : g ed = 721) (wad : Nat → Nat) (ws : Nat → sW) : ∃ w', am_x 172 [.ref w.2.1] (am_nw w (.inr (11, am_df 11 12)) 12) = some (.inl none, w') ∧ RMx w' (gN g w.2.1) w.2.1 (w.2.1 + 1) (w.2.1 + 38) (w.2.1 + 75) (w.2.1 + 76) (w.2.1 + 77) ed wad (fun _ => 0) (fun _ => 0) (fun _ => false) (fun _ => false) 0 ws 0 0 7 (nI 0) (nI 0) (nI 0) (nI 0) ∧ stp 100 800 g (gN g w.2.1) 78 303 w w' := by
  have le : ed < w.2.1 := lt_J hJ ge (by decide)
  have c0 : cO (am_nw w (.inr (11, am_df 11 12)) 12) w.2.1 11 (oN (nI 0) .null .null .null .null .null) := nw_s
  have e0 : ext w (am_nw w (.inr (11, am_df 11 12)) 12) 1 12 := ext_nw
  have l0 : (am_nw w (.inr (11, am_df 11 12)) 12).2.1 = w.2.1 + 1 := rfl
  generalize am_nw w (.inr (11, am_df 11 12)) 12 = w0 at c0 e0 l0
  -- the seed
  have p1 : am_pf w0 w.2.1 11 2 (.int (nI 7)) = some (am_pt w0 w.2.1 (.inr (11, oN (nI 7) .null .null .null .null .null))) := pfc c0 (by show 2 < 12; decide) (by decide)
  have c1 : cO (am_pt w0 w.2.1 (.inr (11, oN (nI 7) .null .null .null .null .null))) w.2.1 11 (oN (nI 7) .null .null .null .null .null) := pt_s
  have e1 : ext w (am_pt w0 w.2.1 (.inr (11, oN (nI 7) .null .null .null .null .null))) 1 12 := ext_pt e0 (Nat.le_refl _)
  have l1 : (am_pt w0 w.2.1 (.inr (11, oN (nI 7) .null .null .null .null .null))).2.1 = w.2.1 + 1 := l0
  generalize am_pt w0 w.2.1 (.inr (11, oN (nI 7) .null .null .null .null .null)) = w1 at p1 c1 e1 l1
  -- kinds
  obtain ⟨m2, q2, i2, o2, t2⟩ := mn_ok w1
  have c2 : cO (mnw w1) w.2.1 11 _ := cO_of c1 (o2 _ (by omega))
  have e2 : ext w (mnw w1) 38 120 := ext_tr e1 mn_ext
  have l2 : (mnw w1).2.1 = w.2.1 + 38 := by rw [t2]; show w1.2.1 + 37 = _; omega
  rw [l1] at q2 i2
  generalize mnw w1 = w2 at m2 q2 i2 c2 e2 l2
  have p3 : am_pf w2 w.2.1 11 7 (.ref w1.2.1) = some (am_pt w2 w.2.1 (.inr (11, oN (nI 7) (.ref (w.2.1 + 1)) .null .null .null .null))) := by rw [pfc c2 (by show 7 < 12; decide) (by decide), l1]; rfl
  have c3 : cO (am_pt w2 w.2.1 (.inr (11, oN (nI 7) (.ref (w.2.1 + 1)) .null .null .null .null))) w.2.1 11 (oN (nI 7) (.ref (w.2.1 + 1)) .null .null .null .null) := pt_s
  have o3 : ∀ b, b ≠ w.2.1 → (am_pt w2 w.2.1 (.inr (11, oN (nI 7) (.ref (w.2.1 + 1)) .null .null .null .null))).1 b = w2.1 b := fun b hb => pt_n hb
  have e3 : ext w (am_pt w2 w.2.1 (.inr (11, oN (nI 7) (.ref (w.2.1 + 1)) .null .null .null .null))) 38 120 := ext_pt e2 (Nat.le_refl _)
  have l3 : (am_pt w2 w.2.1 (.inr (11, oN (nI 7) (.ref (w.2.1 + 1)) .null .null .null .null))).2.1 = w.2.1 + 38 := l2
  generalize am_pt w2 w.2.1 (.inr (11, oN (nI 7) (.ref (w.2.1 + 1)) .null .null .null .null)) = w3 at p3 c3 o3 e3 l3
  have q3 := cQ_of q2 (o3 _ (by omega))
  have i3 := fun c (hc : c < 36) => cI_of (i2 c hc) (o3 _ (by omega))
  -- hours
  obtain ⟨m4, Q4, I4, o4, t4⟩ := mn_ok w3
  have c4 : cO (mnw w3) w.2.1 11 _ := cO_of c3 (o4 _ (by omega))
  have q4 := cQ_of q3 (o4 _ (by omega))
  have i4 := fun c (hc : c < 36) => cI_of (i3 c hc) (o4 _ (by omega))
  have e4 : ext w (mnw w3) 75 228 := ext_tr e3 mn_ext
  have l4 : (mnw w3).2.1 = w.2.1 + 75 := by rw [t4]; show w3.2.1 + 37 = _; omega
  rw [l3] at Q4 I4
  generalize mnw w3 = w4 at m4 Q4 I4 c4 q4 i4 e4 l4
  have p5 : am_pf w4 w.2.1 11 8 (.ref w3.2.1) = some (am_pt w4 w.2.1 (.inr (11, oN (nI 7) (.ref (w.2.1 + 1)) (.ref (w.2.1 + 38)) .null .null .null))) := by rw [pfc c4 (by show 8 < 12; decide) (by decide), l3]; rfl
  have c5 : cO (am_pt w4 w.2.1 (.inr (11, oN (nI 7) (.ref (w.2.1 + 1)) (.ref (w.2.1 + 38)) .null .null .null))) w.2.1 11 (oN (nI 7) (.ref (w.2.1 + 1)) (.ref (w.2.1 + 38)) .null .null .null) := pt_s
  have o5 : ∀ b, b ≠ w.2.1 → (am_pt w4 w.2.1 (.inr (11, oN (nI 7) (.ref (w.2.1 + 1)) (.ref (w.2.1 + 38)) .null .null .null))).1 b = w4.1 b := fun b hb => pt_n hb
  have e5 : ext w (am_pt w4 w.2.1 (.inr (11, oN (nI 7) (.ref (w.2.1 + 1)) (.ref (w.2.1 + 38)) .null .null .null))) 75 228 := ext_pt e4 (Nat.le_refl _)
  have l5 : (am_pt w4 w.2.1 (.inr (11, oN (nI 7) (.ref (w.2.1 + 1)) (.ref (w.2.1 + 38)) .null .null .null))).2.1 = w.2.1 + 75 := l4
  generalize am_pt w4 w.2.1 (.inr (11, oN (nI 7) (.ref (w.2.1 + 1)) (.ref (w.2.1 + 38)) .null .null .null)) = w5 at p5 c5 o5 e5 l5
  have q5 := cQ_of q4 (o5 _ (by omega))
  have i5 := fun c (hc : c < 36) => cI_of (i4 c hc) (o5 _ (by omega))
  have Q5 := cQ_of Q4 (o5 _ (by omega))
  have I5 := fun c (hc : c < 36) => cI_of (I4 c hc) (o5 _ (by omega))
  -- carpets
  have n6 : am_na w5 2 (nI 36) = some (nwr w5 2 36 (fun _ => 0)) := na_nwr (by decide) rfl
  have o6 : ∀ b, b < w5.2.1 → (nwr w5 2 36 (fun _ => 0)).1 b = w5.1 b := fun b hb => nwr_ext.1 b hb
  have C6 : cI (nwr w5 2 36 (fun _ => 0)) w5.2.1 2 36 (fun _ => 0) := nwr_at
  have e6 : ext w (nwr w5 2 36 (fun _ => 0)) 76 264 := ext_tr e5 nwr_ext
  have l6 : (nwr w5 2 36 (fun _ => 0)).2.1 = w.2.1 + 76 := by show w5.2.1 + 1 = _; omega
  rw [l5] at C6
  generalize nwr w5 2 36 (fun _ => 0) = w6 at n6 o6 C6 e6 l6
  have c6 := cO_of c5 (o6 _ (by omega))
  have q6 := cQ_of q5 (o6 _ (by omega))
  have i6 := fun c (hc : c < 36) => cI_of (i5 c hc) (o6 _ (by omega))
  have Q6 := cQ_of Q5 (o6 _ (by omega))
  have I6 := fun c (hc : c < 36) => cI_of (I5 c hc) (o6 _ (by omega))
  have p7 : am_pf w6 w.2.1 11 9 (.ref w5.2.1) = some (am_pt w6 w.2.1 (.inr (11, oN (nI 7) (.ref (w.2.1 + 1)) (.ref (w.2.1 + 38)) (.ref (w.2.1 + 75)) .null .null))) := by rw [pfc c6 (by show 9 < 12; decide) (by decide), l5]; rfl
  have c7 : cO (am_pt w6 w.2.1 (.inr (11, oN (nI 7) (.ref (w.2.1 + 1)) (.ref (w.2.1 + 38)) (.ref (w.2.1 + 75)) .null .null))) w.2.1 11 (oN (nI 7) (.ref (w.2.1 + 1)) (.ref (w.2.1 + 38)) (.ref (w.2.1 + 75)) .null .null) := pt_s
  have o7 : ∀ b, b ≠ w.2.1 → (am_pt w6 w.2.1 (.inr (11, oN (nI 7) (.ref (w.2.1 + 1)) (.ref (w.2.1 + 38)) (.ref (w.2.1 + 75)) .null .null))).1 b = w6.1 b := fun b hb => pt_n hb
  have e7 : ext w (am_pt w6 w.2.1 (.inr (11, oN (nI 7) (.ref (w.2.1 + 1)) (.ref (w.2.1 + 38)) (.ref (w.2.1 + 75)) .null .null))) 76 264 := ext_pt e6 (Nat.le_refl _)
  have l7 : (am_pt w6 w.2.1 (.inr (11, oN (nI 7) (.ref (w.2.1 + 1)) (.ref (w.2.1 + 38)) (.ref (w.2.1 + 75)) .null .null))).2.1 = w.2.1 + 76 := l6
  generalize am_pt w6 w.2.1 (.inr (11, oN (nI 7) (.ref (w.2.1 + 1)) (.ref (w.2.1 + 38)) (.ref (w.2.1 + 75)) .null .null)) = w7 at p7 c7 o7 e7 l7
  have q7 := cQ_of q6 (o7 _ (by omega))
  have i7 := fun c (hc : c < 36) => cI_of (i6 c hc) (o7 _ (by omega))
  have Q7 := cQ_of Q6 (o7 _ (by omega))
  have I7 := fun c (hc : c < 36) => cI_of (I6 c hc) (o7 _ (by omega))
  have C7 := cI_of C6 (o7 _ (by omega))
  -- bars
  have n8 : am_na w7 2 (nI 36) = some (nwr w7 2 36 (fun _ => 0)) := na_nwr (by decide) rfl
  have o8 : ∀ b, b < w7.2.1 → (nwr w7 2 36 (fun _ => 0)).1 b = w7.1 b := fun b hb => nwr_ext.1 b hb
  have B8 : cI (nwr w7 2 36 (fun _ => 0)) w7.2.1 2 36 (fun _ => 0) := nwr_at
  have e8 : ext w (nwr w7 2 36 (fun _ => 0)) 77 300 := ext_tr e7 nwr_ext
  have l8 : (nwr w7 2 36 (fun _ => 0)).2.1 = w.2.1 + 77 := by show w7.2.1 + 1 = _; omega
  rw [l7] at B8
  generalize nwr w7 2 36 (fun _ => 0) = w8 at n8 o8 B8 e8 l8
  have c8 := cO_of c7 (o8 _ (by omega))
  have q8 := cQ_of q7 (o8 _ (by omega))
  have i8 := fun c (hc : c < 36) => cI_of (i7 c hc) (o8 _ (by omega))
  have Q8 := cQ_of Q7 (o8 _ (by omega))
  have I8 := fun c (hc : c < 36) => cI_of (I7 c hc) (o8 _ (by omega))
  have C8 := cI_of C7 (o8 _ (by omega))
  have p9 : am_pf w8 w.2.1 11 10 (.ref w7.2.1) = some (am_pt w8 w.2.1 (.inr (11, oN (nI 7) (.ref (w.2.1 + 1)) (.ref (w.2.1 + 38)) (.ref (w.2.1 + 75)) (.ref (w.2.1 + 76)) .null))) := by rw [pfc c8 (by show 10 < 12; decide) (by decide), l7]; rfl
  have c9 : cO (am_pt w8 w.2.1 (.inr (11, oN (nI 7) (.ref (w.2.1 + 1)) (.ref (w.2.1 + 38)) (.ref (w.2.1 + 75)) (.ref (w.2.1 + 76)) .null))) w.2.1 11 (oN (nI 7) (.ref (w.2.1 + 1)) (.ref (w.2.1 + 38)) (.ref (w.2.1 + 75)) (.ref (w.2.1 + 76)) .null) := pt_s
  have o9 : ∀ b, b ≠ w.2.1 → (am_pt w8 w.2.1 (.inr (11, oN (nI 7) (.ref (w.2.1 + 1)) (.ref (w.2.1 + 38)) (.ref (w.2.1 + 75)) (.ref (w.2.1 + 76)) .null))).1 b = w8.1 b := fun b hb => pt_n hb
  have e9 : ext w (am_pt w8 w.2.1 (.inr (11, oN (nI 7) (.ref (w.2.1 + 1)) (.ref (w.2.1 + 38)) (.ref (w.2.1 + 75)) (.ref (w.2.1 + 76)) .null))) 77 300 := ext_pt e8 (Nat.le_refl _)
  have l9 : (am_pt w8 w.2.1 (.inr (11, oN (nI 7) (.ref (w.2.1 + 1)) (.ref (w.2.1 + 38)) (.ref (w.2.1 + 75)) (.ref (w.2.1 + 76)) .null))).2.1 = w.2.1 + 77 := l8
  generalize am_pt w8 w.2.1 (.inr (11, oN (nI 7) (.ref (w.2.1 + 1)) (.ref (w.2.1 + 38)) (.ref (w.2.1 + 75)) (.ref (w.2.1 + 76)) .null)) = w9 at p9 c9 o9 e9 l9
  have q9 := cQ_of q8 (o9 _ (by omega))
  have i9 := fun c (hc : c < 36) => cI_of (i8 c hc) (o9 _ (by omega))
  have Q9 := cQ_of Q8 (o9 _ (by omega))
  have I9 := fun c (hc : c < 36) => cI_of (I8 c hc) (o9 _ (by omega))
  have C9 := cI_of C8 (o9 _ (by omega))
  have B9 := cI_of B8 (o9 _ (by omega))
  -- the list
  have L0 : cO (am_nw w9 (.inr (3, am_df 3 3)) 3) w9.2.1 3 [.int (nI 0), .null, .int (nI 0)] := nw_s
  have oa : ∀ b, b < w9.2.1 → (am_nw w9 (.inr (3, am_df 3 3)) 3).1 b = w9.1 b := fun b hb => nw_n (by omega)
  have ea : ext w (am_nw w9 (.inr (3, am_df 3 3)) 3) 78 303 := ext_tr e9 ext_nw
  have la : (am_nw w9 (.inr (3, am_df 3 3)) 3).2.1 = w.2.1 + 78 := by show w9.2.1 + 1 = _; omega
  rw [l9] at L0
  have l9' := l9
  generalize hwa : am_nw w9 (.inr (3, am_df 3 3)) 3 = wa at L0 oa ea la
  have pa : am_pf wa (w.2.1 + 77) 3 0 (.int (nI 0)) = some (am_pt wa (w.2.1 + 77) (.inr (3, [.int (nI 0), .null, .int (nI 0)]))) := pfc L0 (by show 0 < 3; decide) (by decide)
  have La : cO (am_pt wa (w.2.1 + 77) (.inr (3, [.int (nI 0), .null, .int (nI 0)]))) (w.2.1 + 77) 3 [.int (nI 0), .null, .int (nI 0)] := pt_s
  have eb : ext w (am_pt wa (w.2.1 + 77) (.inr (3, [.int (nI 0), .null, .int (nI 0)]))) 78 303 := ext_pt ea (by omega)
  have ob : ∀ b, b ≠ w.2.1 + 77 → (am_pt wa (w.2.1 + 77) (.inr (3, [.int (nI 0), .null, .int (nI 0)]))).1 b = wa.1 b := fun b hb => pt_n hb
  have sb : (am_pt wa (w.2.1 + 77) (.inr (3, [.int (nI 0), .null, .int (nI 0)]))).2.2.2 1 = some ed := by rw [eb.2.2.2.2.2]; exact hs
  have lb : (am_pt wa (w.2.1 + 77) (.inr (3, [.int (nI 0), .null, .int (nI 0)]))).2.1 = w.2.1 + 78 := la
  generalize am_pt wa (w.2.1 + 77) (.inr (3, [.int (nI 0), .null, .int (nI 0)])) = wb at pa La eb ob sb lb
  have pb : am_pf wb (w.2.1 + 77) 3 1 (.ref ed) = some (am_pt wb (w.2.1 + 77) (.inr (3, [.int (nI 0), .ref ed, .int (nI 0)]))) := pfc La (by show 1 < 3; decide) (by decide)
  have Lb : cO (am_pt wb (w.2.1 + 77) (.inr (3, [.int (nI 0), .ref ed, .int (nI 0)]))) (w.2.1 + 77) 3 [.int (nI 0), .ref ed, .int (nI 0)] := pt_s
  have ec : ext w (am_pt wb (w.2.1 + 77) (.inr (3, [.int (nI 0), .ref ed, .int (nI 0)]))) 78 303 := ext_pt eb (by omega)
  have oc : ∀ b, b ≠ w.2.1 + 77 → (am_pt wb (w.2.1 + 77) (.inr (3, [.int (nI 0), .ref ed, .int (nI 0)]))).1 b = wb.1 b := fun b hb => pt_n hb
  have lc : (am_pt wb (w.2.1 + 77) (.inr (3, [.int (nI 0), .ref ed, .int (nI 0)]))).2.1 = w.2.1 + 78 := lb
  generalize am_pt wb (w.2.1 + 77) (.inr (3, [.int (nI 0), .ref ed, .int (nI 0)])) = wc at pb Lb ec oc lc
  have od : ∀ b, b < w.2.1 + 77 → wc.1 b = w9.1 b := fun b hb => (oc b (by omega)).trans ((ob b (by omega)).trans (oa b (by omega)))
  have cc : cO wc w.2.1 11 _ := cO_of c9 (od _ (by omega))
  have pc : am_pf wc w.2.1 11 11 (.ref (w.2.1 + 77)) = some (am_pt wc w.2.1 (.inr (11, oN (nI 7) (.ref (w.2.1 + 1)) (.ref (w.2.1 + 38)) (.ref (w.2.1 + 75)) (.ref (w.2.1 + 76)) (.ref (w.2.1 + 77))))) := pfc cc (by show 11 < 12; decide) (by decide)
  have cd : cO (am_pt wc w.2.1 (.inr (11, oN (nI 7) (.ref (w.2.1 + 1)) (.ref (w.2.1 + 38)) (.ref (w.2.1 + 75)) (.ref (w.2.1 + 76)) (.ref (w.2.1 + 77))))) w.2.1 11 (oM 0 0 7 (nI 0) (nI 0) (nI 0) (nI 0) (w.2.1 + 1) (w.2.1 + 38) (w.2.1 + 75) (w.2.1 + 76) (w.2.1 + 77)) := pt_s
  have ee : ext w (am_pt wc w.2.1 (.inr (11, oN (nI 7) (.ref (w.2.1 + 1)) (.ref (w.2.1 + 38)) (.ref (w.2.1 + 75)) (.ref (w.2.1 + 76)) (.ref (w.2.1 + 77))))) 78 303 := ext_pt ec (Nat.le_refl _)
  have oe : ∀ b, b ≠ w.2.1 → (am_pt wc w.2.1 (.inr (11, oN (nI 7) (.ref (w.2.1 + 1)) (.ref (w.2.1 + 38)) (.ref (w.2.1 + 75)) (.ref (w.2.1 + 76)) (.ref (w.2.1 + 77))))).1 b = wc.1 b := fun b hb => pt_n hb
  have le' : w.2.1 + 78 ≤ (am_pt wc w.2.1 (.inr (11, oN (nI 7) (.ref (w.2.1 + 1)) (.ref (w.2.1 + 38)) (.ref (w.2.1 + 75)) (.ref (w.2.1 + 76)) (.ref (w.2.1 + 77))))).2.1 := Nat.le_of_eq lc.symm
  generalize hwd : am_pt wc w.2.1 (.inr (11, oN (nI 7) (.ref (w.2.1 + 1)) (.ref (w.2.1 + 38)) (.ref (w.2.1 + 75)) (.ref (w.2.1 + 76)) (.ref (w.2.1 + 77)))) = wd at pc cd ee oe le'
  have of : ∀ b, b < w.2.1 + 77 → b ≠ w.2.1 → wd.1 b = w9.1 b := fun b hb hb2 => (oe b hb2).trans (od b hb)
  obtain ⟨g1, g2, g3, g4, g5, g6, g7, g8⟩ := gN_at g w.2.1
  have sd : wd.2.2.2 1 = some ed := by rw [ee.2.2.2.2.2]; exact hs
  refine ⟨wd, ?_, ⟨cd, rws_0 (cQ_of q9 (of _ (by omega) (by omega))) (fun c hc => cI_of (i9 c hc) (of _ (by omega) (by omega))) g3, rws_0 (cQ_of Q9 (of _ (by omega) (by omega))) (fun c hc => cI_of (I9 c hc) (of _ (by omega) (by omega))) g5, cI_of C9 (of _ (by omega) (by omega)), cI_of B9 (of _ (by omega) (by omega)), ⟨cO_of Lb (oe _ (by omega)), Or.inl ⟨rfl, sd, cQ_of he (ee.1 _ le), (gN_lt le).trans ge⟩⟩, fun i hi => absurd hi (by omega), g1, g2, g4, g6, g7, g8⟩, stp_new2 ee (fun b hb => gN_lt hb) (fun b hb => ?_) (fun b hb => ?_) frm_rf (Nat.le_refl 100) (Nat.le_refl 800)⟩
  · simp only [bx172, bk172_0, p1, bk172_10, m2, bk172_18, p3, bk172_21, m4, bk172_29, p5, bk172_32, n6, bk172_37, p7, bk172_40, n8, bk172_45, p9, bk172_48, hwa, bk172_52, l9', bx151, bk151_0, bx106, bk106_0, bx57, bk57_0, bk106_4, pa, bk106_9, bk151_4 sb, bk151_8, pb, bk151_11, bk172_56, pc, bk172_59, Option.bind_some, bct_v, bct_t, otl_s, otl_n, List.cons_append, List.nil_append, List.getElem?_cons_zero, List.getElem?_cons_succ, ↓reduceIte]
  · rcases Nat.lt_or_ge b (w.2.1 + 78) with q | q
    · exact Or.inr (gN_in hb q)
    · rw [gN_ge q]; exact Or.inl (hJ b hb)
  · rw [gN_ge (by omega)]
    exact hJ b (by omega)
