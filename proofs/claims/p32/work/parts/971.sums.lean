/-! WHAT IS ASKED of such a walker. Mine. -/
def knn (mp : Nat → Nat) : Nat := cnt 72 (fun k => !(mp k == 0))
theorem knn_eq {mp : Nat → Nat} (h : mpo mp) : cnt 72 (fun k => mp k == 1) + cnt 72 (fun k => mp k == 2) = knn mp := by
  have := cnt_ad (p := fun k => mp k == 1) (q := fun k => mp k == 2) (r := fun k => !(mp k == 0)) (t := fun _ => false) 72 (fun k _ => by
    have := h k
    rcases (show mp k = 0 ∨ mp k = 1 ∨ mp k = 2 by omega) with e | e | e <;> simp [e])
  rw [cnt_ff] at this
  unfold knn
  omega
theorem knn_le (mp : Nat → Nat) : knn mp ≤ 72 := cnt_le _ 72
theorem knn_mono {mp mq : Nat → Nat} (h : ∀ k, mp k ≠ 0 → mq k ≠ 0) : knn mp ≤ knn mq := (cnt_le2 72 fun k _ e => by
  have : mp k ≠ 0 := by simpa using e
  simpa using h k this).1
theorem putM_nz {mp : Nat → Nat} {c s : Nat} {b : Bool} : ∀ k, mp k ≠ 0 → putM mp c s b k ≠ 0 := by
  intro k hk
  unfold putM
  split
  · exact hk
  · unfold up
    split
    · split <;> decide
    · exact hk
theorem putF_nz {may : Nat → Bool} {mp : Nat → Nat} {b : Bool} : ∀ k, mp k ≠ 0 → putF may mp b k ≠ 0 := by
  intro k hk
  unfold putF
  cases sureP may with
  | none => exact hk
  | some p => exact putM_nz k hk
theorem putL_nz {may : Nat → Bool} {mp : Nat → Nat} {t : Nat} : ∀ k, mp k ≠ 0 → putL may mp t k ≠ 0 := by
  intro k hk
  unfold putL
  cases sureP may with
  | none => exact hk
  | some p => exact putM_nz k (putM_nz k (putM_nz k hk))
theorem fig56 {y : sW} (h : okW y) : figS y 5 + figS y 6 = nI (knn y.2.2.2.2.2.2.2.2) := by
  obtain ⟨ho, po, ch, lo, ac, bu, sl, may, mp⟩ := y
  obtain ⟨⟨o1, o2, o3, o4, o5⟩, o6⟩ := h
  have e1 := fr_eq (mp := mp) o6
  have e2 := wl_eq (mp := mp) o6
  have e3 := knn_eq (mp := mp) o4
  show nI (cnt 36 (fun c => kno mp c 1 == 1) + cnt 36 (fun c => kno mp c 2 == 1)) + (nI (cnt 36 (fun c => kno mp c 1 == 2) + cnt 36 (fun c => kno mp c 2 == 2)) - nI 12) = nI (knn mp)
  rw [← e1, ← e2, nI_subS (by omega), nI_add, ← e3]
  congr 1
theorem knw_0 {kd hr mp : Nat → Nat} {h : Nat} (hk : ndk kd) (hr' : rgk kd mp) : knwS kd hr mp h false = 0 := by
  rw [knw_c]
  refine Eq.trans (cnt_cg 72 (q := fun _ => false) fun k hk2 => ?_) (cnt_ff 72)
  unfold pF
  cases q : wiP k with
  | false => rfl
  | true =>
    by_cases e : mp k = 0
    · rw [e]; rfl
    · have z := hr' k q e
      rw [clE_nd (hk k), z]
      cases kd k == 1 <;> simp
theorem knw_1' {kd hr mp : Nat → Nat} {h : Nat} (hk : ndk kd) (hr' : rgk kd mp) (hz : mpz mp) (ho : mpo mp) : knwS kd hr mp h true = knn mp := by
  have a := all_eq (kd := kd) (hr := hr) (h := h) hz ho
  rw [knw_0 hk hr'] at a
  rw [← knn_eq ho]
  omega
theorem snd_ok {kd hr : Nat → Nat} {mi k : Nat} {y : sW} (hk : ndk kd) (h : gdW kd k y) (hk2 : k ≤ 1000) : sndW kd hr mi y = true := by
  have f := fig56 h.1
  obtain ⟨⟨⟨o1, o2, o3, o4, o5⟩, o6⟩, h2, h3, h4, a, b, c, e1, e2, e3, e4, e5⟩ := h
  unfold sndW
  rw [f, knw_0 hk h2, knw_1' hk h2 o6 o4, e1, e2, e3, nI_add, nI_add, Nat.add_zero, decide_eq_true rfl, Bool.and_true]
  refine decide_eq_true ?_
  rw [nI_ltS (by omega) (by omega)]
  omega
theorem snds_ok {kd hr : Nat → Nat} {mi n k : Nat} {ws : Nat → sW} (hk : ndk kd) (h : ∀ i, i < n → gdW kd k (ws i)) (hk2 : k ≤ 1000) : sndS kd hr mi n ws = true := by
  unfold sndS
  rw [fst1_no]
  · rfl
  · intro j hj
    by_cases q : j < n
    · rw [decide_eq_true q, snd_ok hk (h j q) hk2]
      rfl
    · rw [decide_eq_false q]
      rfl
/-- one of eight answers fits -/
theorem wrs_1 {may : Nat → Bool} {mp : Nat → Nat} {t : Nat} (ht : t < 8) (h : 1 ≤ cnt 144 (mayL may mp t)) : ∀ n, t < n → 1 ≤ wrsL may mp n
  | 0, q => by omega
  | n + 1, q => by
    show 1 ≤ max (wrsL may mp n) (cnt 144 (mayL may mp n))
    by_cases e : t = n
    · subst e
      exact Nat.le_trans h (Nat.le_max_right _ _)
    · exact Nat.le_trans (wrs_1 ht h n (by omega)) (Nat.le_max_left _ _)
theorem wrs3_1 {kd : Nat → Nat} {k : Nat} {y : sW} (h : gdW kd k y) : 1 ≤ wrsW y.2.2.2.2.2.2.2.1 y.2.2.2.2.2.2.2.2 3 := by
  obtain ⟨ho, po, ch, lo, ac, bu, sl, may, mp⟩ := y
  obtain ⟨⟨⟨o1, o2, o3, o4, o5⟩, o6⟩, h2, h3, -⟩ := h
  have o2 : po < 144 := o2
  have h3 : may po = true := h3
  have h2 : rgk kd mp := h2
  have t0 := flt3_0 (clK kd (po / 4) ((po % 4 + 3 + 0) % 4)) (clK kd (po / 4) ((po % 4 + 3 + 1) % 4)) (clK kd (po / 4) ((po % 4 + 3 + 2) % 4))
  have t1 := flt3_1 (clK kd (po / 4) ((po % 4 + 3 + 0) % 4)) (clK kd (po / 4) ((po % 4 + 3 + 1) % 4)) (clK kd (po / 4) ((po % 4 + 3 + 2) % 4))
  have t2 := flt3_2 (clK kd (po / 4) ((po % 4 + 3 + 0) % 4)) (clK kd (po / 4) ((po % 4 + 3 + 1) % 4)) (clK kd (po / 4) ((po % 4 + 3 + 2) % 4))
  have lt := flt3_lt (clK kd (po / 4) ((po % 4 + 3 + 0) % 4)) (clK kd (po / 4) ((po % 4 + 3 + 1) % 4)) (clK kd (po / 4) ((po % 4 + 3 + 2) % 4))
  generalize flt3 (clK kd (po / 4) ((po % 4 + 3 + 0) % 4)) (clK kd (po / 4) ((po % 4 + 3 + 1) % 4)) (clK kd (po / 4) ((po % 4 + 3 + 2) % 4)) = t at t0 t1 t2 lt
  have hpo : mayL may mp t po = true := by
    unfold mayL feltP
    rw [po_eq, h3, t0, t1, t2, fit_r h2 (by omega) (by omega), fit_r h2 (by omega) (by omega), fit_r h2 (by omega) (by omega)]
    rfl
  have e : wrsW may mp 3 = wrsL may mp 8 := by
    unfold wrsW
    rw [if_neg (by decide), if_pos rfl]
  show 1 ≤ wrsW may mp 3
  rw [e]
  exact wrs_1 lt (cnt_pos o2 hpo) 8 lt
