/-! BOTH SUM ALIKE. Mine. -/
def mpz (mp : Nat → Nat) : Prop := ∀ k, k < 72 → wiP k = false → mp k = 0
theorem cnt_2 (p : Nat → Bool) : ∀ n, cnt (2 * n) p = cnt n (fun c => p (2 * c)) + cnt n (fun c => p (2 * c + 1))
  | 0 => rfl
  | n + 1 => by
    have ih := cnt_2 p n
    have e : cnt (2 * (n + 1)) p = cnt (2 * n) p + (if p (2 * n) = true then 1 else 0) + (if p (2 * n + 1) = true then 1 else 0) := rfl
    rw [e, ih]
    simp only [cnt]
    omega
theorem wi_0 {c : Nat} : wiP (2 * c) = (nb c 1).isSome := by
  unfold wiP
  rw [show 2 * c / 2 = c by omega, show 2 * c % 2 = 0 by omega]
theorem wi_1 {c : Nat} : wiP (2 * c + 1) = (nb c 2).isSome := by
  unfold wiP
  rw [show (2 * c + 1) / 2 = c by omega, show (2 * c + 1) % 2 = 1 by omega]
theorem kno_1 {mp : Nat → Nat} {c : Nat} : kno mp c 1 = if wiP (2 * c) = true then mp (2 * c) else 2 := by
  rw [wi_0]
  unfold kno plc
  cases nb c 1 with
  | none => rfl
  | some d => rfl
theorem kno_2 {mp : Nat → Nat} {c : Nat} : kno mp c 2 = if wiP (2 * c + 1) = true then mp (2 * c + 1) else 2 := by
  rw [wi_1]
  unfold kno plc
  cases nb c 2 with
  | none => rfl
  | some d => rfl
theorem cnt_ad {p q r t : Nat → Bool} : ∀ n, (∀ k, k < n → (if p k = true then 1 else 0) + (if q k = true then 1 else 0) = (if r k = true then 1 else 0) + (if t k = true then (1 : Nat) else 0)) → cnt n p + cnt n q = cnt n r + cnt n t
  | 0, _ => rfl
  | n + 1, h => by
    have ih := cnt_ad n (fun k hk => h k (by omega))
    have hn := h n (by omega)
    show cnt n p + (if p n = true then 1 else 0) + (cnt n q + (if q n = true then 1 else 0)) = cnt n r + (if r n = true then 1 else 0) + (cnt n t + (if t n = true then 1 else 0))
    omega
theorem sumN_cnt {p : Nat → Bool} {f : Nat → Nat} : ∀ n, (∀ c, c < n → f c = (if p (2 * c) = true then 1 else 0) + (if p (2 * c + 1) = true then 1 else 0)) → sumN n f = cnt (2 * n) p
  | 0, _ => rfl
  | n + 1, h => by
    have ih := sumN_cnt n (fun c hc => h c (by omega))
    show sumN n f + f n = cnt (2 * n) p + (if p (2 * n) = true then 1 else 0) + (if p (2 * n + 1) = true then 1 else 0)
    rw [ih, h n (by omega)]
    omega
section SAME
variable {kd hr mp : Nat → Nat}
theorem fr_eq (hz : mpz mp) : cnt 72 (fun k => mp k == 1) = cnt 36 (fun c => kno mp c 1 == 1) + cnt 36 (fun c => kno mp c 2 == 1) := by
  show cnt (2 * 36) (fun k => mp k == 1) = _
  rw [cnt_2]
  refine congr (congrArg HAdd.hAdd (cnt_cg 36 fun c hc => ?_)) (cnt_cg 36 fun c hc => ?_)
  · rw [kno_1]
    cases e : wiP (2 * c) with
    | true => rw [if_pos rfl]
    | false => rw [hz _ (by omega) e, if_neg (fun q => nomatch q)]; rfl
  · rw [kno_2]
    cases e : wiP (2 * c + 1) with
    | true => rw [if_pos rfl]
    | false => rw [hz _ (by omega) e, if_neg (fun q => nomatch q)]; rfl
theorem out_6 : cnt 36 (fun c => !(wiP (2 * c))) = 6 ∧ cnt 36 (fun c => !(wiP (2 * c + 1))) = 6 := by decide +kernel
theorem wl_eq (hz : mpz mp) : cnt 72 (fun k => mp k == 2) + 12 = cnt 36 (fun c => kno mp c 1 == 2) + cnt 36 (fun c => kno mp c 2 == 2) := by
  have a : cnt 36 (fun c => mp (2 * c) == 2) + cnt 36 (fun c => !(wiP (2 * c))) = cnt 36 (fun c => kno mp c 1 == 2) + cnt 36 (fun _ => false) := cnt_ad 36 fun c hc => by
    rw [kno_1]
    cases e : wiP (2 * c) with
    | true => simp
    | false => rw [hz _ (by omega) e]; simp
  have b : cnt 36 (fun c => mp (2 * c + 1) == 2) + cnt 36 (fun c => !(wiP (2 * c + 1))) = cnt 36 (fun c => kno mp c 2 == 2) + cnt 36 (fun _ => false) := cnt_ad 36 fun c hc => by
    rw [kno_2]
    cases e : wiP (2 * c + 1) with
    | true => simp
    | false => rw [hz _ (by omega) e]; simp
  rw [out_6.1, cnt_ff] at a
  rw [out_6.2, cnt_ff] at b
  have c : cnt 72 (fun k => mp k == 2) = cnt 36 (fun c => mp (2 * c) == 2) + cnt 36 (fun c => mp (2 * c + 1) == 2) := cnt_2 _ 36
  omega
def pF (kd hr mp : Nat → Nat) (h : Nat) (b : Bool) (k : Nat) : Bool := wiP k && (!(mp k == 0) && ((clE (kd k) (hr k) h == (mp k == 2)) == b))
theorem knw_1 {h c : Nat} {b : Bool} : knwT kd hr mp h b c 1 = if pF kd hr mp h b (2 * c) = true then 1 else 0 := by
  unfold knwT pF
  rw [kno_1, wi_0]
  unfold clsS plc
  cases e : nb c 1 with
  | none => rfl
  | some d =>
    show (if some d ≠ none ∧ mp (2 * c) ≠ 0 ∧ ((clE (kd (2 * c)) (hr (2 * c)) h == (mp (2 * c) == 2)) == b) = true then 1 else 0) = _
    by_cases q : mp (2 * c) = 0
    · rw [if_neg (fun x => x.2.1 q), if_neg (by rw [q]; simp)]
    · have : (mp (2 * c) == 0) = false := by simpa using q
      rw [this]
      cases ((clE (kd (2 * c)) (hr (2 * c)) h == (mp (2 * c) == 2)) == b) with
      | true => rw [if_pos ⟨(fun x => nomatch x), q, rfl⟩, if_pos (by rfl)]
      | false => rw [if_neg (fun x => nomatch x.2.2), if_neg (by simp)]
theorem knw_2 {h c : Nat} {b : Bool} : knwT kd hr mp h b c 2 = if pF kd hr mp h b (2 * c + 1) = true then 1 else 0 := by
  unfold knwT pF
  rw [kno_2, wi_1]
  unfold clsS plc
  cases e : nb c 2 with
  | none => rfl
  | some d =>
    show (if some d ≠ none ∧ mp (2 * c + 1) ≠ 0 ∧ ((clE (kd (2 * c + 1)) (hr (2 * c + 1)) h == (mp (2 * c + 1) == 2)) == b) = true then 1 else 0) = _
    by_cases q : mp (2 * c + 1) = 0
    · rw [if_neg (fun x => x.2.1 q), if_neg (by rw [q]; simp)]
    · have : (mp (2 * c + 1) == 0) = false := by simpa using q
      rw [this]
      cases ((clE (kd (2 * c + 1)) (hr (2 * c + 1)) h == (mp (2 * c + 1) == 2)) == b) with
      | true => rw [if_pos ⟨(fun x => nomatch x), q, rfl⟩, if_pos (by rfl)]
      | false => rw [if_neg (fun x => nomatch x.2.2), if_neg (by simp)]
theorem knw_c {h : Nat} {b : Bool} : knwS kd hr mp h b = cnt 72 (pF kd hr mp h b) := sumN_cnt 36 fun c _ => by rw [knw_1, knw_2]
theorem rt_eq {h : Nat} (hz : mpz mp) : knwS kd hr mp h true = cnt 72 (rtP kd hr mp h) := by
  rw [knw_c]
  refine cnt_cg 72 fun k hk => ?_
  unfold pF rtP
  cases e : wiP k with
  | true =>
    cases clE (kd k) (hr k) h <;> cases (mp k == 2) <;> simp
  | false => rw [hz k hk e]; rfl
theorem all_eq {h : Nat} (hz : mpz mp) (ho : mpo mp) : knwS kd hr mp h true + knwS kd hr mp h false = cnt 72 (fun k => mp k == 1) + cnt 72 (fun k => mp k == 2) := by
  rw [knw_c, knw_c]
  refine cnt_ad 72 fun k hk => ?_
  unfold pF
  cases e : wiP k with
  | true =>
    have := ho k
    rcases (show mp k = 0 ∨ mp k = 1 ∨ mp k = 2 by omega) with q | q | q <;> rw [q] <;> cases clE (kd k) (hr k) h <;> rfl
  | false => rw [hz k hk e]; rfl
theorem ofw_eq {h mi : Nat} (hz : mpz mp) (hm : mpo mp) {ho po ch : Nat} {lo ac bu sl : Int32} {may : Nat → Bool} (k : Nat) (hk : k ≤ 12) : ofwR kd hr (mi / 60 % 24) (ho, po, ch, lo, ac, bu, sl, may, mp) k = ofwS kd hr mi (ho, po, ch, lo, ac, bu, sl, may, mp) k := by
  have e5 := fr_eq hz
  have e6 := wl_eq hz
  have e7 := rt_eq (kd := kd) (hr := hr) (h := mi / 60 % 24) hz
  have e8 := all_eq (kd := kd) (hr := hr) (h := mi / 60 % 24) hz hm
  unfold ofwS
  rcases (show k = 0 ∨ k = 1 ∨ k = 2 ∨ k = 3 ∨ k = 4 ∨ k = 5 ∨ k = 6 ∨ k = 7 ∨ k = 8 ∨ k = 9 ∨ k = 10 ∨ k = 11 ∨ k = 12 by omega) with rfl | rfl | rfl | rfl | rfl | rfl | rfl | rfl | rfl | rfl | rfl | rfl | rfl
  · rfl
  · rfl
  · rfl
  · rfl
  · show (if cnt 144 may = 1 then nI 1 else nI 0) = b2i (decide (cnt 144 may = 1))
    unfold b2i
    simp
  · show nI (cnt 72 (fun k => mp k == 1)) = nI (cnt 36 (fun c => kno mp c 1 == 1) + cnt 36 (fun c => kno mp c 2 == 1))
    rw [e5]
  · show nI (cnt 72 (fun k => mp k == 2)) = nI (cnt 36 (fun c => kno mp c 1 == 2) + cnt 36 (fun c => kno mp c 2 == 2)) - nI 12
    rw [← e6, nI_subS (by omega), Nat.add_sub_cancel]
  · show nI (cnt 72 (rtP kd hr mp (mi / 60 % 24))) = nI (knwS kd hr mp (mi / 60 % 24) true)
    rw [e7]
  · show nI (cnt 72 (fun k => mp k == 1)) + nI (cnt 72 (fun k => mp k == 2)) - nI (cnt 72 (rtP kd hr mp (mi / 60 % 24))) = nI (knwS kd hr mp (mi / 60 % 24) false)
    rw [← e7, nI_add, nI_subS (by omega)]
    exact congrArg nI (by omega)
  · rfl
  · rfl
  · rfl
  · rfl
theorem hs_eq {cp br : Nat → Bool} {n mi : Nat} {dr me di re : Int32} (hz : mpz kd) (k : Nat) (hk : k ≤ 11) : hsR kd hr cp br n mi dr me di re k = hsS kd hr cp br n mi dr me di re k := by
  have e : ∀ q, q ≠ 0 → cnt 72 (fun k => wiP k && kd k == q) = cnt 72 (fun k => kd k == q) := fun q hq => cnt_cg 72 fun k hk => by
    cases e : wiP k with
    | true => rfl
    | false =>
      rw [hz k hk e]
      show false = (0 == q)
      exact (beq_eq_false_iff_ne.mpr (fun x => hq x.symm)).symm
  rcases (show k = 0 ∨ k = 1 ∨ k = 2 ∨ k = 3 ∨ k = 4 ∨ k = 5 ∨ k = 6 ∨ k = 7 ∨ k = 8 ∨ k = 9 ∨ k = 10 ∨ k = 11 by omega) with rfl | rfl | rfl | rfl | rfl | rfl | rfl | rfl | rfl | rfl | rfl | rfl
  · rfl
  · rfl
  · show nI (cnt 72 (fun k => wiP k && kd k == 1)) = nI (cnt 72 (fun k => kd k == 1))
    rw [e 1 (by decide)]
  · show nI (cnt 72 (fun k => wiP k && kd k == 2)) = nI (cnt 72 (fun k => kd k == 2))
    rw [e 2 (by decide)]
  · rfl
  · rfl
  · rfl
  · rfl
  · rfl
  · rfl
  · rfl
  · rfl
theorem sndW_eq {mi : Nat} {y : sW} (hz : mpz y.2.2.2.2.2.2.2.2) (hm : mpo y.2.2.2.2.2.2.2.2) : sndR kd hr (mi / 60 % 24) y = sndW kd hr mi y := by
  have e := fun k hk => ofw_eq (kd := kd) (hr := hr) (h := 0) (mi := mi) hz hm (ho := y.1) (po := y.2.1) (ch := y.2.2.1) (lo := y.2.2.2.1) (ac := y.2.2.2.2.1) (bu := y.2.2.2.2.2.1) (sl := y.2.2.2.2.2.2.1) (may := y.2.2.2.2.2.2.2.1) k hk
  unfold sndR sndW
  rw [← sW_eta y] at e
  rw [e 5 (by decide), e 6 (by decide), e 7 (by decide), e 8 (by decide)]
  rfl
theorem sndS_eq {mi n : Nat} {ws : Nat → sW} (hn : n ≤ 3) (hz : ∀ i, i < n → mpz (ws i).2.2.2.2.2.2.2.2) (hm : ∀ i, i < n → mpo (ws i).2.2.2.2.2.2.2.2) : sndRS kd hr (mi / 60 % 24) n ws = sndS kd hr mi n ws := by
  unfold sndRS sndS
  cases e : fst1 n (fun i => !(sndR kd hr (mi / 60 % 24) (ws i))) with
  | none =>
    rw [fst1_no fun j hj => ?_]
    by_cases q : j < n
    · have := fst1_none e j q
      rw [sndW_eq (hz j q) (hm j q)] at this
      rw [this, Bool.and_false]
    · rw [decide_eq_false q, Bool.false_and]
  | some k =>
    obtain ⟨h1, h2, -⟩ := fst1_some e
    rw [sndW_eq (hz k h1) (hm k h1)] at h2
    cases e2 : fst1 3 (fun i => decide (i < n) && !(sndW kd hr mi (ws i))) with
    | none =>
      have := fst1_none e2 k (by omega)
      rw [decide_eq_true h1, h2] at this
      cases this
    | some _ => rfl
end SAME
