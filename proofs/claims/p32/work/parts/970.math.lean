/-! FLOORS WITHOUT DOORS: what stays right of each walker. Mine. -/
def ndk (kd : Nat → Nat) : Prop := ∀ k, kd k ≤ 1
def clK (kd : Nat → Nat) (c s : Nat) : Bool := match nb c s with
  | none => true
  | some _ => kd (plc c s) == 1
/-- a map holds nothing wrong -/
def rgk (kd mp : Nat → Nat) : Prop := ∀ k, wiP k = true → mp k ≠ 0 → (mp k == 2) = (kd k == 1)
theorem clE_nd {k n h : Nat} (hk : k ≤ 1) : clE k n h = (k == 1) := by
  unfold clE
  rcases (show k = 0 ∨ k = 1 by omega) with rfl | rfl <;> rfl
theorem cls_nd {kd hr : Nat → Nat} (hk : ndk kd) (h c s : Nat) : clsS kd hr h c s = clK kd c s := by
  unfold clsS clK
  cases nb c s with
  | none => rfl
  | some _ => exact clE_nd (hk _)
theorem rgk_0 (kd : Nat → Nat) : rgk kd (fun _ => 0) := fun _ _ h => absurd rfl h
theorem rgk_put {kd mp : Nat → Nat} (h : rgk kd mp) {c s : Nat} : rgk kd (putM mp c s (clK kd c s)) := by
  unfold putM
  split
  · exact h
  · rename_i e
    intro k hw hn
    unfold up at hn ⊢
    split
    · rename_i ek
      subst ek
      unfold clK
      cases e2 : nb c s with
      | none => exact absurd e2 e
      | some d =>
        show ((if (kd (plc c s) == 1) = true then 2 else 1) == 2) = _
        cases kd (plc c s) == 1 <;> rfl
    · rename_i ek
      rw [if_neg ek] at hn
      exact h k hw hn
theorem kno_r {kd mp : Nat → Nat} (h : rgk kd mp) {c s : Nat} (hc : c < 36) (hs : s < 4) (hn : kno mp c s ≠ 0) : (kno mp c s == 2) = clK kd c s := by
  unfold kno clK at *
  cases e : nb c s with
  | none => rfl
  | some d =>
    rw [e] at hn
    exact h _ (plc_wi hc hs (by rw [e]; exact fun q => nomatch q)) hn
theorem fit_r {kd mp : Nat → Nat} (h : rgk kd mp) {c s : Nat} (hc : c < 36) (hs : s < 4) : fitP mp s (clK kd c s) c = true := by
  unfold fitP
  by_cases e : kno mp c s = 0
  · rw [e]
    cases clK kd c s <;> rfl
  · have z := kno_r h hc hs e
    cases q : clK kd c s with
    | true =>
      rw [q] at z
      have : kno mp c s = 2 := by simpa using z
      rw [this]
      rfl
    | false =>
      rw [q] at z
      have : ¬ kno mp c s = 2 := by simpa using z
      show (!(kno mp c s == 2)) = true
      rw [z]
      rfl
theorem cnt_pos {p : Nat → Bool} {n q : Nat} (hq : q < n) (h : p q = true) : 1 ≤ cnt n p := by
  have := (cnt_le2 (p := fun _ => false) (q := p) n (fun _ _ e => nomatch e)).2 ⟨q, hq, h, rfl⟩
  omega
theorem cnt_two {p : Nat → Bool} {n q r : Nat} (hq : q < n) (hr : r < n) (h : p q = true) (h' : p r = true) (hne : q ≠ r) : 2 ≤ cnt n p := by
  have a := cnt_pos (p := fun c => decide (c = q)) (n := n) hq (decide_eq_true rfl)
  have b := (cnt_le2 (p := fun c => decide (c = q)) (q := p) n (fun c _ e => by
    have := of_decide_eq_true e
    subst this
    exact h)).2 ⟨r, hr, h', decide_eq_false (fun e => hne e.symm)⟩
  omega
theorem sure_is {may : Nat → Bool} {po p : Nat} (hp : po < 144) (h : may po = true) (e : sureP may = some p) : p = po := by
  obtain ⟨h1, h2⟩ := sure_lt e
  have h3 : cnt 144 may = 1 := by
    unfold sureP at e
    split at e
    · assumption
    · cases e
  by_cases q : p = po
  · exact q
  · have := cnt_two h1 hp h2 h q
    omega
section PW
variable {kd hr : Nat → Nat} {cp : Nat → Bool} {mi nd : Nat}
/-- a walker as it should be; k: how many acts at most -/
def gdW (kd : Nat → Nat) (k : Nat) (y : sW) : Prop := okW y ∧ rgk kd y.2.2.2.2.2.2.2.2 ∧ y.2.2.2.2.2.2.2.1 y.2.1 = true ∧ y.2.2.2.1 = nI 0 ∧ ∃ a b c : Nat, y.2.2.2.2.1 = nI a ∧ y.2.2.2.2.2.1 = nI b ∧ y.2.2.2.2.2.2.1 = nI c ∧ b + c ≤ a ∧ a ≤ k
theorem gdW_wk {k k' : Nat} {y : sW} (h : gdW kd k y) (hk : k ≤ k') : gdW kd k' y := by
  obtain ⟨h1, h2, h3, h4, a, b, c, e1, e2, e3, e4, e5⟩ := h
  exact ⟨h1, h2, h3, h4, a, b, c, e1, e2, e3, e4, by omega⟩
theorem anew_is {p : Nat → Bool} {q : Nat} (hq : q < 144) (h : p q = true) (lo : Int32) : anewM p = p ∧ anewL lo p = lo := by
  have := cnt_pos hq h
  unfold anewM anewL
  rw [if_neg (by omega), if_neg (by omega)]
  exact ⟨rfl, rfl⟩
theorem po_eq (po : Nat) : 4 * (po / 4) + po % 4 = po := by omega
theorem gdW_fwd (hk : ndk kd) {k : Nat} {y : sW} (h : gdW kd k y) : gdW kd (k + 1) (fwdY kd hr cp mi nd y) := by
  have ok' := okW_fwd (kd := kd) (hr := hr) (cp := cp) (mi := mi) (nd := nd) h.1
  obtain ⟨ho, po, ch, lo, ac, bu, sl, may, mp⟩ := y
  obtain ⟨⟨⟨o1, o2, o3, o4, o5⟩, o6⟩, h2, h3, h4, a, b, c, e1, e2, e3, e4, e5⟩ := h
  have o2 : po < 144 := o2
  have h3 : may po = true := h3
  have h4 : lo = nI 0 := h4
  have e1 : ac = nI a := e1
  have e2 : bu = nI b := e2
  have e3 : sl = nI c := e3
  have h2 : rgk kd mp := h2
  have hb : bmpB kd hr mi po = clK kd (po / 4) (po % 4) := cls_nd hk _ _ _
  have hr' : rgk kd (putF may mp (bmpB kd hr mi po)) := by
    unfold putF
    cases e : sureP may with
    | none => exact h2
    | some p =>
      obtain rfl := sure_is o2 h3 e
      show rgk kd (putM mp (p / 4) (p % 4) (bmpB kd hr mi p))
      rw [hb]
      exact rgk_put h2
  have hf := fit_r hr' (c := po / 4) (s := po % 4) (by omega) (by omega)
  rw [← hb] at hf
  have hst : stP may (putF may mp (bmpB kd hr mi po)) (bmpB kd hr mi po) (po % 4) (po / 4) = true := by
    unfold stP
    rw [po_eq, h3, hf]
    rfl
  have hpo : mayF may (putF may mp (bmpB kd hr mi po)) (bmpB kd hr mi po) (if bmpB kd hr mi po = true then po else if slipB cp nd po = true then po else stepW po) = true := by
    unfold mayF
    cases q : bmpB kd hr mi po with
    | true =>
      rw [q] at hst
      rw [if_pos rfl]
      unfold fwdP
      rw [if_pos rfl]
      exact hst
    | false =>
      rw [q] at hst
      rw [if_neg (fun e => nomatch e)]
      unfold fwdP
      rw [if_neg (fun e => nomatch e)]
      by_cases q2 : slipB cp nd po = true
      · rw [if_pos q2, hst]
        rfl
      · rw [if_neg q2]
        rw [q] at hb
        unfold stepW
        cases e : nb (po / 4) (po % 4) with
        | none =>
          unfold clK at hb
          rw [e] at hb
          cases hb
        | some d =>
          have hd := nb_lt (by omega) (by omega) e
          obtain ⟨n1, n2⟩ := nb_back (by omega) (by omega) e
          show (stP may _ false ((d * 4 + po % 4) % 4) ((d * 4 + po % 4) / 4) || mvd (stP may _ false ((d * 4 + po % 4) % 4)) ((d * 4 + po % 4) % 4) ((d * 4 + po % 4) / 4)) = true
          rw [show (d * 4 + po % 4) % 4 = po % 4 by omega, show (d * 4 + po % 4) / 4 = d by omega]
          unfold mvd
          rw [n1]
          show (_ || stP may _ false (po % 4) (po / 4)) = true
          rw [hst, Bool.or_true]
  have hlt : (if bmpB kd hr mi po = true then po else if slipB cp nd po = true then po else stepW po) < 144 := by
    split
    · exact o2
    · split
      · exact o2
      · exact step_lt o2
  obtain ⟨z1, z2⟩ := anew_is hlt hpo lo
  refine ⟨ok', hr', ?_, ?_, ?_⟩
  · show anewM _ _ = true
    rw [z1]
    exact hpo
  · show anewL lo _ = nI 0
    rw [z2, h4]
  · show ∃ a' b' c' : Nat, ac + nI 1 = nI a' ∧ (if bmpB kd hr mi po = true then bu + nI 1 else bu) = nI b' ∧ (if bmpB kd hr mi po = true then sl else if slipB cp nd po = true then sl + nI 1 else sl) = nI c' ∧ b' + c' ≤ a' ∧ a' ≤ k + 1
    rw [e1, e2, e3]
    cases bmpB kd hr mi po with
    | true => exact ⟨a + 1, b + 1, c, nI_add .., nI_add .., rfl, by omega, by omega⟩
    | false =>
      cases slipB cp nd po with
      | true => exact ⟨a + 1, b, c + 1, nI_add .., rfl, nI_add .., by omega, by omega⟩
      | false => exact ⟨a + 1, b, c, nI_add .., rfl, rfl, by omega, by omega⟩
theorem gdW_feel (hk : ndk kd) {k : Nat} {y : sW} (h : gdW kd k y) : gdW kd (k + 1) (feelY (feltN kd hr mi y.2.1) y) := by
  have ok' := okW_feel (t := feltN kd hr mi y.2.1) h.1
  obtain ⟨ho, po, ch, lo, ac, bu, sl, may, mp⟩ := y
  obtain ⟨⟨⟨o1, o2, o3, o4, o5⟩, o6⟩, h2, h3, h4, a, b, c, e1, e2, e3, e4, e5⟩ := h
  have o2 : po < 144 := o2
  have h3 : may po = true := h3
  have h4 : lo = nI 0 := h4
  have e1 : ac = nI a := e1
  have h2 : rgk kd mp := h2
  have t0 : (feltN kd hr mi po).testBit 0 = clK kd (po / 4) ((po % 4 + 3 + 0) % 4) := (flt3_0 ..).trans (cls_nd hk _ _ _)
  have t1 : (feltN kd hr mi po).testBit 1 = clK kd (po / 4) ((po % 4 + 3 + 1) % 4) := (flt3_1 ..).trans (cls_nd hk _ _ _)
  have t2 : (feltN kd hr mi po).testBit 2 = clK kd (po / 4) ((po % 4 + 3 + 2) % 4) := (flt3_2 ..).trans (cls_nd hk _ _ _)
  show gdW kd (k + 1) (ho, po, ch - 1, anewL lo (mayL may (putL may mp (feltN kd hr mi po)) (feltN kd hr mi po)), ac + nI 1, bu, sl, anewM (mayL may (putL may mp (feltN kd hr mi po)) (feltN kd hr mi po)), putL may mp (feltN kd hr mi po))
  have ok' : okW (ho, po, ch - 1, anewL lo (mayL may (putL may mp (feltN kd hr mi po)) (feltN kd hr mi po)), ac + nI 1, bu, sl, anewM (mayL may (putL may mp (feltN kd hr mi po)) (feltN kd hr mi po)), putL may mp (feltN kd hr mi po)) := ok'
  generalize feltN kd hr mi po = t at ok' t0 t1 t2
  have hr' : rgk kd (putL may mp t) := by
    unfold putL
    cases e : sureP may with
    | none => exact h2
    | some p =>
      obtain rfl := sure_is o2 h3 e
      show rgk kd (putM (putM (putM mp (p / 4) ((p % 4 + 3 + 0) % 4) (t.testBit 0)) (p / 4) ((p % 4 + 3 + 1) % 4) (t.testBit 1)) (p / 4) ((p % 4 + 3 + 2) % 4) (t.testBit 2))
      rw [t0, t1, t2]
      exact rgk_put (rgk_put (rgk_put h2))
  have hpo : mayL may (putL may mp t) t po = true := by
    unfold mayL feltP
    rw [po_eq, h3, t0, t1, t2, fit_r hr' (by omega) (by omega), fit_r hr' (by omega) (by omega), fit_r hr' (by omega) (by omega)]
    rfl
  obtain ⟨z1, z2⟩ := anew_is o2 hpo lo
  refine ⟨ok', hr', ?_, ?_, a + 1, b, c, ?_, e2, e3, by omega, by omega⟩
  · show anewM _ po = true
    rw [z1]
    exact hpo
  · show anewL lo _ = nI 0
    rw [z2, h4]
  · show ac + nI 1 = nI (a + 1)
    rw [e1, nI_add]
theorem gdW_turn {k : Nat} {b : Bool} {y : sW} (h : gdW kd k y) : gdW kd (k + 1) (turnY b y) := by
  have ok' := okW_turn (b := b) h.1
  obtain ⟨ho, po, ch, lo, ac, bu, sl, may, mp⟩ := y
  obtain ⟨⟨⟨o1, o2, o3, o4, o5⟩, o6⟩, h2, h3, h4, a, b', c, e1, e2, e3, e4, e5⟩ := h
  have o2 : po < 144 := o2
  have e1 : ac = nI a := e1
  have h3 : may po = true := h3
  refine ⟨ok', h2, ?_, h4, a + 1, b', c, ?_, e2, e3, by omega, by omega⟩
  · show rotP may (if b = true then 3 else 1) (turnW po b) = true
    unfold rotP turnW
    rw [show 4 * ((po / 4 * 4 + (po % 4 + (if b = true then 1 else 3)) % 4) / 4) + ((po / 4 * 4 + (po % 4 + (if b = true then 1 else 3)) % 4) % 4 + (if b = true then 3 else 1)) % 4 = po by cases b <;> simp <;> omega]
    exact h3
  · show ac + nI 1 = nI (a + 1)
    rw [e1, nI_add]
theorem gdW_act {k : Nat} {y : sW} (h : gdW kd k y) : gdW kd (k + 1) (actY y) := by
  have ok' := okW_act h.1
  obtain ⟨ho, po, ch, lo, ac, bu, sl, may, mp⟩ := y
  obtain ⟨-, h2, h3, h4, a, b', c, e1, e2, e3, e4, e5⟩ := h
  have e1 : ac = nI a := e1
  exact ⟨ok', h2, h3, h4, a + 1, b', c, by show ac + nI 1 = nI (a + 1); rw [e1, nI_add], e2, e3, by omega, by omega⟩
theorem gdW_new {k c f h : Nat} (hc : c ≤ 35) (hf : f ≤ 3) (h5 : h ≤ 500) (b : Bool) : gdW kd k (c, c * 4 + f, h, nI 0, nI 0, nI 0, nI 0, may0 (c * 4 + f) b, fun _ => 0) := by
  refine ⟨okW_new hc hf h5 b, rgk_0 kd, ?_, rfl, 0, 0, 0, rfl, rfl, rfl, Nat.le_refl _, Nat.zero_le _⟩
  show may0 (c * 4 + f) b (c * 4 + f) = true
  unfold may0
  cases b with
  | true => exact decide_eq_true rfl
  | false => rfl
end PW
