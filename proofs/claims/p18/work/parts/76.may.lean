/-! THE REFERENCE: what may be behind a step, behind a feeling. Mine. -/
theorem mayF_eq {may : Nat → Bool} {mp : Nat → Nat} {p : Nat} (b : Bool) : mayF may mp b p = if b = true then stP may mp true (p % 4) (p / 4) else stP may mp false (p % 4) (p / 4) || mvd (stP may mp false (p % 4)) (p % 4) (p / 4) := by
  unfold mayF fwdP
  cases b <;> rfl
/-- what is there after k poses, of a step without a bump -/
def stF (may : Nat → Bool) (mp : Nat → Nat) (k p : Nat) : Bool := (decide (p < k) && stP may mp false (p % 4) (p / 4)) || mvd (fun c => decide (4 * c + p % 4 < k) && stP may mp false (p % 4) c) (p % 4) (p / 4)
theorem stF_0 {may : Nat → Bool} {mp : Nat → Nat} {p : Nat} : stF may mp 0 p = false := by
  unfold stF mvd
  cases nb (p / 4) ((p % 4 + 2) % 4) <;> simp
theorem stF_all {may : Nat → Bool} {mp : Nat → Nat} {p : Nat} (hp : p < 144) : stF may mp 144 p = mayF may mp false p := by
  rw [mayF_eq, if_neg (by decide)]
  unfold stF mvd
  rw [decide_eq_true hp, Bool.true_and]
  cases e : nb (p / 4) ((p % 4 + 2) % 4) with
  | none => rfl
  | some c =>
    have hc := nb_lt (show p / 4 < 36 by omega) (show (p % 4 + 2) % 4 < 4 by omega) e
    show (_ || (decide (4 * c + p % 4 < 144) && _)) = _
    rw [decide_eq_true (by omega), Bool.true_and]
theorem stF_s {may : Nat → Bool} {mp : Nat → Nat} {k p : Nat} (hk : k < 144) (hp : p < 144) : stF may mp (k + 1) p = (stF may mp k p || (stP may mp false (k % 4) (k / 4) && (decide (p = k) || decide (p % 4 = k % 4 ∧ nb (k / 4) (k % 4) = some (p / 4))))) := by
  unfold stF mvd
  have a1 : (decide (p < k + 1) && stP may mp false (p % 4) (p / 4)) = ((decide (p < k) && stP may mp false (p % 4) (p / 4)) || (stP may mp false (k % 4) (k / 4) && decide (p = k))) := by
    by_cases q : p = k
    · subst q
      rw [decide_eq_true (Nat.lt_succ_self p), decide_eq_false (Nat.lt_irrefl p), decide_eq_true rfl]
      simp
    · rw [decide_eq_false q, show decide (p < k + 1) = decide (p < k) from decide_eq_decide.mpr ⟨fun h => by omega, fun h => by omega⟩]
      simp
  rw [a1]
  cases e : nb (p / 4) ((p % 4 + 2) % 4) with
  | none =>
    have : decide (p % 4 = k % 4 ∧ nb (k / 4) (k % 4) = some (p / 4)) = false := decide_eq_false fun ⟨h1, h2⟩ => by
      have := (nb_back (show k / 4 < 36 by omega) (show k % 4 < 4 by omega) h2).1
      rw [← h1, e] at this
      cases this
    rw [this]
    simp
  | some c =>
    have hc := nb_lt (show p / 4 < 36 by omega) (show (p % 4 + 2) % 4 < 4 by omega) e
    have hb := (nb_back (show p / 4 < 36 by omega) (show (p % 4 + 2) % 4 < 4 by omega) e).1
    rw [show ((p % 4 + 2) % 4 + 2) % 4 = p % 4 by omega] at hb
    dsimp only
    have a2 : (decide (4 * c + p % 4 < k + 1) && stP may mp false (p % 4) c) = ((decide (4 * c + p % 4 < k) && stP may mp false (p % 4) c) || (stP may mp false (k % 4) (k / 4) && decide (p % 4 = k % 4 ∧ nb (k / 4) (k % 4) = some (p / 4)))) := by
      by_cases q : 4 * c + p % 4 = k
      · have q1 : k % 4 = p % 4 := by omega
        have q2 : k / 4 = c := by omega
        rw [q1, q2, decide_eq_true (show 4 * c + p % 4 < k + 1 by omega), decide_eq_false (show ¬ 4 * c + p % 4 < k by omega), decide_eq_true (show p % 4 = p % 4 ∧ nb c (p % 4) = some (p / 4) from ⟨rfl, hb⟩)]
        simp
      · have : decide (p % 4 = k % 4 ∧ nb (k / 4) (k % 4) = some (p / 4)) = false := decide_eq_false fun ⟨h1, h2⟩ => by
          have := (nb_back (show k / 4 < 36 by omega) (show k % 4 < 4 by omega) h2).1
          rw [← h1, e] at this
          cases this
          omega
        rw [this, show decide (4 * c + p % 4 < k + 1) = decide (4 * c + p % 4 < k) from decide_eq_decide.mpr ⟨fun h => by omega, fun h => by omega⟩]
        simp
    rw [a2]
    cases decide (p < k) && stP may mp false (p % 4) (p / 4) <;> cases stP may mp false (k % 4) (k / 4) <;> cases decide (p = k) <;> cases decide (4 * c + p % 4 < k) && stP may mp false (p % 4) c <;> cases decide (p % 4 = k % 4 ∧ nb (k / 4) (k % 4) = some (p / 4)) <;> rfl
def stT (may : Nat → Bool) (mp : Nat → Nat) (k q : Nat) : Bool := decide (q < k) && mayF may mp true q
def mR2 (F : Nat → Int32) (p : Nat → Bool) : Prop := ∀ q, q < 144 → F q = b2i (p q)
theorem mR2_put {F : Nat → Int32} {p : Nat → Bool} (h : mR2 F p) (k : Nat) (b : Bool) : mR2 (upd F k (b2i b)) (up p k b) := fun q hq => by
  by_cases e : q = k
  · subst e; rw [pk_us, up_s]
  · rw [pk_un e, up_n e, h q hq]
theorem and1_b (a b : Bool) : b2i a &&& b2i b = b2i (a && b) := by cases a <;> cases b <;> decide
theorem nwr_mR {w : am_Wd} {F : Nat → Int32} {p : Nat → Bool} (h : mR2 F p) : mR (nwr w 2 144 F) w.2.1 p := ⟨F, nwr_at, h⟩
section MAY
variable {w : am_Wd} {g : Nat → Nat} {i a ho po ch : Nat} {lo ac bu sl : Int32} {may : Nat → Bool} {mp : Nat → Nat}
theorem stP_k {k : Nat} (b : Bool) : stP may mp b (k % 4) (k / 4) = (may k && fitP mp (k % 4) b (k / 4)) := by
  unfold stP
  rw [show 4 * (k / 4) + k % 4 = k by omega]
theorem it209 (hJ : gJ w g) (hp : mpo mp) (h : Mkv w g i a (ho, po, ch, lo, ac, bu, sl, may, mp)) {k : Nat} (hk : k < 144) {F : Nat → Int32} (hF : mR2 F (stF may mp k)) :
    ∃ F', mR2 F' (stF may mp (k + 1)) ∧ am_run 209 8 [some (.ref a), some (.int (b2i false)), some (.ref w.2.1), some (.int (nI k)), none] [] (nwr w 2 144 F) = am_run 209 8 [some (.ref a), some (.int (b2i false)), some (.ref w.2.1), some (.int (nI (k + 1))), none] [] (nwr w 2 144 F') := by
  have h' := h.ext hJ (nwr_ext (w := w) (t := 2) (n := 144) (M := F))
  have z := x174 h' (c := k / 4) (s := k % 4) (by omega) (by omega)
  have y := x100 (w := nwr w 2 144 F) (c := k / 4) (s := k % 4) (by omega) (by omega)
  obtain ⟨ma, mq, h1, h2, -⟩ := h'
  have r := h2.at hk
  have hs := fun q hq => stF_s (may := may) (mp := mp) (k := k) (p := q) hk hq
  have hkl := kno_le hp (k / 4) (k % 4)
  have e2 : (nI (kno mp (k / 4) (k % 4)) = nI 2) = (kno mp (k / 4) (k % 4) = 2) := nI_eqS (by omega) (by decide)
  rw [bk209_8, if_neg (by rw [nI_leS (by decide) (by omega)]; omega)]
  simp only [bk209_15, gfc h1, oK_0, oK_1, oK_2, oK_3, oK_4, oK_5, oK_6, oK_7, oK_8, bk209_19, r, bk209_21, b2i_0, Option.bind_some, bct_v, bct_t, otl_s, otl_n, List.cons_append, List.nil_append, List.getElem?_cons_zero, List.getElem?_cons_succ, ↓reduceIte]
  cases em : may k with
  | false =>
    refine ⟨F, fun q hq => ?_, ?_⟩
    · rw [hF q hq, hs q hq, stP_k, em]
      simp
    · rw [if_neg (fun q => q rfl), bk209_24, bk209_91, nI_add]
  | true =>
    rw [if_pos (fun q => nomatch q)]
    simp only [bk209_27, nI_divS (show k < 2147483648 by omega) (show 0 < 4 by decide) (show 4 < 2147483648 by decide), nI_remS (show k < 2147483648 by omega) (show 0 < 4 by decide) (show 4 < 2147483648 by decide), z, bk209_37, b2i_0, bk209_63, e2, Option.bind_some, bct_v, bct_t, otl_s, otl_n, List.cons_append, List.nil_append, List.getElem?_cons_zero, List.getElem?_cons_succ, ↓reduceIte]
    by_cases q2 : kno mp (k / 4) (k % 4) = 2
    · refine ⟨F, fun q hq => ?_, ?_⟩
      · have : fitP mp (k % 4) false (k / 4) = false := by
          unfold fitP
          rw [q2]
          rfl
        rw [hF q hq, hs q hq, stP_k, this]
        simp
      · rw [if_pos q2, bk209_91, nI_add]
    · cases e : nb (k / 4) (k % 4) with
      | none =>
        exfalso
        apply q2
        unfold kno
        rw [e]
      | some d =>
        have hd := nb_lt (show k / 4 < 36 by omega) (show k % 4 < 4 by omega) e
        rw [e] at y
        have fit : fitP mp (k % 4) false (k / 4) = true := by
          unfold fitP
          have : (kno mp (k / 4) (k % 4) == 2) = false := by simpa using q2
          show (!(kno mp (k / 4) (k % 4) == 2)) = true
          rw [this]
          rfl
        have w1 := nwr_put (w := w) (t := 2) (n := 144) (k := k) (M := F) (v := b2i true) hk (by decide)
        have w2 := nwr_put (w := w) (t := 2) (n := 144) (k := 4 * d + k % 4) (M := upd F k (b2i true)) (v := b2i true) (by omega) (by decide)
        have y' : am_x 100 [.int (nI (k / 4)), .int (nI (k % 4))] (nwr w 2 144 (upd F k (b2i true))) = some (.inl (some (.int (nI d))), nwr w 2 144 (upd F k (b2i true))) := by
          rw [x100 (by omega) (by omega), e]
          rfl
        refine ⟨upd (upd F k (b2i true)) (4 * d + k % 4) (b2i true), fun q hq => ?_, ?_⟩
        · rw [hs q hq, stP_k, em, fit, e]
          by_cases c1 : q = 4 * d + k % 4
          · subst c1
            rw [pk_us, decide_eq_true (show (4 * d + k % 4) % 4 = k % 4 ∧ some d = some ((4 * d + k % 4) / 4) from ⟨by omega, congrArg some (by omega)⟩)]
            simp
          · rw [pk_un c1, decide_eq_false (show ¬ (q % 4 = k % 4 ∧ some d = some (q / 4)) from fun ⟨z1, z2⟩ => by
              have := Option.some.inj z2
              omega)]
            by_cases c2 : q = k
            · subst c2
              rw [pk_us]
              simp
            · rw [pk_un c2, hF q hq, decide_eq_false c2]
              simp
        · rw [if_neg q2]
          simp only [bk209_69, nar_1, w1, bk209_73, nI_divS (show k < 2147483648 by omega) (show 0 < 4 by decide) (show 4 < 2147483648 by decide), nI_remS (show k < 2147483648 by omega) (show 0 < 4 by decide) (show 4 < 2147483648 by decide), y', bk209_84, nI_mulS, nI_add, w2, bk209_91, Option.bind_some, bct_v, bct_t, otl_s, otl_n, List.cons_append, List.nil_append, List.getElem?_cons_zero, List.getElem?_cons_succ, ↓reduceIte]
theorem it209b (hJ : gJ w g) (hp : mpo mp) (h : Mkv w g i a (ho, po, ch, lo, ac, bu, sl, may, mp)) {k : Nat} (hk : k < 144) {F : Nat → Int32} (hF : mR2 F (stT may mp k)) :
    ∃ F', mR2 F' (stT may mp (k + 1)) ∧ am_run 209 8 [some (.ref a), some (.int (b2i true)), some (.ref w.2.1), some (.int (nI k)), none] [] (nwr w 2 144 F) = am_run 209 8 [some (.ref a), some (.int (b2i true)), some (.ref w.2.1), some (.int (nI (k + 1))), none] [] (nwr w 2 144 F') := by
  have h' := h.ext hJ (nwr_ext (w := w) (t := 2) (n := 144) (M := F))
  have z := x174 h' (c := k / 4) (s := k % 4) (by omega) (by omega)
  obtain ⟨ma, mq, h1, h2, -⟩ := h'
  have r := h2.at hk
  have hkl := kno_le hp (k / 4) (k % 4)
  have e1 : (nI (kno mp (k / 4) (k % 4)) = nI 1) = (kno mp (k / 4) (k % 4) = 1) := nI_eqS (by omega) (by decide)
  have hm : mayF may mp true k = (may k && fitP mp (k % 4) true (k / 4)) := by rw [mayF_eq, if_pos rfl, stP_k]
  have pos : ∀ b, mayF may mp true k = b → mR2 (upd F k (b2i b)) (stT may mp (k + 1)) := fun b hb q hq => by
    by_cases c : q = k
    · subst c
      unfold stT
      rw [pk_us, decide_eq_true (Nat.lt_succ_self q), hb, Bool.true_and]
    · rw [pk_un c, hF q hq]
      unfold stT
      rw [show decide (q < k + 1) = decide (q < k) from decide_eq_decide.mpr ⟨fun h => by omega, fun h => by omega⟩]
  have F0 : F k = b2i false := by
    rw [hF k hk]
    unfold stT
    rw [decide_eq_false (Nat.lt_irrefl k)]
    rfl
  rw [bk209_8, if_neg (by rw [nI_leS (by decide) (by omega)]; omega)]
  simp only [bk209_15, gfc h1, oK_0, oK_1, oK_2, oK_3, oK_4, oK_5, oK_6, oK_7, oK_8, bk209_19, r, bk209_21, b2i_0, Option.bind_some, bct_v, bct_t, otl_s, otl_n, List.cons_append, List.nil_append, List.getElem?_cons_zero, List.getElem?_cons_succ, ↓reduceIte]
  cases em : may k with
  | false =>
    rw [em, Bool.false_and] at hm
    refine ⟨F, fun q hq => ?_, ?_⟩
    · have p := pos false hm q hq
      by_cases c : q = k
      · subst c
        rw [pk_us] at p
        rw [F0, p]
      · rw [pk_un c] at p
        exact p
    · rw [if_neg (fun q => q rfl), bk209_24, bk209_91, nI_add]
  | true =>
    rw [em, Bool.true_and] at hm
    have rf := ric (nwr_at (w := w) (t := 2) (n := 144) (M := F)) (i := k) rfl hk (by decide)
    rw [F0] at rf
    have rf' : am_ri 2 (nwr w 2 144 F) w.2.1 (nI k) = some (b2i false) := rf
    rw [if_pos (fun q => nomatch q)]
    simp only [bk209_27, nI_divS (show k < 2147483648 by omega) (show 0 < 4 by decide) (show 4 < 2147483648 by decide), nI_remS (show k < 2147483648 by omega) (show 0 < 4 by decide) (show 4 < 2147483648 by decide), z, bk209_37, b2i_0, reduceCtorEq, bk209_43, rf', bk209_47, e1, Option.bind_some, bct_v, bct_t, otl_s, otl_n, List.cons_append, List.nil_append, List.getElem?_cons_zero, List.getElem?_cons_succ, ↓reduceIte]
    by_cases q1 : kno mp (k / 4) (k % 4) = 1
    · have hm' : mayF may mp true k = false := by
        rw [hm]
        unfold fitP
        rw [q1]
        rfl
      have w1 := nwr_put (w := w) (t := 2) (n := 144) (k := k) (M := F) (v := b2i false) hk (by decide)
      have o : b2i false ||| nI 0 = b2i false := bor_b false false
      refine ⟨upd F k (b2i false), pos false hm', ?_⟩
      rw [if_pos q1]
      simp only [bk209_57, bk209_58, o, nar_b, w1, bk209_60, bk209_91, nI_add, Option.bind_some, bct_v, bct_t, otl_s, otl_n, List.cons_append, List.nil_append, List.getElem?_cons_zero, List.getElem?_cons_succ, ↓reduceIte]
    · have hm' : mayF may mp true k = true := by
        rw [hm]
        unfold fitP
        show (!(kno mp (k / 4) (k % 4) == 1)) = true
        simpa using q1
      have w1 := nwr_put (w := w) (t := 2) (n := 144) (k := k) (M := F) (v := b2i true) hk (by decide)
      have o : b2i false ||| nI 1 = b2i true := bor_b false true
      refine ⟨upd F k (b2i true), pos true hm', ?_⟩
      rw [if_neg q1]
      simp only [bk209_53, bk209_58, o, nar_b, w1, bk209_60, bk209_91, nI_add, Option.bind_some, bct_v, bct_t, otl_s, otl_n, List.cons_append, List.nil_append, List.getElem?_cons_zero, List.getElem?_cons_succ, ↓reduceIte]
theorem x209 (hJ : gJ w g) (hp : mpo mp) (h : Mkv w g i a (ho, po, ch, lo, ac, bu, sl, may, mp)) (b : Bool) : ∃ F, mR2 F (mayF may mp b) ∧ am_x 209 [.ref a, .int (b2i b)] w = some (.inl (some (.ref w.2.1)), nwr w 2 144 F) := by
  rw [bx209, bk209_0, na_nwr (by decide) rfl]
  show ∃ F, mR2 F (mayF may mp b) ∧ am_run 209 5 _ _ (nwr w 2 144 (fun _ => 0)) = _
  rw [bk209_5]
  cases b with
  | false =>
    obtain ⟨F, f1, e⟩ := loopN (n := 144) (Q := fun k F => am_run 209 8 [some (.ref a), some (.int (b2i false)), some (.ref w.2.1), some (.int (nI k)), none] [] (nwr w 2 144 F)) (I := fun k F => mR2 F (stF may mp k)) (b := fun _ => 0) (fun q hq => by rw [stF_0]; rfl) (fun k F hk hI => it209 hJ hp h hk hI)
    refine ⟨F, fun q hq => (f1 q hq).trans (congrArg b2i (stF_all hq)), e.trans ?_⟩
    try dsimp only
    rw [bk209_8, if_pos (by rw [nI_leS (by decide) (by decide)]; decide), bk209_97]
  | true =>
    obtain ⟨F, f1, e⟩ := loopN (n := 144) (Q := fun k F => am_run 209 8 [some (.ref a), some (.int (b2i true)), some (.ref w.2.1), some (.int (nI k)), none] [] (nwr w 2 144 F)) (I := fun k F => mR2 F (stT may mp k)) (b := fun _ => 0) (fun q hq => by unfold stT; rw [decide_eq_false (Nat.not_lt_zero q)]; rfl) (fun k F hk hI => it209b hJ hp h hk hI)
    refine ⟨F, fun q hq => (f1 q hq).trans (by unfold stT; rw [decide_eq_true hq, Bool.true_and]), e.trans ?_⟩
    try dsimp only
    rw [bk209_8, if_pos (by rw [nI_leS (by decide) (by decide)]; decide), bk209_97]
theorem told_b2 {t k : Nat} (ht : t < 8) (hk : k < 3) : ((bj_ishr (nI t) (nI k) &&& nI 1) = nI 1) = (t.testBit k = true) := by
  have h : ∀ t : Fin 8, ∀ k : Fin 3, ((bj_ishr (nI t.val) (nI k.val) &&& nI 1) = nI 1 ↔ t.val.testBit k.val = true) := by decide +kernel
  exact propext (h ⟨t, ht⟩ ⟨k, hk⟩)
/-- one of the three sides of a pose -/
theorem side211 (hJ : gJ w g) (hp : mpo mp) (h : Mkv w g i a (ho, po, ch, lo, ac, bu, sl, may, mp)) {t p k : Nat} (ht : t < 8) (hpp : p < 144) (hk : k < 3) {F : Nat → Int32} {b : Bool} (hF : F p = b2i b) :
    am_run 211 27 [some (.ref a), some (.int (nI t)), some (.ref w.2.1), some (.int (nI p)), some (.int (nI k)), none] [] (nwr w 2 144 F) = am_run 211 27 [some (.ref a), some (.int (nI t)), some (.ref w.2.1), some (.int (nI p)), some (.int (nI (k + 1))), none] [] (nwr w 2 144 (upd F p (b2i (b && fitP mp ((p % 4 + 3 + k) % 4) (t.testBit k) (p / 4))))) := by
  have h' := h.ext hJ (nwr_ext (w := w) (t := 2) (n := 144) (M := F))
  have z := x174 h' (c := p / 4) (s := (p % 4 + 3 + k) % 4) (by omega) (by omega)
  have es : (p + 3 + k) % 4 = (p % 4 + 3 + k) % 4 := by omega
  have rf := ric (nwr_at (w := w) (t := 2) (n := 144) (M := F)) (i := p) rfl hpp (by decide)
  rw [hF] at rf
  have rf' : am_ri 2 (nwr w 2 144 F) w.2.1 (nI p) = some (b2i b) := rf
  have hkl := kno_le hp (p / 4) ((p % 4 + 3 + k) % 4)
  have fin : ∀ y, fitP mp ((p % 4 + 3 + k) % 4) (t.testBit k) (p / 4) = y → am_run 211 93 [some (.ref a), some (.int (nI t)), some (.ref w.2.1), some (.int (nI p)), some (.int (nI k)), none] [.int (b2i y), .int (b2i b), .int (nI p), .ref w.2.1] (nwr w 2 144 F) = am_run 211 27 [some (.ref a), some (.int (nI t)), some (.ref w.2.1), some (.int (nI p)), some (.int (nI (k + 1))), none] [] (nwr w 2 144 (upd F p (b2i (b && fitP mp ((p % 4 + 3 + k) % 4) (t.testBit k) (p / 4))))) := by
    intro y hy
    have w1 := nwr_put (w := w) (t := 2) (n := 144) (k := p) (M := F) (v := b2i (b && y)) hpp (by decide)
    rw [hy]
    simp only [bk211_93, and1_b, nar_b, w1, bk211_95, nI_add, Option.bind_some, bct_v, bct_t, otl_s, otl_n, List.cons_append, List.nil_append, List.getElem?_cons_zero, List.getElem?_cons_succ, ↓reduceIte]
  rw [bk211_27, if_neg (by rw [nI_leS (by decide) (by omega)]; omega)]
  simp only [bk211_33, nI_divS (show p < 2147483648 by omega) (show 0 < 4 by decide) (show 4 < 2147483648 by decide), nI_add, nI_remS (show p + 3 + k < 2147483648 by omega) (show 0 < 4 by decide) (show 4 < 2147483648 by decide), es, z, bk211_48, rf', bk211_54, Option.bind_some, bct_v, bct_t, otl_s, otl_n, List.cons_append, List.nil_append, List.getElem?_cons_zero, List.getElem?_cons_succ, ↓reduceIte]
  rcases (show kno mp (p / 4) ((p % 4 + 3 + k) % 4) = 0 ∨ kno mp (p / 4) ((p % 4 + 3 + k) % 4) = 1 ∨ kno mp (p / 4) ((p % 4 + 3 + k) % 4) = 2 by omega) with q | q | q
  · rw [q, if_pos rfl, bk211_88]
    refine fin true ?_
    unfold fitP
    rw [q]
    cases t.testBit k <;> rfl
  · rw [q, if_neg (by decide), bk211_59, if_pos (by decide), bk211_69, bk211_70]
    simp only [told_b2 ht hk]
    have ff : fitP mp ((p % 4 + 3 + k) % 4) (t.testBit k) (p / 4) = !(t.testBit k) := by
      unfold fitP
      rw [q]
      cases t.testBit k <;> rfl
    cases e : t.testBit k with
    | true =>
      rw [e] at ff
      rw [if_neg (fun y => y rfl), bk211_80, bk211_85, if_pos (by decide), bk211_92]
      rw [← e]
      exact fin false (by rw [e]; exact ff)
    | false =>
      rw [e] at ff
      rw [if_pos (fun y => nomatch y), bk211_84, bk211_85, if_neg (by decide), bk211_88]
      rw [← e]
      exact fin true (by rw [e]; exact ff)
  · rw [q, if_neg (by decide), bk211_59, if_neg (by decide), bk211_65, bk211_70]
    simp only [told_b2 ht hk]
    have ff : fitP mp ((p % 4 + 3 + k) % 4) (t.testBit k) (p / 4) = t.testBit k := by
      unfold fitP
      rw [q]
      cases t.testBit k <;> rfl
    cases e : t.testBit k with
    | true =>
      rw [e] at ff
      rw [if_neg (fun y => y rfl), bk211_80, bk211_85, if_neg (by decide), bk211_88]
      rw [← e]
      exact fin true (by rw [e]; exact ff)
    | false =>
      rw [e] at ff
      rw [if_pos (fun y => nomatch y), bk211_84, bk211_85, if_pos (by decide), bk211_92]
      rw [← e]
      exact fin false (by rw [e]; exact ff)
theorem sid211 (hJ : gJ w g) (hp : mpo mp) (h : Mkv w g i a (ho, po, ch, lo, ac, bu, sl, may, mp)) {t p k : Nat} (ht : t < 8) (hpp : p < 144) (hk : k < 3) {F : Nat → Int32} {b : Bool} (hF : F p = b2i b) :
    ∃ F', F' p = b2i (b && fitP mp ((p % 4 + 3 + k) % 4) (t.testBit k) (p / 4)) ∧ (∀ q, q ≠ p → F' q = F q) ∧ am_run 211 27 [some (.ref a), some (.int (nI t)), some (.ref w.2.1), some (.int (nI p)), some (.int (nI k)), none] [] (nwr w 2 144 F) = am_run 211 27 [some (.ref a), some (.int (nI t)), some (.ref w.2.1), some (.int (nI p)), some (.int (nI (k + 1))), none] [] (nwr w 2 144 F') :=
  ⟨_, pk_us .., fun q hq => pk_un hq, side211 hJ hp h ht hpp hk hF⟩
theorem it211 (hJ : gJ w g) (hp : mpo mp) (h : Mkv w g i a (ho, po, ch, lo, ac, bu, sl, may, mp)) {t p : Nat} (ht : t < 8) (hpp : p < 144) {F : Nat → Int32} (hF : ∀ q, q < p → F q = b2i (mayL may mp t q)) :
    ∃ F', (∀ q, q < p + 1 → F' q = b2i (mayL may mp t q)) ∧ am_run 211 8 [some (.ref a), some (.int (nI t)), some (.ref w.2.1), some (.int (nI p)), none, none] [] (nwr w 2 144 F) = am_run 211 8 [some (.ref a), some (.int (nI t)), some (.ref w.2.1), some (.int (nI (p + 1))), none, none] [] (nwr w 2 144 F') := by
  have h' := h.ext hJ (nwr_ext (w := w) (t := 2) (n := 144) (M := F))
  obtain ⟨ma, mq, h1, h2, -⟩ := h'
  have r := h2.at hpp
  have w1 := nwr_put (w := w) (t := 2) (n := 144) (k := p) (M := F) (v := b2i (may p)) hpp (by decide)
  obtain ⟨F1, a1, b1, s0⟩ := sid211 hJ hp h ht hpp (k := 0) (by decide) (F := upd F p (b2i (may p))) (b := may p) (pk_us ..)
  obtain ⟨F2, a2, b2, s1⟩ := sid211 hJ hp h ht hpp (k := 1) (by decide) a1
  obtain ⟨F3, a3, b3, s2⟩ := sid211 hJ hp h ht hpp (k := 2) (by decide) a2
  refine ⟨F3, fun q hq => ?_, ?_⟩
  · by_cases c : q = p
    · subst c
      rw [a3]
      unfold mayL feltP
      rw [show 4 * (q / 4) + q % 4 = q by omega]
    · rw [b3 q c, b2 q c, b1 q c, pk_un c]
      exact hF q (by omega)
  · rw [bk211_8, if_neg (by rw [nI_leS (by decide) (by omega)]; omega)]
    simp only [bk211_15, gfc h1, oK_0, oK_1, oK_2, oK_3, oK_4, oK_5, oK_6, oK_7, oK_8, bk211_21, r, bk211_23, nar_b, w1, bk211_24, Option.bind_some, bct_v, bct_t, otl_s, otl_n, List.cons_append, List.nil_append, List.getElem?_cons_zero, List.getElem?_cons_succ, ↓reduceIte]
    rw [s0, s1, s2, bk211_27, if_pos (by rw [nI_leS (by decide) (by decide)]; decide), bk211_101, nI_add]
theorem x211 (hJ : gJ w g) (hp : mpo mp) (h : Mkv w g i a (ho, po, ch, lo, ac, bu, sl, may, mp)) {t : Nat} (ht : t < 8) : ∃ F, mR2 F (mayL may mp t) ∧ am_x 211 [.ref a, .int (nI t)] w = some (.inl (some (.ref w.2.1)), nwr w 2 144 F) := by
  rw [bx211, bk211_0, na_nwr (by decide) rfl]
  show ∃ F, mR2 F (mayL may mp t) ∧ am_run 211 5 _ _ (nwr w 2 144 (fun _ => 0)) = _
  rw [bk211_5]
  obtain ⟨F, f1, e⟩ := loopN (n := 144) (Q := fun k F => am_run 211 8 [some (.ref a), some (.int (nI t)), some (.ref w.2.1), some (.int (nI k)), none, none] [] (nwr w 2 144 F)) (I := fun k F => ∀ q, q < k → F q = b2i (mayL may mp t q)) (b := fun _ => 0) (fun q hq => absurd hq (by omega)) (fun k F hk hI => it211 hJ hp h ht hk hI)
  refine ⟨F, f1, e.trans ?_⟩
  try dsimp only
  rw [bk211_8, if_pos (by rw [nI_leS (by decide) (by decide)]; decide), bk211_107]
end MAY
