/-! THE REFERENCE: rows that are made: how far, what may be. Mine. -/
/-- a new row of whole numbers, with that in it -/
def nwr (w : am_Wd) (t n : Nat) (M : Nat → Int32) : am_Wd := am_pt (am_nw w (.inl (t, n, am_in t)) n) w.2.1 (.inl (t, n, .inl M))
theorem nwr_at {w : am_Wd} {t n : Nat} {M : Nat → Int32} : cI (nwr w t n M) w.2.1 t n M := pt_s
theorem nwr_ext {w : am_Wd} {t n : Nat} {M : Nat → Int32} : ext w (nwr w t n M) 1 n := ext_pt ext_nw (Nat.le_refl _)
theorem nwr_put {w : am_Wd} {t n k : Nat} {M : Nat → Int32} {v : Int32} (hk : k < n) (hn : n < 2147483648) : am_wi t (nwr w t n M) w.2.1 (nI k) v = some (nwr w t n (upd M k v)) := by
  rw [wic nwr_at hk hn]
  unfold nwr
  rw [pt_pt]
theorem nwr_0 {w : am_Wd} {t n : Nat} (ht : am_in t = .inl (fun _ => 0)) : am_nw w (.inl (t, n, am_in t)) n = nwr w t n (fun _ => 0) := by
  unfold nwr
  rw [pt_id]
  rw [nw_s, ht]
theorem upd_b {p : Nat → Bool} {k : Nat} {b : Bool} : upd (fun s => b2i (p s)) k (b2i b) = fun s => b2i (up p k b s) := upB p k b
/-! how far each cell is -/
def lnk (mp : Nat → Nat) (f far c s d : Nat) : Bool := fst1 (far + 1) (fun k => rch mp f k c) == some far && kno mp c s == 1 && nb c s == some d
def cov (mp : Nat → Nat) (f far : Nat) : Nat → Nat → Bool
  | 0, _ => false
  | j + 1, d => cov mp f far j d || lnk mp f far (j / 4) (j % 4) d
def Dj (mp : Nat → Nat) (f far j d : Nat) : Option Nat := match fst1 (far + 1) (fun k => rch mp f k d) with
  | some k => some k
  | none => if cov mp f far j d = true then some (far + 1) else none
theorem cov_iff {mp : Nat → Nat} {f far d : Nat} : ∀ j, cov mp f far j d = true ↔ ∃ i, i < j ∧ lnk mp f far (i / 4) (i % 4) d = true
  | 0 => ⟨fun h => (nomatch h), fun ⟨i, hi, _⟩ => absurd hi (by omega)⟩
  | j + 1 => by
    show (cov mp f far j d || lnk mp f far (j / 4) (j % 4) d) = true ↔ _
    rw [Bool.or_eq_true, cov_iff j]
    constructor
    · rintro (⟨i, h1, h2⟩ | h)
      · exact ⟨i, by omega, h2⟩
      · exact ⟨j, by omega, h⟩
    · rintro ⟨i, h1, h2⟩
      by_cases e : i = j
      · subst e; exact Or.inr h2
      · exact Or.inl ⟨i, by omega, h2⟩
theorem rch_mono {mp : Nat → Nat} {f d : Nat} {k : Nat} (h : rch mp f k d = true) : rch mp f (k + 1) d = true := by
  show stepR mp (rch mp f k) d = true
  unfold stepR
  rw [h]
  rfl
/-- one step from a cell -/
theorem rch_step {mp : Nat → Nat} {f c s d k : Nat} (hc : c < 36) (hs : s < 4) (h : rch mp f k c = true) (h1 : kno mp c s = 1) (h2 : nb c s = some d) : rch mp f (k + 1) d = true := by
  show stepR mp (rch mp f k) d = true
  have hb := (nb_back hc hs h2).1
  have e : mvd (freeM mp (rch mp f k) s) s d = true := by
    unfold mvd
    rw [hb]
    show (rch mp f k c && kno mp c s == 1) = true
    rw [h, h1]
    rfl
  unfold stepR
  rcases (show s = 0 ∨ s = 1 ∨ s = 2 ∨ s = 3 by omega) with rfl | rfl | rfl | rfl <;> rw [e] <;> simp
theorem rch_back {mp : Nat → Nat} {f d k : Nat} (hd : d < 36) (h : rch mp f (k + 1) d = true) : rch mp f k d = true ∨ ∃ c s, c < 36 ∧ s < 4 ∧ rch mp f k c = true ∧ kno mp c s = 1 ∧ nb c s = some d := by
  have h : stepR mp (rch mp f k) d = true := h
  have one : ∀ s, s < 4 → mvd (freeM mp (rch mp f k) s) s d = true → ∃ c s, c < 36 ∧ s < 4 ∧ rch mp f k c = true ∧ kno mp c s = 1 ∧ nb c s = some d := by
    intro s hs hm
    unfold mvd at hm
    cases e : nb d ((s + 2) % 4) with
    | none => rw [e] at hm; cases hm
    | some c =>
      rw [e] at hm
      have hm : (rch mp f k c && kno mp c s == 1) = true := hm
      obtain ⟨m1, m2⟩ := Bool.and_eq_true_iff.mp hm
      have hc := nb_lt hd (by omega) e
      have hb := (nb_back hd (show (s + 2) % 4 < 4 by omega) e).1
      rw [show ((s + 2) % 4 + 2) % 4 = s by omega] at hb
      exact ⟨c, s, hc, hs, m1, beq_iff_eq.mp m2, hb⟩
  unfold stepR at h
  simp only [Bool.or_eq_true] at h
  rcases h with (((h | h) | h) | h) | h
  · exact Or.inl h
  · exact Or.inr (one 0 (by decide) h)
  · exact Or.inr (one 1 (by decide) h)
  · exact Or.inr (one 2 (by decide) h)
  · exact Or.inr (one 3 (by decide) h)
theorem Dj_next {mp : Nat → Nat} {f far d : Nat} (hd : d < 36) : Dj mp f far 144 d = Dj mp f (far + 1) 0 d := by
  unfold Dj
  show _ = (match fst1 (far + 1 + 1) (fun k => rch mp f k d) with | some k => some k | none => if false = true then _ else none)
  rw [show fst1 (far + 1 + 1) (fun k => rch mp f k d) = (match fst1 (far + 1) (fun k => rch mp f k d) with | some c => some c | none => if rch mp f (far + 1) d = true then some (far + 1) else none) from rfl]
  cases e : fst1 (far + 1) (fun k => rch mp f k d) with
  | some k => rfl
  | none =>
    have hn := fst1_none e
    have eq : cov mp f far 144 d = rch mp f (far + 1) d := by
      apply Bool.eq_iff_iff.mpr
      rw [cov_iff]
      constructor
      · rintro ⟨i, hi, hl⟩
        unfold lnk at hl
        simp only [Bool.and_eq_true, beq_iff_eq] at hl
        obtain ⟨⟨l1, l2⟩, l3⟩ := hl
        exact rch_step (by omega) (by omega) (fst1_some l1).2.1 l2 l3
      · intro h
        rcases rch_back hd h with h | ⟨c, s, hc, hs, r1, r2, r3⟩
        · rw [hn far (by omega)] at h
          cases h
        · refine ⟨4 * c + s, by omega, ?_⟩
          rw [show (4 * c + s) / 4 = c by omega, show (4 * c + s) % 4 = s by omega]
          unfold lnk
          have e1 : fst1 (far + 1) (fun k => rch mp f k c) = some far := fst1_is (by omega) r1 fun j hj => by
            cases q : rch mp f j c with
            | false => rfl
            | true =>
              have := rch_step hc hs q r2 r3
              rw [hn (j + 1) (by omega)] at this
              cases this
          rw [e1, r2, r3]
          simp
    rw [eq]
    by_cases h : rch mp f (far + 1) d = true
    · simp only [if_pos h]
    · simp only [if_neg h]
      rfl
/-- no way is longer than 35 -/
theorem cnt_le2 {p q : Nat → Bool} : ∀ n, (∀ c, c < n → p c = true → q c = true) → cnt n p ≤ cnt n q ∧ ((∃ c, c < n ∧ q c = true ∧ p c = false) → cnt n p + 1 ≤ cnt n q)
  | 0, _ => ⟨Nat.le_refl 0, fun ⟨c, h, _⟩ => absurd h (by omega)⟩
  | n + 1, h => by
    obtain ⟨h1, h2⟩ := cnt_le2 n (fun c hc => h c (by omega))
    have hn := h n (by omega)
    show cnt n p + (if p n = true then 1 else 0) ≤ cnt n q + (if q n = true then 1 else 0) ∧ (_ → cnt n p + (if p n = true then 1 else 0) + 1 ≤ cnt n q + (if q n = true then 1 else 0))
    refine ⟨?_, fun ⟨c, c1, c2, c3⟩ => ?_⟩
    · by_cases e : p n = true
      · rw [if_pos e, if_pos (hn e)]; omega
      · rw [if_neg e]; omega
    · by_cases e : c = n
      · subst e
        rw [if_pos c2, if_neg (by rw [c3]; decide)]
        omega
      · have := h2 ⟨c, by omega, c2, c3⟩
        by_cases e : p n = true
        · rw [if_pos e, if_pos (hn e)]; omega
        · rw [if_neg e]; omega
theorem step_cg {mp : Nat → Nat} {p q : Nat → Bool} (h : ∀ c, c < 36 → p c = q c) {d : Nat} (hd : d < 36) : stepR mp p d = stepR mp q d := by
  have e : ∀ s, s < 4 → mvd (freeM mp p s) s d = mvd (freeM mp q s) s d := by
    intro s hs
    unfold mvd
    cases e : nb d ((s + 2) % 4) with
    | none => rfl
    | some c =>
      have hc := nb_lt hd (by omega) e
      show freeM mp p s c = freeM mp q s c
      unfold freeM
      rw [h c hc]
  unfold stepR
  rw [h d hd, e 0 (by decide), e 1 (by decide), e 2 (by decide), e 3 (by decide)]
theorem rch_stab {mp : Nat → Nat} {f k : Nat} (h : ∀ d, d < 36 → rch mp f (k + 1) d = rch mp f k d) : ∀ j, k ≤ j → ∀ d, d < 36 → rch mp f (j + 1) d = rch mp f j d := by
  intro j hj
  induction j with
  | zero => rw [show k = 0 by omega] at h; exact h
  | succ j ih =>
    by_cases e : k = j + 1
    · rw [← e]; exact h
    · intro d hd
      exact step_cg (ih (by omega)) hd
theorem rch_36 {mp : Nat → Nat} {f d : Nat} (hf : f < 36) (hd : d < 36) : rch mp f 36 d = rch mp f 35 d := by
  by_cases h : ∃ k, k ≤ 35 ∧ ∀ d, d < 36 → rch mp f (k + 1) d = rch mp f k d
  · obtain ⟨k, hk, h⟩ := h
    exact rch_stab h 35 hk d hd
  · exfalso
    have gr : ∀ k, k ≤ 36 → k + 1 ≤ cnt 36 (rch mp f k) := by
      intro k
      induction k with
      | zero =>
        intro _
        have := (cnt_le2 (p := fun _ => false) (q := rch mp f 0) 36 (fun _ _ q => nomatch q)).2 ⟨f, hf, decide_eq_true (rfl : f = f), rfl⟩
        omega
      | succ k ih =>
        intro hk
        have i1 := ih (by omega)
        have := (cnt_le2 (p := rch mp f k) (q := rch mp f (k + 1)) 36 (fun _ _ q => rch_mono q)).2 (by
          apply Classical.byContradiction
          intro hn
          refine h ⟨k, by omega, fun d hd => ?_⟩
          cases q : rch mp f (k + 1) d with
          | false =>
            cases q2 : rch mp f k d with
            | false => rfl
            | true => rw [rch_mono q2] at q; cases q
          | true =>
            cases q2 : rch mp f k d with
            | true => rfl
            | false => exact absurd ⟨d, hd, q, q2⟩ hn)
        omega
    have := gr 36 (Nat.le_refl 36)
    have := cnt_le (rch mp f 36) 36
    omega
theorem Dj_way {mp : Nat → Nat} {f d : Nat} (hf : f < 36) (hd : d < 36) : Dj mp f 35 144 d = wayS mp f d := by
  rw [Dj_next hd]
  unfold Dj wayS
  show (match fst1 37 (fun k => rch mp f k d) with | some k => some k | none => if false = true then _ else none) = _
  rw [show fst1 37 (fun k => rch mp f k d) = (match fst1 36 (fun k => rch mp f k d) with | some c => some c | none => if rch mp f 36 d = true then some 36 else none) from rfl]
  cases e : fst1 36 (fun k => rch mp f k d) with
  | some k => rfl
  | none =>
    have := fst1_none e 35 (by decide)
    rw [if_neg (by rw [rch_36 hf hd, this]; decide)]
    rfl
def okD (M : Nat → Int32) (D : Nat → Option Nat) : Prop := ∀ c, c < 36 → M c = no (D c)
theorem Dj_le {mp : Nat → Nat} {f far j d k : Nat} (h : Dj mp f far j d = some k) : k ≤ far + 1 := by
  unfold Dj at h
  cases e : fst1 (far + 1) (fun k => rch mp f k d) with
  | some c =>
    rw [e] at h
    have := (fst1_some e).1
    have : some c = some k := h
    cases this
    omega
  | none =>
    rw [e] at h
    have h : (if cov mp f far j d = true then some (far + 1) else none) = some k := h
    by_cases q : cov mp f far j d = true
    · rw [if_pos q] at h; cases h; omega
    · rw [if_neg q] at h; cases h
theorem Dj_far {mp : Nat → Nat} {f far j d : Nat} : (Dj mp f far j d = some far) = (fst1 (far + 1) (fun k => rch mp f k d) = some far) := by
  unfold Dj
  cases e : fst1 (far + 1) (fun k => rch mp f k d) with
  | some c => rfl
  | none =>
    refine propext ⟨fun h => ?_, fun h => (nomatch h)⟩
    have h : (if cov mp f far j d = true then some (far + 1) else none) = some far := h
    by_cases q : cov mp f far j d = true
    · rw [if_pos q] at h
      have := Option.some.inj h
      omega
    · rw [if_neg q] at h; cases h
theorem no_eq {o : Option Nat} {k n : Nat} (ho : ∀ j, o = some j → j ≤ n) (hn : n < 2147483648) (hk : k < 2147483648) : (no o = nI k) = (o = some k) := by
  cases o with
  | none =>
    refine propext ⟨fun h => ?_, fun h => (nomatch h)⟩
    have : nI k = (-1 : Int32) := h.symm
    rw [nI_m1S hk] at this
    exact this.elim
  | some j =>
    have := ho j rfl
    show (nI j = nI k) = _
    rw [nI_eqS (by omega) hk]
    exact propext ⟨fun h => by rw [h], fun h => Option.some.inj h⟩
section FAR
variable {w : am_Wd} {g : Nat → Nat} {i a ho po ch : Nat} {lo ac bu sl : Int32} {may : Nat → Bool} {mp : Nat → Nat}
theorem it208 (hJ : gJ w g) (hp : mpo mp) (h : Mkv w g i a (ho, po, ch, lo, ac, bu, sl, may, mp)) {f far c s : Nat} (hc : c < 36) (hs : s < 4) (hfar : far < 36) {M : Nat → Int32} (hM : okD M (Dj mp f far (4 * c + s))) (hD : Dj mp f far (4 * c + s) c = some far) :
    ∃ M', okD M' (Dj mp f far (4 * c + s + 1)) ∧ am_run 208 59 [none, some (.ref a), none, some (.ref w.2.1), some (.int (nI far)), some (.int (nI c)), some (.int (nI s))] [] (nwr w 0 36 M) = am_run 208 59 [none, some (.ref a), none, some (.ref w.2.1), some (.int (nI far)), some (.int (nI c)), some (.int (nI (s + 1)))] [] (nwr w 0 36 M') := by
  have h' := h.ext hJ (nwr_ext (w := w) (t := 0) (n := 36) (M := M))
  have r := ric (nwr_at (w := w) (t := 0) (n := 36) (M := M)) (i := c) rfl hc (by decide)
  rw [hM c hc, hD] at r
  have r' : am_ri 0 (nwr w 0 36 M) w.2.1 (nI c) = some (nI far) := r
  have z := x174 h' hc hs
  have x1 := x100 (w := nwr w 0 36 M) hc hs
  have D1 : fst1 (far + 1) (fun k => rch mp f k c) = some far := Dj_far.mp hD
  have dv : (4 * c + s) / 4 = c := by omega
  have dm : (4 * c + s) % 4 = s := by omega
  have Dnext : ∀ d, Dj mp f far (4 * c + s + 1) d = match fst1 (far + 1) (fun k => rch mp f k d) with | some k => some k | none => if (cov mp f far (4 * c + s) d || lnk mp f far c s d) = true then some (far + 1) else none := by
    intro d
    unfold Dj
    show (match fst1 (far + 1) (fun k => rch mp f k d) with | some k => some k | none => if (cov mp f far (4 * c + s) d || lnk mp f far ((4 * c + s) / 4) ((4 * c + s) % 4) d) = true then some (far + 1) else none) = _
    rw [dv, dm]
  rw [bk208_59, if_neg (by rw [nI_leS (by decide) (by omega)]; omega)]
  by_cases k1 : kno mp c s = 1
  · cases e : nb c s with
    | none =>
      exfalso
      unfold kno at k1
      rw [e] at k1
      cases k1
    | some d =>
      have hd := nb_lt hc hs e
      rw [e] at x1
      have x1' : am_x 100 [.int (nI c), .int (nI s)] (nwr w 0 36 M) = some (.inl (some (.int (nI d))), nwr w 0 36 M) := x1
      rw [k1] at z
      have rd := ric (nwr_at (w := w) (t := 0) (n := 36) (M := M)) (i := d) rfl hd (by decide)
      rw [hM d hd] at rd
      have hl : ∀ x, lnk mp f far c s x = decide (x = d) := by
        intro x
        unfold lnk
        rw [D1, k1, e]
        by_cases q : x = d
        · subst q; simp
        · rw [decide_eq_false q]
          have : ¬ d = x := fun y => q y.symm
          simp [this]
      cases q : Dj mp f far (4 * c + s) d with
      | some k =>
        have hk := Dj_le q
        rw [q] at rd
        have rd' : am_ri 0 (nwr w 0 36 M) w.2.1 (nI d) = some (nI k) := rd
        refine ⟨M, fun x hx => ?_, ?_⟩
        · rw [hM x hx, Dnext x, hl x]
          by_cases y : x = d
          · subst y
            rw [q]
            unfold Dj at q
            cases e2 : fst1 (far + 1) (fun k => rch mp f k x) with
            | some k2 => rw [e2] at q; exact congrArg no q.symm
            | none =>
              rw [e2] at q
              have q : (if cov mp f far (4 * c + s) x = true then some (far + 1) else none) = some k := q
              by_cases y2 : cov mp f far (4 * c + s) x = true
              · rw [if_pos y2] at q
                show _ = no (if (cov mp f far (4 * c + s) x || decide (x = x)) = true then some (far + 1) else none)
                rw [y2, if_pos (by simp), q]
              · rw [if_neg y2] at q; cases q
          · rw [decide_eq_false y, Bool.or_false]
            rfl
        · simp only [bk208_65, r', bk208_69, not_true_eq_false, bk208_74, z, bk208_82, bk208_86, x1', bk208_94, rd', bk208_95, nI_m1S (show k < 2147483648 by omega), not_false_eq_true, bk208_112, nI_add, Option.bind_some, bct_v, bct_t, otl_s, otl_n, List.cons_append, List.nil_append, List.getElem?_cons_zero, List.getElem?_cons_succ, ↓reduceIte]
      | none =>
        rw [q] at rd
        have rd' : am_ri 0 (nwr w 0 36 M) w.2.1 (nI d) = some (-1) := rd
        have pw := nwr_put (w := w) (t := 0) (n := 36) (k := d) (M := M) (v := nI (far + 1)) hd (by decide)
        refine ⟨upd M d (nI (far + 1)), fun x hx => ?_, ?_⟩
        · rw [Dnext x, hl x]
          by_cases y : x = d
          · subst y
            rw [pk_us]
            unfold Dj at q
            cases e2 : fst1 (far + 1) (fun k => rch mp f k x) with
            | some k2 => rw [e2] at q; cases q
            | none =>
              show _ = no (if (cov mp f far (4 * c + s) x || decide (x = x)) = true then some (far + 1) else none)
              rw [decide_eq_true rfl, Bool.or_true, if_pos rfl]
              rfl
          · rw [pk_un y, hM x hx, decide_eq_false y, Bool.or_false]
            rfl
        · simp only [bk208_65, r', bk208_69, not_true_eq_false, bk208_74, z, bk208_82, bk208_86, x1', bk208_94, rd', bk208_95, bk208_99, bk208_107, nI_add, pw, bk208_112, Option.bind_some, bct_v, bct_t, otl_s, otl_n, List.cons_append, List.nil_append, List.getElem?_cons_zero, List.getElem?_cons_succ, ↓reduceIte]
  · have k2 : (nI (kno mp c s) = nI 1) = False := by
      have hk := kno_le hp c s
      rw [nI_eqS (by omega) (by decide)]
      exact eq_false k1
    refine ⟨M, fun x hx => ?_, ?_⟩
    · rw [hM x hx, Dnext x]
      have : lnk mp f far c s x = false := by
        unfold lnk
        have : (kno mp c s == 1) = false := by
          cases y : (kno mp c s == 1) with
          | false => rfl
          | true => exact absurd (beq_iff_eq.mp y) k1
        rw [this]
        simp
      rw [this, Bool.or_false]
      rfl
    · simp only [bk208_65, r', bk208_69, not_true_eq_false, bk208_74, z, bk208_82, k2, not_false_eq_true, bk208_112, nI_add, Option.bind_some, bct_v, bct_t, otl_s, otl_n, List.cons_append, List.nil_append, List.getElem?_cons_zero, List.getElem?_cons_succ, ↓reduceIte]
end FAR
