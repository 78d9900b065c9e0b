/-! THE REFERENCE: the goal. Mine. -/
def bsc (mp : Nat → Nat) (f : Nat) : Nat → Option Nat
  | 0 => none
  | c + 1 => if unkA mp c = true then (match wayS mp f c with
    | none => bsc mp f c
    | some k => match bsc mp f c with
      | none => some c
      | some b => match wayS mp f b with
        | none => some c
        | some kb => if kb ≤ k then some b else some c) else bsc mp f c
def isB (mp : Nat → Nat) (f n b kb : Nat) : Prop := b < n ∧ unkA mp b = true ∧ wayS mp f b = some kb ∧ ∀ c k, c < n → unkA mp c = true → wayS mp f c = some k → kb ≤ k ∧ (k = kb → b ≤ c)
theorem bsc_ok {mp : Nat → Nat} {f : Nat} : ∀ n, (bsc mp f n = none ∧ ∀ c, c < n → unkA mp c = true → wayS mp f c = none) ∨ ∃ b kb, bsc mp f n = some b ∧ isB mp f n b kb
  | 0 => Or.inl ⟨rfl, fun c h => absurd h (by omega)⟩
  | n + 1 => by
    have ih := bsc_ok (mp := mp) (f := f) n
    show ((if unkA mp n = true then _ else bsc mp f n) = none ∧ _) ∨ ∃ b kb, (if unkA mp n = true then _ else bsc mp f n) = some b ∧ _
    by_cases u : unkA mp n = true
    · rw [if_pos u]
      cases e : wayS mp f n with
      | none =>
        rcases ih with ⟨h1, h2⟩ | ⟨b, kb, h1, b1, b2, b3, b4⟩
        · refine Or.inl ⟨h1, fun c hc hu => ?_⟩
          by_cases q : c = n
          · subst q; exact e
          · exact h2 c (by omega) hu
        · refine Or.inr ⟨b, kb, h1, by omega, b2, b3, fun c k hc hu hw => ?_⟩
          by_cases q : c = n
          · subst q; rw [e] at hw; cases hw
          · exact b4 c k (by omega) hu hw
      | some k =>
        rcases ih with ⟨h1, h2⟩ | ⟨b, kb, h1, b1, b2, b3, b4⟩
        · refine Or.inr ⟨n, k, by rw [h1], by omega, u, e, fun c k' hc hu hw => ?_⟩
          by_cases q : c = n
          · subst q; rw [e] at hw; cases hw; exact ⟨Nat.le_refl _, fun _ => Nat.le_refl _⟩
          · rw [h2 c (by omega) hu] at hw; cases hw
        · rw [h1]
          dsimp only
          rw [b3]
          dsimp only
          by_cases q : kb ≤ k
          · rw [if_pos q]
            refine Or.inr ⟨b, kb, rfl, by omega, b2, b3, fun c k' hc hu hw => ?_⟩
            by_cases y : c = n
            · subst y; rw [e] at hw; cases hw; exact ⟨q, fun _ => by omega⟩
            · exact b4 c k' (by omega) hu hw
          · rw [if_neg q]
            refine Or.inr ⟨n, k, rfl, by omega, u, e, fun c k' hc hu hw => ?_⟩
            by_cases y : c = n
            · subst y; rw [e] at hw; cases hw; exact ⟨Nat.le_refl _, fun _ => Nat.le_refl _⟩
            · have := (b4 c k' (by omega) hu hw).1
              exact ⟨by omega, fun z => by omega⟩
    · rw [if_neg u]
      rcases ih with ⟨h1, h2⟩ | ⟨b, kb, h1, b1, b2, b3, b4⟩
      · refine Or.inl ⟨h1, fun c hc hu => ?_⟩
        by_cases q : c = n
        · subst q; exact absurd hu u
        · exact h2 c (by omega) hu
      · refine Or.inr ⟨b, kb, h1, by omega, b2, b3, fun c k hc hu hw => ?_⟩
        by_cases q : c = n
        · subst q; exact absurd hu u
        · exact b4 c k (by omega) hu hw
theorem bsc_goal {mp : Nat → Nat} {f : Nat} : bsc mp f 36 = goalS mp f := by
  unfold goalS
  rcases bsc_ok (mp := mp) (f := f) 36 with ⟨h1, h2⟩ | ⟨b, kb, h1, b1, b2, b3, b4⟩
  · rw [h1]
    have : fst1 36 (fun k => (fst1 36 fun c => rch mp f k c && unkA mp c).isSome) = none := fst1_no fun k hk => by
      have : fst1 36 (fun c => rch mp f k c && unkA mp c) = none := fst1_no fun c hc => by
        cases u : unkA mp c with
        | false => rw [Bool.and_false]
        | true =>
          have := fst1_none (h2 c hc u) k hk
          rw [Bool.and_true]
          exact this
      rw [this]
      rfl
    rw [this]
  · rw [h1]
    obtain ⟨w1, w2, w3⟩ := fst1_some b3
    have e2 : fst1 36 (fun c => rch mp f kb c && unkA mp c) = some b := fst1_is b1 (by
      show (rch mp f kb b && unkA mp b) = true
      rw [w2, b2]
      rfl) fun c hc => by
        cases u : unkA mp c with
        | false => rw [Bool.and_false]
        | true =>
          rw [Bool.and_true]
          cases r : rch mp f kb c with
          | false => rfl
          | true =>
            exfalso
            cases e : wayS mp f c with
            | none =>
              have := fst1_none e kb w1
              rw [r] at this
              cases this
            | some k =>
              obtain ⟨x1, x2, x3⟩ := fst1_some e
              have y := b4 c k (by omega) u e
              have : k ≤ kb := by
                rcases Nat.lt_or_ge kb k with z | z
                · have := x3 kb z
                  rw [r] at this
                  cases this
                · exact z
              have := y.2 (by omega)
              omega
    have e1 : fst1 36 (fun k => (fst1 36 fun c => rch mp f k c && unkA mp c).isSome) = some kb := fst1_is w1 (by
      show (fst1 36 fun c => rch mp f kb c && unkA mp c).isSome = true
      rw [e2]
      rfl) fun k hk => by
        have : fst1 36 (fun c => rch mp f k c && unkA mp c) = none := fst1_no fun c hc => by
          cases u : unkA mp c with
          | false => rw [Bool.and_false]
          | true =>
            rw [Bool.and_true]
            cases r : rch mp f k c with
            | false => rfl
            | true =>
              exfalso
              cases e : wayS mp f c with
              | none =>
                have := fst1_none e k (by omega)
                rw [r] at this
                cases this
              | some k' =>
                obtain ⟨x1, x2, x3⟩ := fst1_some e
                have y := (b4 c k' hc u e).1
                have := x3 k (by omega)
                rw [r] at this
                cases this
        rw [this]
        rfl
    rw [e1]
    exact e2.symm
theorem bor_b (a b : Bool) : b2i a ||| b2i b = b2i (a || b) := by cases a <;> cases b <;> decide
section GOAL
variable {w : am_Wd} {g : Nat → Nat} {m kq hq ca ba wl ed : Nat} {wad : Nat → Nat} {kd hr : Nat → Nat} {cp br : Nat → Bool} {n : Nat} {ws : Nat → sW} {th mi nd : Nat} {dr me di re : Int32}
variable {i ho po ch a : Nat} {lo ac bu sl : Int32} {may : Nat → Bool} {mp : Nat → Nat}
theorem side229 (h : Mkv w g i a (ho, po, ch, lo, ac, bu, sl, may, mp)) (hp : mpo mp) {mr : Nat} {l3 : Int32} {c s : Nat} (hc : c < 36) (hs : s < 4) (b : Bool) :
    am_run 229 41 [none, some (.ref a), some (.ref mr), some (.int l3), some (.int (nI c)), some (.int (b2i b)), some (.int (nI s))] [] w = am_run 229 41 [none, some (.ref a), some (.ref mr), some (.int l3), some (.int (nI c)), some (.int (b2i (b || unkP mp s c))), some (.int (nI (s + 1)))] [] w := by
  have z := x174 h hc hs
  have hk := kno_le hp c s
  have e0 : (nI (kno mp c s) = nI 0) = (kno mp c s = 0) := nI_eqS (by omega) (by decide)
  rw [bk229_41, if_neg (by rw [nI_leS (by decide) (by omega)]; omega)]
  simp only [bk229_47, z, bk229_57, e0, Option.bind_some, bct_v, bct_t, otl_s, otl_n, List.cons_append, List.nil_append, List.getElem?_cons_zero, List.getElem?_cons_succ, ↓reduceIte]
  unfold unkP
  by_cases q : kno mp c s = 0
  · rw [if_neg (fun y => y q)]
    simp only [bk229_60, bk229_65, nI_add, Option.bind_some, bct_v, bct_t, otl_s, otl_n, List.cons_append, List.nil_append, List.getElem?_cons_zero, List.getElem?_cons_succ, ↓reduceIte]
    have := bor_b b true
    rw [show b2i true = nI 1 from rfl] at this
    rw [this, q]
    rfl
  · rw [if_pos q]
    simp only [bk229_64, bk229_65, nI_add, Option.bind_some, bct_v, bct_t, otl_s, otl_n, List.cons_append, List.nil_append, List.getElem?_cons_zero, List.getElem?_cons_succ, ↓reduceIte]
    have := bor_b b false
    rw [show b2i false = nI 0 from rfl] at this
    rw [this, show (kno mp c s == 0) = false from by simpa using q]
theorem cell229 (hJ : gJ w g) (h : Mkv w g i a (ho, po, ch, lo, ac, bu, sl, may, mp)) (hp : mpo mp) {f : Nat} {M : Nat → Int32} (hM : ∀ c, c < 36 → M c = no (wayS mp f c)) {c : Nat} (hc : c < 36) :
    am_run 229 28 [none, some (.ref a), some (.ref w.2.1), some (.int (no (bsc mp f c))), some (.int (nI c)), none, none] [] (nwr w 0 36 M) = am_run 229 28 [none, some (.ref a), some (.ref w.2.1), some (.int (no (bsc mp f (c + 1)))), some (.int (nI (c + 1))), none, none] [] (nwr w 0 36 M) := by
  have h' := h.ext hJ (nwr_ext (w := w) (t := 0) (n := 36) (M := M))
  rw [bk229_28, if_neg (by rw [nI_leS (by decide) (by omega)]; omega), bk229_35]
  have st : ∀ (s : Nat) (b : Bool), s < 4 → am_run 229 41 [none, some (.ref a), some (.ref w.2.1), some (.int (no (bsc mp f c))), some (.int (nI c)), some (.int (b2i b)), some (.int (nI s))] [] (nwr w 0 36 M) = am_run 229 41 [none, some (.ref a), some (.ref w.2.1), some (.int (no (bsc mp f c))), some (.int (nI c)), some (.int (b2i (b || unkP mp s c))), some (.int (nI (s + 1)))] [] (nwr w 0 36 M) := fun s b hs => side229 h' hp hc hs b
  show am_run 229 41 [none, some (.ref a), some (.ref w.2.1), some (.int (no (bsc mp f c))), some (.int (nI c)), some (.int (b2i false)), some (.int (nI 0))] [] (nwr w 0 36 M) = _
  rw [st 0 false (by decide), st 1 _ (by decide), st 2 _ (by decide), st 3 _ (by decide), bk229_41, if_pos (by rw [nI_leS (by decide) (by decide)]; decide)]
  have eu : (false || unkP mp 0 c || unkP mp 1 c || unkP mp 2 c || unkP mp 3 c) = unkA mp c := by
    rw [Bool.false_or]; rfl
  rw [eu, bk229_74]
  simp only [b2i_0]
  show _ = am_run 229 28 [none, some (.ref a), some (.ref w.2.1), some (.int (no (if unkA mp c = true then _ else bsc mp f c))), some (.int (nI (c + 1))), none, none] [] (nwr w 0 36 M)
  by_cases u : unkA mp c = true
  · rw [if_neg (by rw [u]; decide), if_pos u]
    have r := ric (nwr_at (w := w) (t := 0) (n := 36) (M := M)) (i := c) rfl hc (by decide)
    rw [hM c hc] at r
    have r' : am_ri 0 (nwr w 0 36 M) w.2.1 (nI c) = _ := r
    cases e : wayS mp f c with
    | none =>
      rw [e] at r'
      simp only [bk229_79, r', bk229_83, no, bk229_105, nI_add, Option.bind_some, bct_v, bct_t, otl_s, otl_n, List.cons_append, List.nil_append, List.getElem?_cons_zero, List.getElem?_cons_succ, ↓reduceIte]
    | some k =>
      have hk : k < 36 := (fst1_some e).1
      rw [e] at r'
      have r2 : am_ri 0 (nwr w 0 36 M) w.2.1 (nI c) = some (nI k) := r'
      rcases bsc_ok (mp := mp) (f := f) c with ⟨h1, h2⟩ | ⟨b, kb, h1, b1, b2, b3, b4⟩
      · rw [h1]
        simp only [bk229_79, r2, bk229_83, nI_m1S (show k < 2147483648 by omega), no, bk229_87, bk229_102, bk229_105, nI_add, Option.bind_some, bct_v, bct_t, otl_s, otl_n, List.cons_append, List.nil_append, List.getElem?_cons_zero, List.getElem?_cons_succ, ↓reduceIte]
      · rw [h1]
        dsimp only
        rw [b3]
        dsimp only
        have hkb : kb < 36 := (fst1_some b3).1
        have rb := ric (nwr_at (w := w) (t := 0) (n := 36) (M := M)) (i := b) rfl (by omega) (by decide)
        rw [hM b (by omega), b3] at rb
        have rb' : am_ri 0 (nwr w 0 36 M) w.2.1 (nI b) = some (nI kb) := rb
        simp only [bk229_79, r2, bk229_83, nI_m1S (show k < 2147483648 by omega), nI_m1S (show b < 2147483648 by omega), no, bk229_87, bk229_92, bk229_96, rb', bk229_99, Option.bind_some, bct_v, bct_t, otl_s, otl_n, List.cons_append, List.nil_append, List.getElem?_cons_zero, List.getElem?_cons_succ, ↓reduceIte]
        by_cases q : kb ≤ k
        · rw [if_pos q, if_pos (by rw [nI_leS (by omega) (by omega)]; exact q), bk229_105, nI_add]
        · rw [if_neg q, if_neg (by rw [nI_leS (by omega) (by omega)]; exact q), bk229_102, bk229_105, nI_add]
  · rw [if_pos (by simpa using u), if_neg u, bk229_105, nI_add]
theorem x229 (R : RMx w g m kq hq ca ba wl ed wad kd hr cp br n ws th mi nd dr me di re) (hJ : gJ w g) (hi : i < n) (hy : ws i = (ho, po, ch, lo, ac, bu, sl, may, mp)) (hp : mpo mp) : ∃ w', am_x 229 [.ref m, .ref (wad i)] w = some (.inl (some (.int (goalW may mp))), w') ∧ ext w w' 1 36 := by
  have h := rm_get R hi hy
  have z := x95 h
  have kf := mk_kf h
  simp only [bx229, bk229_0, kf, z, bk229_4, sure_no, Option.bind_some, bct_v, bct_t, otl_s, otl_n, List.cons_append, List.nil_append, List.getElem?_cons_zero, List.getElem?_cons_succ, ↓reduceIte]
  unfold goalW
  cases e : sureP may with
  | none =>
    refine ⟨w, ?_, ext_wk ext_rf (by decide) (by decide)⟩
    rw [if_neg (fun q => q rfl), bk229_8]
  | some p =>
    have hp1 := (sure_lt e).1
    rw [e] at z
    have z' : am_x 95 [.ref (wad i)] w = some (.inl (some (.int (nI p))), w) := z
    obtain ⟨M, k1, k2⟩ := x208 hJ hp h (f := p / 4) (x := m) (by omega)
    refine ⟨nwr w 0 36 M, ?_, nwr_ext⟩
    rw [if_pos (fun q => nomatch q)]
    simp only [bk229_11, kf, z', bk229_17, rm_kf R, nI_divS (show p < 2147483648 by omega) (show 0 < 4 by decide) (show 4 < 2147483648 by decide), k2, bk229_22, Option.bind_some, bct_v, bct_t, otl_s, otl_n, List.cons_append, List.nil_append, List.getElem?_cons_zero, List.getElem?_cons_succ, ↓reduceIte]
    have go : ∀ c, c ≤ 36 → am_run 229 28 [none, some (.ref (wad i)), some (.ref w.2.1), some (.int (no (bsc mp (p / 4) 0))), some (.int (nI 0)), none, none] [] (nwr w 0 36 M) = am_run 229 28 [none, some (.ref (wad i)), some (.ref w.2.1), some (.int (no (bsc mp (p / 4) c))), some (.int (nI c)), none, none] [] (nwr w 0 36 M) := by
      intro c
      induction c with
      | zero => exact fun _ => rfl
      | succ c ih => exact fun hc => (ih (by omega)).trans (cell229 hJ h hp k1 (by omega))
    refine Eq.trans (go 36 (Nat.le_refl 36)) ?_
    rw [bk229_28, if_pos (by rw [nI_leS (by decide) (by decide)]; decide), bk229_111, bsc_goal]
end GOAL
