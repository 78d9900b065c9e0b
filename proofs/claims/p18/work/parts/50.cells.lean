/-! CELLS: what the heap holds, what reads and writes come to; whole numbers. Mine. -/
def b2i (b : Bool) : Int32 := if b = true then nI 1 else nI 0
theorem b2i_t : b2i true = nI 1 := rfl
theorem b2i_f : b2i false = nI 0 := rfl
theorem b2i_0 (b : Bool) : (b2i b = nI 0) = (b = false) := by
  cases b
  · exact propext ⟨fun _ => rfl, fun _ => rfl⟩
  · exact propext ⟨fun h => absurd h (by decide), fun h => nomatch h⟩
theorem b2i_1 (b : Bool) : (b2i b = nI 1) = (b = true) := by
  cases b
  · exact propext ⟨fun h => absurd h (by decide), fun h => nomatch h⟩
  · exact propext ⟨fun _ => rfl, fun _ => rfl⟩
theorem b2i_ok (b : Bool) : am_ok (am_rt 1) (.int (b2i b)) = true := by cases b <;> rfl
theorem b01_ok {x : Int32} (h : x = nI 0 ∨ x = nI 1) : am_ok (am_rt 1) (.int x) = true := by
  rcases h with rfl | rfl <;> rfl
theorem bct_v {v : Option Value} {w : am_Wd} {k : Option Value → am_Wd → am_Rs} : bct (.inl v, w) k = k v w := rfl
theorem bct_t {E : String} {w : am_Wd} {k : Option Value → am_Wd → am_Rs} : bct (.inr E, w) k = some (.inr E, w) := rfl
theorem otl_s (v : Value) : (some v).toList = [v] := rfl
theorem otl_n : (none : Option Value).toList = [] := rfl
theorem nI_leS {a b : Nat} (ha : a < 2147483648) (hb : b < 2147483648) : (nI a ≤ nI b) = (a ≤ b) := propext (nI_leI (by omega) (by omega))
theorem nI_ltS {a b : Nat} (ha : a < 2147483648) (hb : b < 2147483648) : (nI a < nI b) = (a < b) := propext (nI_ltI (by omega) (by omega))
theorem nI_eqS {a b : Nat} (ha : a < 2147483648) (hb : b < 2147483648) : (nI a = nI b) = (a = b) := propext (nI_eq (by omega) (by omega))
theorem nI_m1S {a : Nat} (ha : a < 2147483648) : (nI a = (-1 : Int32)) = False := by
  refine propext ⟨fun h => ?_, False.elim⟩
  have h1 : (nI a).toInt = (a : Int) := nI_toInt (by omega)
  rw [h] at h1
  have h2 : (-1 : Int32).toInt = -1 := by decide
  omega
theorem nI_subS {a b : Nat} (h : b ≤ a) : nI a - nI b = nI (a - b) := pk_sub h
theorem nI_mulS (a b : Nat) : nI a * nI b = nI (a * b) := pk_mul a b
theorem nI_divS {a d : Nat} (ha : a < 2147483648) (h0 : 0 < d) (hd : d < 2147483648) : nI a / nI d = nI (a / d) := pk_div (by omega) h0 (by omega)
theorem nI_remS {a d : Nat} (ha : a < 2147483648) (h0 : 0 < d) (hd : d < 2147483648) : bj_irem (nI a) (nI d) = nI (a % d) := pk_rem (by omega) h0 (by omega)
theorem nI_and3 {a : Nat} (ha : a < 2147483648) : nI a &&& nI 3 = nI (a % 4) := pk_andN (by omega) 2 (by decide)
theorem bj_maxS {a b : Nat} (ha : a < 2147483648) (hb : b < 2147483648) : bj_max (nI a) (nI b) = nI (max a b) := by
  unfold bj_max
  by_cases h : a < b
  · rw [if_pos ((nI_ltI (by omega) (by omega)).mpr h), Nat.max_eq_right (by omega)]
  · rw [if_neg (fun q => h ((nI_ltI (by omega) (by omega)).mp q)), Nat.max_eq_left (by omega)]
theorem bj_minS {a b : Nat} (ha : a < 2147483648) (hb : b < 2147483648) : bj_min (nI a) (nI b) = nI (min a b) := by
  unfold bj_min
  by_cases h : b < a
  · rw [if_pos ((nI_ltI (by omega) (by omega)).mpr h), Nat.min_eq_right (by omega)]
  · rw [if_neg (fun q => h ((nI_ltI (by omega) (by omega)).mp q)), Nat.min_eq_left (by omega)]
def cO (w : am_Wd) (a c : Nat) (fs : List Value) : Prop := w.1 a = some (.inr (c, fs))
def cI (w : am_Wd) (a t n : Nat) (f : Nat → Int32) : Prop := w.1 a = some (.inl (t, n, .inl f))
def cL (w : am_Wd) (a n : Nat) (f : Nat → Int64) : Prop := w.1 a = some (.inl (1, n, .inr (.inl f)))
def cQ (w : am_Wd) (a t n : Nat) (f : Nat → Option Nat) : Prop := w.1 a = some (.inl (t, n, .inr (.inr (.inr (.inr f)))))
theorem gfc {w : am_Wd} {a c : Nat} {fs : List Value} (h : cO w a c fs) {k : Nat} : am_gf w a c k = fs[k]? := by
  unfold am_gf
  rw [show w.1 a = _ from h]
  exact if_pos (by unfold am_cc; rw [Nat.beq_refl]; rfl)
theorem kfc {w : am_Wd} {a c : Nat} {fs : List Value} (h : cO w a c fs) : am_kf w a c = some () := by
  unfold am_kf
  rw [show w.1 a = _ from h]
  exact if_pos (by unfold am_cc; rw [Nat.beq_refl]; rfl)
theorem pfc {w : am_Wd} {a c : Nat} {fs : List Value} (h : cO w a c fs) {k : Nat} {v : Value} (hk : k < fs.length) (hc : c < 12) : am_pf w a c k v = some (am_pt w a (.inr (c, fs.set k v))) := by
  unfold am_pf
  rw [show w.1 a = _ from h]
  exact if_pos ⟨rfl, hk, hc⟩
theorem ric {w : am_Wd} {a t t' n i : Nat} {f : Nat → Int32} (h : cI w a t n f) (ht : t % 8 = t') (hi : i < n) (hn : n < 2147483648) : am_ri t' w a (nI i) = some (f i) := by
  unfold am_ri
  rw [show w.1 a = _ from h]
  dsimp only
  rw [if_pos ht, if_neg (nI_in hi (by omega)), nI_clamp (by omega)]
theorem rlc {w : am_Wd} {a n i : Nat} {f : Nat → Int64} (h : cL w a n f) (hi : i < n) (hn : n < 2147483648) : am_rl w a (nI i) = some (f i) := by
  unfold am_rl
  rw [show w.1 a = _ from h]
  dsimp only
  rw [if_pos rfl, if_neg (nI_in hi (by omega)), nI_clamp (by omega)]
theorem rqc {w : am_Wd} {a t n i : Nat} {f : Nat → Option Nat} (h : cQ w a t n f) (ht : t = 4 ∨ t = 5 ∨ t = 6) (hi : i < n) (hn : n < 2147483648) : am_rq w a (nI i) = some (va_rf (f i)) := by
  unfold am_rq
  rw [show w.1 a = _ from h]
  dsimp only
  rw [if_pos ht, if_neg (nI_in hi (by omega)), nI_clamp (by omega)]
theorem wic {w : am_Wd} {a t n i : Nat} {f : Nat → Int32} {x : Int32} (h : cI w a t n f) (hi : i < n) (hn : n < 2147483648) : am_wi t w a (nI i) x = some (am_pt w a (.inl (t, n, .inl (upd f i x)))) := by
  unfold am_wi
  rw [show w.1 a = _ from h]
  dsimp only
  rw [if_pos rfl, if_neg (nI_in hi (by omega)), nI_clamp (by omega)]
theorem wlc {w : am_Wd} {a n i : Nat} {f : Nat → Int64} {x : Int64} (h : cL w a n f) (hi : i < n) (hn : n < 2147483648) : am_wl w a (nI i) x = some (am_pt w a (.inl (1, n, .inr (.inl (vp_updL f i x))))) := by
  unfold am_wl
  rw [show w.1 a = _ from h]
  dsimp only
  rw [if_pos rfl, if_neg (nI_in hi (by omega)), nI_clamp (by omega)]
theorem wqc {w : am_Wd} {a t ci n i b : Nat} {f : Nat → Option Nat} {fs : List Value} (h : cQ w a t n f) (hc : 0 < ci ∧ ci < 12) (hb : cO w b ci fs) (hi : i < n) (hn : n < 2147483648) : am_wq t ci w a (nI i) b = some (am_pt w a (.inl (t, n, .inr (.inr (.inr (.inr (va_up f i (some b)))))))) := by
  unfold am_wq
  rw [show w.1 a = _ from h]
  dsimp only
  rw [if_pos ⟨rfl, hc⟩, if_neg (nI_in hi (by omega)), nI_clamp (by omega), kfc hb]
  rfl
theorem lenI {w : am_Wd} {a t n : Nat} {f : Nat → Int32} (h : cI w a t n f) (ht : t % 8 < 7) : am_len w a = some n := by
  unfold am_len
  rw [show w.1 a = _ from h]
  exact if_pos ht
theorem lenQ {w : am_Wd} {a t n : Nat} {f : Nat → Option Nat} (h : cQ w a t n f) (ht : t % 8 < 7) : am_len w a = some n := by
  unfold am_len
  rw [show w.1 a = _ from h]
  exact if_pos ht
theorem nac {w : am_Wd} {t n : Nat} (hn : n ≤ 4096) : am_na w t (nI n) = some (am_nw w (.inl (t, n, am_in t)) n) := by
  unfold am_na
  have h1 : (nI n).toNatClampNeg = n := nI_clamp (by omega)
  rw [h1, if_neg]
  rintro (q | q)
  · exact nI_pos (by omega) q
  · omega
theorem pt_s {w : am_Wd} {a : Nat} {e : am_En} : (am_pt w a e).1 a = some e := if_pos rfl
theorem pt_n {w : am_Wd} {a b : Nat} {e : am_En} (h : b ≠ a) : (am_pt w a e).1 b = w.1 b := if_neg h
theorem pt_2 {w : am_Wd} {a : Nat} {e : am_En} : (am_pt w a e).2 = w.2 := rfl
theorem pt_pt {w : am_Wd} {a : Nat} {e e' : am_En} : am_pt (am_pt w a e) a e' = am_pt w a e' := by
  unfold am_pt
  refine congrArg (fun f => (f, w.2)) (funext fun b => ?_)
  dsimp only
  by_cases h : b = a
  · rw [if_pos h, if_pos h]
  · rw [if_neg h, if_neg h, if_neg h]
theorem cO_of {w w' : am_Wd} {a c : Nat} {fs : List Value} (h : cO w a c fs) (e : w'.1 a = w.1 a) : cO w' a c fs := e.trans h
theorem cI_of {w w' : am_Wd} {a t n : Nat} {f : Nat → Int32} (h : cI w a t n f) (e : w'.1 a = w.1 a) : cI w' a t n f := e.trans h
theorem cL_of {w w' : am_Wd} {a n : Nat} {f : Nat → Int64} (h : cL w a n f) (e : w'.1 a = w.1 a) : cL w' a n f := e.trans h
theorem cQ_of {w w' : am_Wd} {a t n : Nat} {f : Nat → Option Nat} (h : cQ w a t n f) (e : w'.1 a = w.1 a) : cQ w' a t n f := e.trans h
/-- of different tags: different -/
theorem g_ne {g : Nat → Nat} {a b x y : Nat} (ha : g a = x) (hb : g b = y) (h : x ≠ y) : a ≠ b := fun e => h (ha.symm.trans ((congrArg g e).trans hb))
/-! sets of cells as numbers -/
def up {α : Type} (f : Nat → α) (i : Nat) (x : α) : Nat → α := fun j => if j = i then x else f j
theorem up_s {α : Type} {f : Nat → α} {i : Nat} {x : α} : up f i x i = x := if_pos rfl
theorem up_n {α : Type} {f : Nat → α} {i j : Nat} {x : α} (h : j ≠ i) : up f i x j = f j := if_neg h
theorem upL (N : Nat → Nat) (i n : Nat) : vp_updL (fun s => lN (N s)) i (lN n) = fun s => lN (up N i n s) := by
  funext j
  unfold vp_updL up
  by_cases h : j = i
  · rw [if_pos h, if_pos h]
  · rw [if_neg h, if_neg h]
theorem upI (N : Nat → Nat) (i n : Nat) : upd (fun s => nI (N s)) i (nI n) = fun s => nI (up N i n s) := by
  funext j
  unfold upd up
  by_cases h : j = i
  · rw [if_pos h, if_pos h]
  · rw [if_neg h, if_neg h]
theorem upB (p : Nat → Bool) (i : Nat) (b : Bool) : upd (fun s => b2i (p s)) i (b2i b) = fun s => b2i (up p i b s) := by
  funext j
  unfold upd up
  by_cases h : j = i
  · rw [if_pos h, if_pos h]
  · rw [if_neg h, if_neg h]
def bm (N : Nat) (p : Nat → Bool) : Prop := N < 68719476736 ∧ ∀ c, c < 36 → N.testBit c = p c
theorem bm_lt {N : Nat} {p : Nat → Bool} (h : bm N p) : N < 2 ^ 64 := Nat.lt_trans h.1 (by decide)
theorem bm_tb {N : Nat} {p : Nat → Bool} (h : bm N p) (c : Nat) : N.testBit c = (decide (c < 36) && p c) := by
  by_cases hc : c < 36
  · rw [h.2 c hc, decide_eq_true hc]; rfl
  · rw [decide_eq_false hc]
    exact Nat.testBit_lt_two_pow (Nat.lt_of_lt_of_le h.1 (Nat.pow_le_pow_right (n := 2) (i := 36) (by decide) (by omega)))
theorem bm_of {N : Nat} {p : Nat → Bool} (h : ∀ c, N.testBit c = (decide (c < 36) && p c)) : bm N p := by
  refine ⟨?_, fun c hc => by rw [h c, decide_eq_true hc]; rfl⟩
  show N < 2 ^ 36
  refine Nat.lt_pow_two_of_testBit N fun i hi => ?_
  rw [h i, decide_eq_false (by omega)]
  rfl
theorem bm_cg {N : Nat} {p q : Nat → Bool} (h : bm N p) (e : ∀ c, c < 36 → p c = q c) : bm N q := ⟨h.1, fun c hc => (h.2 c hc).trans (e c hc)⟩
theorem bm_0 : bm 0 (fun _ => false) := ⟨by decide, fun c _ => Nat.zero_testBit c⟩
theorem bm_all : bm 68719476735 (fun _ => true) := by
  refine ⟨by decide, fun c hc => ?_⟩
  have h : ∀ d : Fin 36, (68719476735 : Nat).testBit d.val = true := by decide +kernel
  exact h ⟨c, hc⟩
theorem bm_and {M N : Nat} {p q : Nat → Bool} (h : bm M p) (k : bm N q) : bm (M &&& N) (fun c => p c && q c) := by
  refine bm_of fun c => ?_
  rw [Nat.testBit_and, bm_tb h, bm_tb k]
  cases decide (c < 36) <;> rfl
theorem bm_or {M N : Nat} {p q : Nat → Bool} (h : bm M p) (k : bm N q) : bm (M ||| N) (fun c => p c || q c) := by
  refine bm_of fun c => ?_
  rw [Nat.testBit_or, bm_tb h, bm_tb k]
  cases decide (c < 36) <;> rfl
theorem bm_bit {c : Nat} (h : c < 36) : bm (2 ^ c) (fun d => decide (d = c)) := by
  refine bm_of fun d => ?_
  rw [Nat.testBit_two_pow]
  by_cases e : d = c
  · subst e
    rw [decide_eq_true rfl, decide_eq_true h]; rfl
  · rw [decide_eq_false e, decide_eq_false (fun q => e q.symm), Bool.and_false]
theorem lN_not {N : Nat} (h : N < 2 ^ 64) : ∃ M, M < 2 ^ 64 ∧ lN N ^^^ lN 18446744073709551615 = lN M ∧ ∀ c, c < 64 → M.testBit c = !(N.testBit c) := by
  refine ⟨N ^^^ 18446744073709551615, ?_, lN_xor _ _, fun c hc => ?_⟩
  · exact Nat.xor_lt_two_pow h (by decide)
  · rw [Nat.testBit_xor]
    have k : ∀ d : Fin 64, (18446744073709551615 : Nat).testBit d.val = true := by decide +kernel
    rw [k ⟨c, hc⟩, Bool.xor_true]
/-- all but those -/
theorem lN_anot {M N : Nat} {p q : Nat → Bool} (h : bm M p) (k : bm N q) : ∃ K, lN M &&& (lN N ^^^ lN 18446744073709551615) = lN K ∧ bm K (fun c => p c && !(q c)) := by
  obtain ⟨Q, h1, h2, h3⟩ := lN_not (bm_lt k)
  refine ⟨M &&& Q, by rw [h2, wb_and (bm_lt h) h1], bm_of fun c => ?_⟩
  rw [Nat.testBit_and, bm_tb h]
  by_cases hc : c < 36
  · rw [h3 c (by omega), bm_tb k, decide_eq_true hc]
    simp
  · rw [decide_eq_false hc]
    simp
theorem lN_sh {N c : Nat} (h : N < 2 ^ 64) (hc : c < 64) : bj_lushr (lN N) (nI c) = lN (N / 2 ^ c) := wb_shr h hc
theorem lN_sl {N c : Nat} (hc : c < 64) : bj_lshl (lN N) (nI c) = lN (N * 2 ^ c) := wb_shl N hc
theorem lN_b1 {N c : Nat} (h : N < 2 ^ 64) (hc : c < 64) : (bj_lushr (lN N) (nI c) &&& lN 1) = lN (N / 2 ^ c % 2) := wb_bit h hc
/-- how many -/
def cnt : Nat → (Nat → Bool) → Nat
  | 0, _ => 0
  | n + 1, p => cnt n p + (if p n = true then 1 else 0)
theorem cnt_le (p : Nat → Bool) : ∀ n, cnt n p ≤ n
  | 0 => Nat.le_refl 0
  | n + 1 => by
    have := cnt_le p n
    show cnt n p + (if p n = true then 1 else 0) ≤ n + 1
    split <;> omega
theorem cnt_cg {p q : Nat → Bool} : ∀ n, (∀ c, c < n → p c = q c) → cnt n p = cnt n q
  | 0, _ => rfl
  | n + 1, h => by
    show cnt n p + (if p n = true then 1 else 0) = cnt n q + (if q n = true then 1 else 0)
    rw [cnt_cg n (fun c hc => h c (by omega)), h n (by omega)]
theorem cnt_4 (p : Nat → Bool) : ∀ n, cnt (4 * n) p = cnt n (fun c => p (4 * c)) + cnt n (fun c => p (4 * c + 1)) + cnt n (fun c => p (4 * c + 2)) + cnt n (fun c => p (4 * c + 3))
  | 0 => rfl
  | n + 1 => by
    have ih := cnt_4 p n
    have e : cnt (4 * (n + 1)) p = cnt (4 * n) p + (if p (4 * n) = true then 1 else 0) + (if p (4 * n + 1) = true then 1 else 0) + (if p (4 * n + 2) = true then 1 else 0) + (if p (4 * n + 3) = true then 1 else 0) := rfl
    rw [e, ih]
    simp only [cnt]
    omega
/-- the first one -/
def fst1 : Nat → (Nat → Bool) → Option Nat
  | 0, _ => none
  | n + 1, p => match fst1 n p with
    | some c => some c
    | none => if p n = true then some n else none
theorem fst1_some : ∀ {n : Nat} {p : Nat → Bool} {k : Nat}, fst1 n p = some k → k < n ∧ p k = true ∧ ∀ j, j < k → p j = false
  | 0, _, _, h => by cases h
  | n + 1, p, k, h => by
    unfold fst1 at h
    split at h
    · rename_i c hc
      cases h
      obtain ⟨h1, h2, h3⟩ := fst1_some hc
      exact ⟨by omega, h2, h3⟩
    · rename_i hc
      split at h
      · rename_i hp
        cases h
        refine ⟨by omega, hp, ?_⟩
        have hn : ∀ (n : Nat), fst1 n p = none → ∀ j, j < n → p j = false := by
          intro n
          induction n with
          | zero => intro _ j hj; omega
          | succ n ih =>
            intro h j hj
            unfold fst1 at h
            split at h
            · cases h
            · rename_i hc
              split at h
              · cases h
              · rename_i hp
                by_cases e : j = n
                · subst e; exact Bool.eq_false_iff.mpr hp
                · exact ih hc j (by omega)
        exact hn _ hc
      · cases h
theorem fst1_none : ∀ {n : Nat} {p : Nat → Bool}, fst1 n p = none → ∀ j, j < n → p j = false
  | 0, _, _, j, hj => by omega
  | n + 1, p, h, j, hj => by
    unfold fst1 at h
    split at h
    · cases h
    · rename_i hc
      split at h
      · cases h
      · rename_i hp
        by_cases e : j = n
        · subst e; exact Bool.eq_false_iff.mpr hp
        · exact fst1_none hc j (by omega)
theorem fst1_is {n : Nat} {p : Nat → Bool} {k : Nat} (hk : k < n) (h1 : p k = true) (h2 : ∀ j, j < k → p j = false) : fst1 n p = some k := by
  cases e : fst1 n p with
  | none => rw [fst1_none e k hk] at h1; cases h1
  | some j =>
    obtain ⟨a1, a2, a3⟩ := fst1_some e
    have h3 : ¬ j < k := fun q => by rw [h2 j q] at a2; cases a2
    have h4 : ¬ k < j := fun q => by rw [a3 k q] at h1; cases h1
    have : j = k := by omega
    rw [this]
theorem fst1_no {n : Nat} {p : Nat → Bool} (h : ∀ j, j < n → p j = false) : fst1 n p = none := by
  cases e : fst1 n p with
  | none => rfl
  | some j =>
    obtain ⟨a1, a2, -⟩ := fst1_some e
    rw [h j a1] at a2
    cases a2
theorem fst1_cg {n : Nat} {p q : Nat → Bool} (h : ∀ j, j < n → p j = q j) : fst1 n p = fst1 n q := by
  cases e : fst1 n q with
  | none => exact fst1_no fun j hj => (h j hj).trans (fst1_none e j hj)
  | some k =>
    obtain ⟨a1, a2, a3⟩ := fst1_some e
    exact fst1_is a1 ((h k a1).trans a2) fun j hj => (h j (by omega)).trans (a3 j hj)
/-- a loop that looks for the first -/
theorem scan {α : Type} {n : Nat} {p : Nat → Bool} {Q R : Nat → α} {E : α} (h1 : ∀ k, k < n → p k = true → Q k = R k) (h2 : ∀ k, k < n → p k = false → Q k = Q (k + 1)) (h3 : Q n = E) : Q 0 = (match fst1 n p with | some k => R k | none => E) := by
  have go : ∀ k, k ≤ n → (∀ j, j < k → p j = false) → Q 0 = Q k := by
    intro k
    induction k with
    | zero => exact fun _ _ => rfl
    | succ k ih => exact fun hk hj => (ih (by omega) fun j h => hj j (by omega)).trans (h2 k (by omega) (hj k (by omega)))
  cases e : fst1 n p with
  | none => exact (go n (Nat.le_refl n) (fst1_none e)).trans h3
  | some k =>
    obtain ⟨a1, a2, a3⟩ := fst1_some e
    exact (go k (by omega) a3).trans (h1 k a1 a2)
/-- a loop that counts -/
theorem csum {α : Type} {n : Nat} {p : Nat → Bool} {Q : Nat → Nat → α} (h : ∀ k a, k < n → Q k a = Q (k + 1) (a + (if p k = true then 1 else 0))) : Q 0 0 = Q n (cnt n p) := by
  have go : ∀ k, k ≤ n → Q 0 0 = Q k (cnt k p) := by
    intro k
    induction k with
    | zero => exact fun _ => rfl
    | succ k ih => exact fun hk => (ih (by omega)).trans (h k _ (by omega))
  exact go n (Nat.le_refl n)
/-- a loop -/
theorem loopN {α β : Type} {n : Nat} {Q : Nat → β → α} {I : Nat → β → Prop} {b : β} (h0 : I 0 b) (h : ∀ k b, k < n → I k b → ∃ b', I (k + 1) b' ∧ Q k b = Q (k + 1) b') : ∃ b', I n b' ∧ Q 0 b = Q n b' := by
  have go : ∀ k, k ≤ n → ∃ b', I k b' ∧ Q 0 b = Q k b' := by
    intro k
    induction k with
    | zero => exact fun _ => ⟨b, h0, rfl⟩
    | succ k ih =>
      intro hk
      obtain ⟨b1, i1, e1⟩ := ih (by omega)
      obtain ⟨b2, i2, e2⟩ := h k b1 (by omega) i1
      exact ⟨b2, i2, e1.trans e2⟩
  exact go n (Nat.le_refl n)
