/-! THE GRID: what lies beyond, places, sides; the class's and the reference's small methods of whole numbers. Mine. -/
def nb (c s : Nat) : Option Nat := if s = 0 then (if 0 < c / 6 then some (c - 6) else none) else if s = 1 then (if c % 6 < 5 then some (c + 1) else none) else if s = 2 then (if c / 6 < 5 then some (c + 6) else none) else (if 0 < c % 6 then some (c - 1) else none)
def no (o : Option Nat) : Int32 := match o with
  | none => -1
  | some d => nI d
/-- the place of an edge: twice the cell that keeps it, and 1 for one below -/
def plc (c s : Nat) : Nat := match nb c s with
  | none => 72
  | some d => 2 * (if s = 0 ∨ s = 3 then d else c) + (if s = 1 ∨ s = 3 then 0 else 1)
def all36 (p : Nat → Nat → Bool) : Bool := (List.range 36).all fun c => (List.range 4).all fun s => p c s
theorem all36_at {p : Nat → Nat → Bool} (h : all36 p = true) {c s : Nat} (hc : c < 36) (hs : s < 4) : p c s = true :=
  List.all_eq_true.mp (List.all_eq_true.mp h c (List.mem_range.mpr hc)) s (List.mem_range.mpr hs)
theorem nb_lt {c s d : Nat} (hc : c < 36) (hs : s < 4) (h : nb c s = some d) : d < 36 := by
  have k : all36 (fun c s => (match nb c s with | none => true | some d => decide (d < 36))) = true := by decide +kernel
  have := all36_at k hc hs
  rw [h] at this
  exact of_decide_eq_true this
theorem nb_back {c s d : Nat} (hc : c < 36) (hs : s < 4) (h : nb c s = some d) : nb d ((s + 2) % 4) = some c ∧ plc d ((s + 2) % 4) = plc c s := by
  have k : all36 (fun c s => (match nb c s with | none => true | some d => decide (nb d ((s + 2) % 4) = some c ∧ plc d ((s + 2) % 4) = plc c s))) = true := by decide +kernel
  have := all36_at k hc hs
  rw [h] at this
  exact of_decide_eq_true this
theorem plc_lt {c s : Nat} (hc : c < 36) (hs : s < 4) (h : nb c s ≠ none) : plc c s < 72 := by
  have k : all36 (fun c s => (match nb c s with | none => true | some d => decide (plc c s < 72))) = true := by decide +kernel
  have := all36_at k hc hs
  cases e : nb c s with
  | none => exact absurd e h
  | some d => rw [e] at this; exact of_decide_eq_true this
section AHD
variable {w : am_Wd}
def F13 (x y : Int32) : Int32 := if y = nI 0 then (if x / nI 6 ≤ nI 0 then -1 else x - nI 6) else if y = nI 1 then (if nI 5 ≤ bj_irem x (nI 6) then -1 else x + nI 1) else if y = nI 2 then (if nI 5 ≤ x / nI 6 then -1 else x + nI 6) else (if bj_irem x (nI 6) ≤ nI 0 then -1 else x - nI 1)
theorem x13 {x y : Int32} : am_x 13 [.int x, .int y] w = some (.inl (some (.int (F13 x y))), w) := by
  rw [bx13]
  unfold F13
  simp only [bk13_0, bk13_36, bk13_49, bk13_62, bk13_76, bk13_47, bk13_40, bk13_60, bk13_54, bk13_74, bk13_67, bk13_86, bk13_80, bk13_48, bk13_61, bk13_75, bk13_87, bx13]
  repeat' split
  all_goals rfl
theorem ahd {c s : Nat} (hc : c < 36) (hs : s < 4) : am_x 13 [.int (nI c), .int (nI s)] w = some (.inl (some (.int (no (nb c s)))), w) := by
  have k : all36 (fun c s => decide (F13 (nI c) (nI s) = no (nb c s))) = true := by decide +kernel
  rw [x13, of_decide_eq_true (all36_at k hc hs)]
def F100 (x y : Int32) : Int32 := F13 x y
theorem has {N c : Nat} (hN : N < 2 ^ 64) (hc : c < 36) : am_x 11 [.long (lN N), .int (nI c)] w = some (.inl (some (.int (b2i (N.testBit c)))), w) := by
  rw [bx11]
  simp only [bk11_0, bk11_14, bk11_10]
  rw [lN_b1 hN (by omega)]
  have h2 : N.testBit c = decide (N / 2 ^ c % 2 = 1) := Nat.testBit_eq_decide_div_mod_eq
  have h3 : N / 2 ^ c % 2 = 0 ∨ N / 2 ^ c % 2 = 1 := by omega
  rcases h3 with h3 | h3
  · rw [h2, h3, if_pos (by decide), bk11_15 (by rfl)]
    rfl
  · rw [h2, h3, if_neg (by decide), bk11_15 (by rfl)]
    rfl
theorem fsd {s k : Nat} (hs : s < 4) (hk : k < 3) : am_x 15 [.int (nI s), .int (nI k)] w = some (.inl (some (.int (nI ((s + 3 + k) % 4)))), w) := by
  rw [bx15, bk15_0, nI_add, nI_add, nI_and3 (by omega)]
/-- moved by one -/
def mvd (p : Nat → Bool) (s d : Nat) : Bool := match nb d ((s + 2) % 4) with
  | none => false
  | some c => p c
theorem tb_div (N k c : Nat) : (N / 2 ^ k).testBit c = N.testBit (k + c) := by
  rw [← Nat.shiftRight_eq_div_pow, Nat.testBit_shiftRight]
theorem tb_mul (N k c : Nat) : (N * 2 ^ k).testBit c = (decide (k ≤ c) && N.testBit (c - k)) := by
  rw [← Nat.shiftLeft_eq, Nat.testBit_shiftLeft]
theorem mv0 {N : Nat} {p : Nat → Bool} (h : bm N p) : bm (N / 2 ^ 6) (mvd p 0) := by
  refine bm_of fun c => ?_
  rw [tb_div, bm_tb h]
  by_cases hc : c < 36
  · have k : ∀ c : Fin 36, nb c.val 2 = (if 6 + c.val < 36 then some (6 + c.val) else none) := by decide +kernel
    have k1 := k ⟨c, hc⟩
    unfold mvd
    rw [show (0 + 2) % 4 = 2 from rfl, show nb c 2 = _ from k1, decide_eq_true hc]
    by_cases h6 : 6 + c < 36
    · rw [if_pos h6, decide_eq_true h6]
    · rw [if_neg h6, decide_eq_false h6]; rfl
  · rw [decide_eq_false hc, decide_eq_false (by omega)]; rfl
theorem mv1 {N : Nat} {p : Nat → Bool} (h : bm N p) (ho : ∀ c, c < 36 → nb c 1 = none → p c = false) : bm (N * 2 ^ 1) (mvd p 1) := by
  refine bm_of fun c => ?_
  rw [tb_mul, bm_tb h]
  by_cases hc : c < 36
  · have k : ∀ c : Fin 36, nb c.val 3 = (if 0 < c.val % 6 then some (c.val - 1) else none) := by decide +kernel
    have k1 := k ⟨c, hc⟩
    unfold mvd
    rw [show (1 + 2) % 4 = 3 from rfl, show nb c 3 = _ from k1, decide_eq_true hc]
    by_cases h6 : 0 < c % 6
    · rw [if_pos h6, decide_eq_true (by omega), decide_eq_true (by omega)]
      rfl
    · rw [if_neg h6]
      by_cases h7 : 1 ≤ c
      · have k2 : ∀ c : Fin 36, c.val % 6 = 5 → nb c.val 1 = none := by decide +kernel
        rw [ho (c - 1) (by omega) (k2 ⟨c - 1, by omega⟩ (by show (c - 1) % 6 = 5; omega))]
        simp
      · rw [decide_eq_false h7]; rfl
  · rw [decide_eq_false hc]
    by_cases h7 : c - 1 < 36
    · have h8 : c = 36 := by omega
      subst h8
      rw [ho 35 (by omega) (by decide)]
      simp
    · rw [decide_eq_false h7]; simp
theorem mv2 {N : Nat} {p : Nat → Bool} (h : bm N p) (ho : ∀ c, c < 36 → nb c 2 = none → p c = false) : bm (N * 2 ^ 6) (mvd p 2) := by
  refine bm_of fun c => ?_
  rw [tb_mul, bm_tb h]
  by_cases hc : c < 36
  · have k : ∀ c : Fin 36, nb c.val 0 = (if 6 ≤ c.val then some (c.val - 6) else none) := by decide +kernel
    have k1 := k ⟨c, hc⟩
    unfold mvd
    rw [show (2 + 2) % 4 = 0 from rfl, show nb c 0 = _ from k1, decide_eq_true hc]
    by_cases h6 : 6 ≤ c
    · rw [if_pos h6, decide_eq_true h6, decide_eq_true (by omega)]
      rfl
    · rw [if_neg h6, decide_eq_false h6]; rfl
  · rw [decide_eq_false hc]
    by_cases h7 : c - 6 < 36
    · have k2 : ∀ c : Fin 36, 30 ≤ c.val → nb c.val 2 = none := by decide +kernel
      rw [ho (c - 6) h7 (k2 ⟨c - 6, h7⟩ (by show 30 ≤ c - 6; omega))]
      simp
    · rw [decide_eq_false h7]; simp
theorem mv3 {N : Nat} {p : Nat → Bool} (h : bm N p) (ho : ∀ c, c < 36 → nb c 3 = none → p c = false) : bm (N / 2 ^ 1) (mvd p 3) := by
  refine bm_of fun c => ?_
  rw [tb_div, bm_tb h]
  by_cases hc : c < 36
  · have k : ∀ c : Fin 36, nb c.val 1 = (if c.val % 6 < 5 then some (1 + c.val) else none) := by decide +kernel
    have k1 := k ⟨c, hc⟩
    unfold mvd
    rw [show (3 + 2) % 4 = 1 from rfl, show nb c 1 = _ from k1, decide_eq_true hc]
    by_cases h6 : c % 6 < 5
    · rw [if_pos h6, decide_eq_true (by omega)]
    · rw [if_neg h6]
      by_cases h7 : 1 + c < 36
      · have k2 : ∀ c : Fin 36, c.val % 6 = 0 → nb c.val 3 = none := by decide +kernel
        rw [ho (1 + c) h7 (k2 ⟨1 + c, h7⟩ (by show (1 + c) % 6 = 0; omega))]
        simp
      · rw [decide_eq_false h7]; rfl
  · rw [decide_eq_false hc, decide_eq_false (by omega)]; rfl
theorem mvd_bm {N s : Nat} {p : Nat → Bool} (h : bm N p) (hs : s < 4) (ho : ∀ c, c < 36 → nb c s = none → p c = false) :
    ∃ M, am_x 14 [.long (lN N), .int (nI s)] w = some (.inl (some (.long (lN M))), w) ∧ bm M (mvd p s) := by
  have hN := bm_lt h
  rw [bx14, bk14_0]
  rcases (show s = 0 ∨ s = 1 ∨ s = 2 ∨ s = 3 by omega) with rfl | rfl | rfl | rfl
  · refine ⟨N / 2 ^ 6, ?_, mv0 h⟩
    rw [if_pos rfl, bk14_28, lN_sh hN (by decide)]
  · refine ⟨N * 2 ^ 1, ?_, mv1 h ho⟩
    rw [if_neg (by decide), if_pos rfl, bk14_33, lN_sl (by decide)]
  · refine ⟨N * 2 ^ 6, ?_, mv2 h ho⟩
    rw [if_neg (by decide), if_neg (by decide), if_pos rfl, bk14_37, lN_sl (by decide)]
  · refine ⟨N / 2 ^ 1, ?_, mv3 h ho⟩
    rw [if_neg (by decide), if_neg (by decide), if_neg (by decide), bk14_42, lN_sh hN (by decide)]
/-- near -/
def near (c d : Nat) : Bool := decide ((if d / 6 ≤ c / 6 then c / 6 - d / 6 else d / 6 - c / 6) + (if d % 6 ≤ c % 6 then c % 6 - d % 6 else d % 6 - c % 6) ≤ 2)
def F16 (x y : Int32) : Int32 := if nI 2 < bj_abs (x / nI 6 - y / nI 6) + bj_abs (bj_irem x (nI 6) - bj_irem y (nI 6)) then nI 0 else nI 1
theorem nears {c d : Nat} (hc : c < 36) (hd : d < 36) : am_x 16 [.int (nI c), .int (nI d)] w = some (.inl (some (.int (b2i (near c d)))), w) := by
  have k : ∀ c d : Fin 36, F16 (nI c.val) (nI d.val) = b2i (near c.val d.val) := by decide +kernel
  have k1 : F16 (nI c) (nI d) = b2i (near c d) := k ⟨c, hc⟩ ⟨d, hd⟩
  rw [bx16, ← k1]
  simp only [bk16_0, bk16_37, bk16_33]
  unfold F16
  split
  · rw [bk16_38 (by rfl)]
  · rw [bk16_38 (by rfl)]
theorem x76 {c s : Nat} (hc : c < 36) (hs : s < 4) : am_x 76 [.int (nI c), .int (nI s)] w = some (.inl (some (.int (if nb c s = none then -1 else nI (plc c s)))), w) := by
  rw [bx76]
  simp only [bk76_0, ahd hc hs, Option.bind_some, bct_v, bct_t, otl_s, otl_n, List.cons_append, List.nil_append, List.getElem?_cons_zero, List.getElem?_cons_succ, ↓reduceIte, bk76_5]
  cases e : nb c s with
  | none =>
    simp only [no, not_true_eq_false, ↓reduceIte, bk76_11]
  | some d =>
    have hd := nb_lt hc hs e
    have k : all36 (fun c s => (match nb c s with | none => true | some d => decide ((if nI s = nI 0 then bj_min (nI c) (nI d) * nI 2 + nI 1 else if ¬ nI s = nI 2 then bj_min (nI c) (nI d) * nI 2 else bj_min (nI c) (nI d) * nI 2 + nI 1) = nI (plc c s)))) = true := by decide +kernel
    have k1 := all36_at k hc hs
    rw [e] at k1
    have k2 := of_decide_eq_true k1
    have h1 : ¬ nI d = (-1 : Int32) := by rw [nI_m1S (by omega)]; exact id
    simp only [no, if_pos h1, reduceCtorEq, ↓reduceIte, bk76_13, bk76_30, bk76_25, bk76_37, bk76_36]
    rw [← k2]
    split
    · rfl
    · split
      · rfl
      · rfl
theorem isP {k : Nat} (hk : k < 72) : am_x 7 [.int (nI k)] w = some (.inl (some (.int (nI 1))), w) := by
  rw [bx7, bk7_0, if_neg (by rw [nI_ltS (by omega) (by omega)]; omega), bk7_4, if_neg (by rw [nI_leS (by omega) (by omega)]; omega), bk7_10, bk7_15 (by rfl)]
theorem isPn : am_x 7 [.int (-1)] w = some (.inl (some (.int (nI 0))), w) := by
  rw [bx7, bk7_0, if_pos (by decide), bk7_14, bk7_15 (by rfl)]
end AHD
