/-! HOW MANY BITS: Long.bitCount. Mine. -/
def dg (B : Nat) : Nat → (Nat → Nat) → Nat
  | 0, _ => 0
  | m + 1, d => d 0 + B * dg B m (fun i => d (i + 1))
theorem dg_cg {B : Nat} : ∀ (m : Nat) {d e : Nat → Nat}, (∀ i, i < m → d i = e i) → dg B m d = dg B m e
  | 0, _, _, _ => rfl
  | m + 1, d, e, h => by
    show d 0 + B * dg B m (fun i => d (i + 1)) = e 0 + B * dg B m (fun i => e (i + 1))
    rw [h 0 (by omega), dg_cg m (fun i hi => h (i + 1) (by omega))]
theorem dg_add {B : Nat} : ∀ (m : Nat) (d e : Nat → Nat), dg B m d + dg B m e = dg B m (fun i => d i + e i)
  | 0, _, _ => rfl
  | m + 1, d, e => by
    show d 0 + B * dg B m (fun i => d (i + 1)) + (e 0 + B * dg B m (fun i => e (i + 1))) = d 0 + e 0 + B * dg B m (fun i => d (i + 1) + e (i + 1))
    rw [← dg_add m (fun i => d (i + 1)) (fun i => e (i + 1)), Nat.mul_add]
    omega
theorem dg_2 {B : Nat} : ∀ (m : Nat) (d : Nat → Nat), dg B (2 * m) d = dg (B * B) m (fun i => d (2 * i) + B * d (2 * i + 1))
  | 0, _ => rfl
  | m + 1, d => by
    show d 0 + B * (d 1 + B * dg B (2 * m) (fun i => d (i + 1 + 1))) = d (2 * 0) + B * d (2 * 0 + 1) + B * B * dg (B * B) m (fun i => d (2 * (i + 1)) + B * d (2 * (i + 1) + 1))
    rw [dg_2 m (fun i => d (i + 1 + 1)), Nat.mul_add, ← Nat.mul_assoc, ← Nat.add_assoc]
    rfl
theorem dg_z {B : Nat} : ∀ (m : Nat) {d : Nat → Nat}, d m = 0 → dg B (m + 1) d = dg B m d
  | 0, d, h => by
    show d 0 + B * 0 = 0
    omega
  | m + 1, d, h => by
    show d 0 + B * dg B (m + 1) (fun i => d (i + 1)) = d 0 + B * dg B m (fun i => d (i + 1))
    rw [dg_z m (d := fun i => d (i + 1)) h]
theorem dg_sh {B m : Nat} {d : Nat → Nat} (h0 : d 0 < B) (hz : d (m + 1) = 0) : dg B (m + 1) d / B = dg B (m + 1) (fun i => d (i + 1)) := by
  rw [dg_z m (d := fun i => d (i + 1)) hz]
  show (d 0 + B * dg B m (fun i => d (i + 1))) / B = _
  rw [Nat.add_mul_div_left _ _ (by omega), Nat.div_eq_of_lt h0, Nat.zero_add]
theorem dg_lt {B : Nat} : ∀ (m : Nat) {d : Nat → Nat}, (∀ i, i < m → d i < B) → dg B m d < B ^ m
  | 0, _, _ => by show 0 < 1; omega
  | m + 1, d, h => by
    show d 0 + B * dg B m (fun i => d (i + 1)) < B ^ (m + 1)
    have h1 := dg_lt m (d := fun i => d (i + 1)) (fun i hi => h (i + 1) (by omega))
    have h2 : d 0 < B := h 0 (by omega)
    have h3 : B * (dg B m (fun i => d (i + 1)) + 1) ≤ B * B ^ m := Nat.mul_le_mul_left B h1
    rw [Nat.pow_succ, Nat.mul_comm (B ^ m) B]
    rw [Nat.mul_add] at h3
    omega
theorem and_two {k a b c d : Nat} (hb : b < 2 ^ k) (hd : d < 2 ^ k) : (b + 2 ^ k * a) &&& (d + 2 ^ k * c) = (b &&& d) + 2 ^ k * (a &&& c) := by
  have hbd : b &&& d < 2 ^ k := Nat.lt_of_le_of_lt Nat.and_le_left hb
  apply Nat.eq_of_testBit_eq
  intro j
  rw [Nat.add_comm b, Nat.add_comm d, Nat.add_comm (b &&& d), Nat.testBit_and, Nat.testBit_two_pow_mul_add _ hb, Nat.testBit_two_pow_mul_add _ hd, Nat.testBit_two_pow_mul_add _ hbd]
  split
  · rw [Nat.testBit_and]
  · rw [Nat.testBit_and]
theorem dg_and {w : Nat} : ∀ (m : Nat) {d : Nat → Nat}, (∀ i, i < 2 * m → d i < 2 ^ w) → dg (2 ^ w) (2 * m) d &&& dg (2 ^ w * 2 ^ w) m (fun _ => 2 ^ w - 1) = dg (2 ^ w * 2 ^ w) m (fun i => d (2 * i))
  | 0, _, _ => by show (0 : Nat) &&& 0 = 0; rfl
  | m + 1, d, h => by
    have hp : 0 < 2 ^ w := Nat.two_pow_pos w
    have h0 : d 0 < 2 ^ w := h 0 (by omega)
    have h1 : d 1 < 2 ^ w := h 1 (by omega)
    have ih := dg_and m (d := fun i => d (i + 2)) (fun i hi => h (i + 2) (by omega))
    have e1 : dg (2 ^ w) (2 * (m + 1)) d = (d 0 + 2 ^ w * d 1) + 2 ^ (w + w) * dg (2 ^ w) (2 * m) (fun i => d (i + 2)) := by
      show d 0 + 2 ^ w * (d 1 + 2 ^ w * dg (2 ^ w) (2 * m) (fun i => d (i + 1 + 1))) = _
      rw [Nat.mul_add, ← Nat.mul_assoc, ← Nat.add_assoc, ← Nat.pow_add]
    have e2 : dg (2 ^ w * 2 ^ w) (m + 1) (fun _ => 2 ^ w - 1) = (2 ^ w - 1) + 2 ^ (w + w) * dg (2 ^ w * 2 ^ w) m (fun _ => 2 ^ w - 1) := by
      show (2 ^ w - 1) + 2 ^ w * 2 ^ w * dg (2 ^ w * 2 ^ w) m (fun _ => 2 ^ w - 1) = _
      rw [← Nat.pow_add]
    have hb : d 0 + 2 ^ w * d 1 < 2 ^ (w + w) := by
      rw [Nat.pow_add]
      have h3 : 2 ^ w * (d 1 + 1) ≤ 2 ^ w * 2 ^ w := Nat.mul_le_mul_left _ h1
      rw [Nat.mul_add] at h3
      omega
    have hd : 2 ^ w - 1 < 2 ^ (w + w) := by
      rw [Nat.pow_add]
      have h3 : 2 ^ w * 1 ≤ 2 ^ w * 2 ^ w := Nat.mul_le_mul_left _ hp
      omega
    rw [e1, e2, and_two hb hd, ih, Nat.and_two_pow_sub_one_eq_mod, Nat.add_mul_mod_self_left, Nat.mod_eq_of_lt h0, Nat.pow_add]
    rfl
def b1 (N : Nat) (i : Nat) : Nat := if N.testBit i = true then 1 else 0
theorem b1_le (N i : Nat) : b1 N i ≤ 1 := by unfold b1; split <;> omega
theorem dg_bits : ∀ (m N : Nat), N < 2 ^ m → N = dg 2 m (b1 N)
  | 0, N, h => by
    have : N < 1 := h
    show N = 0
    omega
  | m + 1, N, h => by
    have h1 : N / 2 < 2 ^ m := by
      rw [Nat.pow_succ] at h
      omega
    have ih := dg_bits m (N / 2) h1
    have e : dg 2 m (fun i => b1 N (i + 1)) = dg 2 m (b1 (N / 2)) := dg_cg m fun i _ => by
      unfold b1
      rw [Nat.testBit_succ]
    show N = b1 N 0 + 2 * dg 2 m (fun i => b1 N (i + 1))
    rw [e, ← ih]
    unfold b1
    rw [Nat.testBit_zero]
    by_cases h2 : N % 2 = 1
    · rw [decide_eq_true h2, if_pos rfl]; omega
    · rw [decide_eq_false h2, if_neg (by decide)]; omega
theorem lN_subS {a b : Nat} (h : b ≤ a) : lN a - lN b = lN (a - b) := lN_sub h
section BCT
variable (d : Nat → Nat) (hd : ∀ i, d i ≤ 1) (hz : ∀ i, 64 ≤ i → d i = 0)
/-- two by two -/
def q1 (d : Nat → Nat) (i : Nat) : Nat := d (2 * i) + d (2 * i + 1)
theorem q1_le {d : Nat → Nat} {k : Nat} (h : ∀ i, d i ≤ k) (i : Nat) : q1 d i ≤ 2 * k := by
  unfold q1
  have h1 := h (2 * i)
  have h2 := h (2 * i + 1)
  omega
theorem q1_z {d : Nat → Nat} {m : Nat} (h : ∀ i, 2 * m ≤ i → d i = 0) (i : Nat) (hi : m ≤ i) : q1 d i = 0 := by
  unfold q1
  rw [h (2 * i) (by omega), h (2 * i + 1) (by omega)]
/-- the half step: those at odd places -/
theorem dg_odd {w m : Nat} {d : Nat → Nat} (h : ∀ i, d i < 2 ^ w) (hz : d (2 * (m + 1)) = 0) : dg (2 ^ w) (2 * (m + 1)) d / 2 ^ w &&& dg (2 ^ w * 2 ^ w) (m + 1) (fun _ => 2 ^ w - 1) = dg (2 ^ w * 2 ^ w) (m + 1) (fun i => d (2 * i + 1)) := by
  have e : dg (2 ^ w) (2 * (m + 1)) d / 2 ^ w = dg (2 ^ w) (2 * (m + 1)) (fun i => d (i + 1)) := dg_sh (m := 2 * m + 1) (h 0) hz
  rw [e]
  exact dg_and (m + 1) (fun i _ => h (i + 1))
end BCT
theorem bc_s1 {d : Nat → Nat} (hd : ∀ i, d i ≤ 1) (hz : ∀ i, 64 ≤ i → d i = 0) : dg 2 64 d - (dg 2 64 d / 2 &&& 6148914691236517205) = dg 4 32 (q1 d) ∧ (dg 2 64 d / 2 &&& 6148914691236517205) ≤ dg 2 64 d := by
  have e1 : dg 2 64 d / 2 &&& 6148914691236517205 = dg 4 32 (fun i => d (2 * i + 1)) := dg_odd (w := 1) (m := 31) (fun i => by have := hd i; show d i < 2; omega) (hz 64 (by omega))
  have e2 : dg 2 64 d = dg 4 32 (fun i => d (2 * i) + 2 * d (2 * i + 1)) := dg_2 (B := 2) 32 d
  have e3 : dg 4 32 (q1 d) + dg 4 32 (fun i => d (2 * i + 1)) = dg 4 32 (fun i => d (2 * i) + 2 * d (2 * i + 1)) := by
    rw [dg_add]
    refine dg_cg 32 fun i _ => ?_
    unfold q1
    omega
  rw [e1, e2]
  omega
theorem bc_s2 {d : Nat → Nat} (hd : ∀ i, d i ≤ 2) (hz : ∀ i, 32 ≤ i → d i = 0) : (dg 4 32 d &&& 3689348814741910323) + (dg 4 32 d / 4 &&& 3689348814741910323) = dg 16 16 (q1 d) := by
  have e1 : dg 4 32 d / 4 &&& 3689348814741910323 = dg 16 16 (fun i => d (2 * i + 1)) := dg_odd (w := 2) (m := 15) (fun i => by have := hd i; show d i < 4; omega) (hz 32 (by omega))
  have e2 : dg 4 32 d &&& 3689348814741910323 = dg 16 16 (fun i => d (2 * i)) := dg_and (w := 2) 16 (fun i _ => by have := hd i; show d i < 4; omega)
  rw [e1, e2, dg_add]
  rfl
theorem bc_s3 {d : Nat → Nat} (hd : ∀ i, d i ≤ 4) (hz : ∀ i, 16 ≤ i → d i = 0) : (dg 16 16 d + dg 16 16 d / 16) &&& 1085102592571150095 = dg 256 8 (q1 d) := by
  have e1 : dg 16 16 d / 16 = dg 16 16 (fun i => d (i + 1)) := dg_sh (m := 15) (by have := hd 0; omega) (hz 16 (by omega))
  rw [e1, dg_add]
  exact dg_and (w := 4) 8 (fun i _ => by have := hd i; have := hd (i + 1); show d i + d (i + 1) < 16; omega)
theorem bc_s4 {d : Nat → Nat} {k : Nat} (hd : ∀ i, d i ≤ k) (hk : k < 256) (hz : ∀ i, 8 ≤ i → d i = 0) : dg 256 8 d / 256 = dg 256 8 (fun i => d (i + 1)) := dg_sh (m := 7) (by have := hd 0; omega) (hz 8 (by omega))
theorem dg_cnt (N : Nat) : q1 (q1 (q1 (b1 N))) 0 + q1 (q1 (q1 (b1 N))) 1 + (q1 (q1 (q1 (b1 N))) 2 + q1 (q1 (q1 (b1 N))) 3) + (q1 (q1 (q1 (b1 N))) 4 + q1 (q1 (q1 (b1 N))) 5 + (q1 (q1 (q1 (b1 N))) 6 + q1 (q1 (q1 (b1 N))) 7)) = cnt 64 (fun c => N.testBit c) := by
  have e : ∀ n, cnt (n + 1) (fun c => N.testBit c) = cnt n (fun c => N.testBit c) + b1 N n := fun _ => rfl
  have z : cnt 0 (fun c => N.testBit c) = 0 := rfl
  simp only [e, z, q1, Nat.reduceMul, Nat.reduceAdd]
  omega
theorem and127 (D : Nat) : nI D &&& nI 127 = nI (D % 128) := by
  have h1 := pk_and (nI D) (m := nI 127) 7 (by decide)
  have h2 : (nI D).toBitVec.toNat = D % 2 ^ 32 := BitVec.toNat_ofNat _ _
  rw [h1, h2]
  exact congrArg nI (by omega)
set_option maxHeartbeats 8000000 in
theorem bc_64 {N : Nat} (h : N < 2 ^ 64) (w : am_Wd) : am_x 50 [.long (lN N)] w = some (.inl (some (.int (nI (cnt 64 (fun c => N.testBit c))))), w) := by
  have hz : ∀ i, 64 ≤ i → b1 N i = 0 := fun i hi => by
    unfold b1
    rw [Nat.testBit_lt_two_pow (Nat.lt_of_lt_of_le h (Nat.pow_le_pow_right (by decide) hi))]
    rfl
  have d1 := b1_le N
  have d2 := q1_le d1
  have d3 := q1_le d2
  have d4 := q1_le d3
  have z2 : ∀ i, 32 ≤ i → q1 (b1 N) i = 0 := q1_z hz
  have z3 : ∀ i, 16 ≤ i → q1 (q1 (b1 N)) i = 0 := q1_z z2
  have z4 : ∀ i, 8 ≤ i → q1 (q1 (q1 (b1 N))) i = 0 := q1_z z3
  have eN : N = dg 2 64 (b1 N) := dg_bits 64 N h
  have s1 := bc_s1 d1 hz
  rw [← eN] at s1
  have s2 := bc_s2 d2 z2
  have s3 := bc_s3 d3 z3
  have l1 : dg 4 32 (q1 (b1 N)) < 2 ^ 64 := dg_lt (B := 4) 32 (fun i _ => by have := d2 i; omega)
  have l2 : dg 16 16 (q1 (q1 (b1 N))) < 2 ^ 64 := dg_lt (B := 16) 16 (fun i _ => by have := d3 i; omega)
  have l3 : dg 256 8 (q1 (q1 (q1 (b1 N)))) < 2 ^ 64 := dg_lt (B := 256) 8 (fun i _ => by have := d4 i; omega)
  have l2' : dg 16 16 (q1 (q1 (b1 N))) + dg 16 16 (q1 (q1 (b1 N))) / 16 < 2 ^ 64 := by
    have e1 : dg 16 16 (q1 (q1 (b1 N))) / 16 = dg 16 16 (fun i => q1 (q1 (b1 N)) (i + 1)) := dg_sh (m := 15) (by have := d3 0; omega) (z3 16 (by omega))
    rw [e1, dg_add]
    exact dg_lt (B := 16) 16 (fun i _ => by have h1 := d3 i; have h2 := d3 (i + 1); omega)
  generalize hA : dg 4 32 (q1 (b1 N)) = A at *
  generalize hB : dg 16 16 (q1 (q1 (b1 N))) = Bq at *
  have t4 := bc_s4 (d := q1 (q1 (q1 (b1 N)))) (k := 8) d4 (by decide) z4
  have cn := dg_cnt N
  generalize hE : q1 (q1 (q1 (b1 N))) = E at *
  generalize hC : dg 256 8 E = C at *
  have u5 : C + C / 256 = dg 256 8 (fun i => E i + E (i + 1)) := by rw [t4, ← hC, dg_add]
  have u6 : (C + C / 256) / 65536 = dg 256 8 (fun i => E (i + 2) + E (i + 3)) := by
    have a1 : (C + C / 256) / 256 = dg 256 8 (fun i => E (i + 1) + E (i + 1 + 1)) := by
      rw [u5]
      exact dg_sh (m := 7) (d := fun i => E i + E (i + 1)) (by have h1 := d4 0; have h2 := d4 1; show E 0 + E 1 < 256; omega) (by show E 8 + E 9 = 0; rw [z4 8 (by omega), z4 9 (by omega)])
    rw [show (65536 : Nat) = 256 * 256 from rfl, ← Nat.div_div_eq_div_mul, a1]
    exact dg_sh (m := 7) (d := fun i => E (i + 1) + E (i + 1 + 1)) (by have h1 := d4 1; have h2 := d4 2; show E 1 + E 2 < 256; omega) (by show E 9 + E 10 = 0; rw [z4 9 (by omega), z4 10 (by omega)])
  have u7 : C + C / 256 + (C + C / 256) / 65536 = dg 256 8 (fun i => E i + E (i + 1) + (E (i + 2) + E (i + 3))) := by rw [u6, u5, dg_add]
  have g7 : ∀ i, E i + E (i + 1) + (E (i + 2) + E (i + 3)) ≤ 32 := fun i => by have h1 := d4 i; have h2 := d4 (i + 1); have h3 := d4 (i + 2); have h4 := d4 (i + 3); omega
  have y7 : ∀ i, 8 ≤ i → E i + E (i + 1) + (E (i + 2) + E (i + 3)) = 0 := fun i hi => by rw [z4 i hi, z4 (i + 1) (by omega), z4 (i + 2) (by omega), z4 (i + 3) (by omega)]
  generalize hG : (fun i => E i + E (i + 1) + (E (i + 2) + E (i + 3))) = G at *
  have g7' : ∀ i, G i ≤ 32 := fun i => by rw [← hG]; exact g7 i
  have y7' : ∀ i, 8 ≤ i → G i = 0 := fun i hi => by rw [← hG]; exact y7 i hi
  have u8 : dg 256 8 G / 4294967296 = dg 256 8 (fun i => G (i + 4)) := by
    have b1 : dg 256 8 G / 256 = dg 256 8 (fun i => G (i + 1)) := dg_sh (m := 7) (by have := g7' 0; omega) (y7' 8 (by omega))
    have b2 : dg 256 8 (fun i => G (i + 1)) / 256 = dg 256 8 (fun i => G (i + 2)) := dg_sh (m := 7) (d := fun i => G (i + 1)) (by have := g7' 1; show G 1 < 256; omega) (y7' 9 (by omega))
    have b3 : dg 256 8 (fun i => G (i + 2)) / 256 = dg 256 8 (fun i => G (i + 3)) := dg_sh (m := 7) (d := fun i => G (i + 2)) (by have := g7' 2; show G 2 < 256; omega) (y7' 10 (by omega))
    have b4 : dg 256 8 (fun i => G (i + 3)) / 256 = dg 256 8 (fun i => G (i + 4)) := dg_sh (m := 7) (d := fun i => G (i + 3)) (by have := g7' 3; show G 3 < 256; omega) (y7' 11 (by omega))
    rw [show (4294967296 : Nat) = 256 * 256 * 256 * 256 from rfl, ← Nat.div_div_eq_div_mul, ← Nat.div_div_eq_div_mul, ← Nat.div_div_eq_div_mul, b1, b2, b3, b4]
  have u9 : dg 256 8 G + dg 256 8 G / 4294967296 = dg 256 8 (fun i => G i + G (i + 4)) := by rw [u8, dg_add]
  have l5 : C + C / 256 < 2 ^ 64 := by rw [u5]; exact dg_lt (B := 256) 8 (fun i _ => by have h1 := d4 i; have h2 := d4 (i + 1); omega)
  have l7 : dg 256 8 G < 2 ^ 64 := dg_lt (B := 256) 8 (fun i _ => by have := g7' i; omega)
  have fin : (dg 256 8 G + dg 256 8 G / 4294967296) % 128 = cnt 64 (fun c => N.testBit c) := by
    rw [u9]
    show (G 0 + G 4 + 256 * dg 256 7 (fun i => G (i + 1) + G (i + 1 + 4))) % 128 = _
    have h0 : G 0 = E 0 + E 1 + (E 2 + E 3) := by rw [← hG]
    have h4 : G 4 = E 4 + E 5 + (E 6 + E 7) := by rw [← hG]
    have k0 := g7' 0
    have k4 := g7' 4
    have k8 : cnt 64 (fun c => N.testBit c) ≤ 64 := cnt_le _ 64
    omega
  rw [bx50]
  simp only [bk50_0, bk50_10, bk50_24, bk50_34, bk50_41, bk50_48, bk50_55]
  rw [lN_sh h (by decide), wb_and (Nat.lt_of_le_of_lt (Nat.div_le_self _ _) h) (by decide)]
  rw [show N / 2 ^ 1 = N / 2 from rfl, lN_subS s1.2, s1.1]
  rw [lN_sh l1 (by decide), wb_and l1 (by decide), wb_and (Nat.lt_of_le_of_lt (Nat.div_le_self _ _) l1) (by decide), lN_add, show A / 2 ^ 2 = A / 4 from rfl, s2]
  rw [lN_sh l2 (by decide), lN_add, show Bq / 2 ^ 4 = Bq / 16 from rfl, wb_and l2' (by decide), s3]
  rw [lN_sh l3 (by decide), lN_add, show C / 2 ^ 8 = C / 256 from rfl]
  rw [lN_sh l5 (by decide), lN_add, show (C + C / 256) / 2 ^ 16 = (C + C / 256) / 65536 from rfl, u7]
  rw [lN_sh l7 (by decide), lN_add, show dg 256 8 G / 2 ^ 32 = dg 256 8 G / 4294967296 from rfl, lN_i, ← fin]
  rw [and127]
theorem cnt_tail {p : Nat → Bool} {n : Nat} : ∀ k, (∀ c, n ≤ c → p c = false) → cnt (n + k) p = cnt n p
  | 0, _ => rfl
  | k + 1, h => by
    show cnt (n + k) p + (if p (n + k) = true then 1 else 0) = cnt n p
    rw [h (n + k) (by omega), cnt_tail k h]
    rfl
/-- Long.bitCount of a set of cells -/
theorem bc_36 {N : Nat} {p : Nat → Bool} (h : bm N p) (w : am_Wd) : am_x 50 [.long (lN N)] w = some (.inl (some (.int (nI (cnt 36 p)))), w) := by
  rw [bc_64 (bm_lt h)]
  have e : cnt 64 (fun c => N.testBit c) = cnt 36 p := by
    rw [show (64 : Nat) = 36 + 28 from rfl, cnt_tail 28 (fun c hc => by rw [bm_tb h, decide_eq_false (by omega)]; rfl)]
    exact cnt_cg 36 h.2
  rw [e]
