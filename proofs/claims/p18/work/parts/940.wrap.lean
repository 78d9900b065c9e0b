/-! THE LAW'S OWN WRAPPERS OF THE CLASS'S CALLS. Laid by wip/gen/wrap.py. Mine. -/
theorem af_v {m pc : Nat} {v : Option Value} {w : am_Wd} {k : Option Value → am_Wd → am_Rs} {kh : Nat → am_Wd → am_Rs} : am_af m pc (.inl v, w) k kh = k v w := rfl
theorem af_e {m pc h : Nat} {E : String} {w : am_Wd} {k : Option Value → am_Wd → am_Rs} {kh : Nat → am_Wd → am_Rs} (e : am_hd m pc E = some h) : am_af m pc (.inr E, w) k kh = kh h w := by
  show (match am_hd m pc E with | none => some (Sum.inr E, w) | some h => kh h w) = _
  rw [e]
def oI (v : Int32) (_ : Int64) (d : UInt64) (s : Value) : List Value := [.long v.toInt64, .double d, s]
def oZ (v : Int32) (_ : Int64) (d : UInt64) (s : Value) : List Value := [.long (if v = nI 0 then lN 0 else lN 1), .double d, s]
def oJ (v : Int64) (_ : Int64) (d : UInt64) (s : Value) : List Value := [.long v, .double d, s]
def oD (v : UInt64) (a : Int64) (_ : UInt64) (s : Value) : List Value := [.long a, .double v, s]
/-- a wrapper: it answers what was refused; the answer is put into the law's object -/
def WP {α : Type} (F : α → Value) (O : α → Int64 → UInt64 → Value → List Value) (Wm Mc : Nat) (ex : Nat → Nat) (Bd : Nat) (as : List Value) : Prop := ∀ (w w1 : am_Wd) (x u th : Nat) (v : α), am_kf w x 8 = some () → th ≤ Bd → am_x Mc (.ref x :: as) w = some (if th = 0 then .inl (some (F v)) else .inr (am_xn (ex th)), w1) → ∀ (a : Int64) (d : UInt64) (s : Value), cO w1 u 9 [.long a, .double d, s] → ∃ w2, am_x Wm (.ref x :: (as ++ [.ref u])) w = some (.inl (some (.int (nI th))), w2) ∧ (th = 0 → w2 = am_pt w1 u (.inr (9, O v a d s))) ∧ (th ≠ 0 → w2 = w1)

theorem wr_edge (z0 z1 z2 z3 : Int32) : WP Value.int oI 216 166 exA 2 [.int z0, .int z1, .int z2, .int z3] := by
  intro w w1 x u th v kx hB hc a d s hu
  rcases (show th = 0 ∨ th = 1 ∨ th = 2 by omega) with rfl | rfl | rfl
  · have hc : am_x 166 [.ref x, .int z0, .int z1, .int z2, .int z3] w = some (.inl (some (Value.int v)), w1) := hc
    have p1 : am_pf w1 u 9 0 (.long v.toInt64) = some (am_pt w1 u (.inr (9, oI v a d s))) := pfc hu (by show 0 < 3; decide) (by decide)
    refine ⟨_, ?_, fun _ => rfl, fun h => absurd rfl h⟩
    simp only [List.cons_append, List.nil_append]
    simp only [bx216, bk216_0, kx, hc, af_v, bk216_11, bk216_15, Option.bind_some, bct_v, bct_t, otl_s, otl_n, List.cons_append, List.nil_append, List.getElem?_cons_zero, List.getElem?_cons_succ, ↓reduceIte, p1]
  · have hc : am_x 166 [.ref x, .int z0, .int z1, .int z2, .int z3] w = some (.inr (am_xn 0), w1) := hc
    refine ⟨w1, ?_, fun h => absurd h (by decide), fun _ => rfl⟩
    have e : am_hd 216 8 (am_xn 0) = some 20 := by decide +kernel
    have nr : am_nrm 216 20 [none, none, none, none, none, none, none] = [none, none, none, none, none, none, none] := rfl
    simp only [List.cons_append, List.nil_append]
    simp only [bx216, bk216_0, kx, hc, af_e e, nr, bk216_20, Option.bind_some, bct_v, bct_t, otl_s, otl_n, List.cons_append, List.nil_append, List.getElem?_cons_zero, List.getElem?_cons_succ, ↓reduceIte]
  · have hc : am_x 166 [.ref x, .int z0, .int z1, .int z2, .int z3] w = some (.inr (am_xn 1), w1) := hc
    refine ⟨w1, ?_, fun h => absurd h (by decide), fun _ => rfl⟩
    have e : am_hd 216 8 (am_xn 1) = some 24 := by decide +kernel
    have nr : am_nrm 216 24 [none, none, none, none, none, none, none] = [none, none, none, none, none, none, none] := rfl
    simp only [List.cons_append, List.nil_append]
    simp only [bx216, bk216_0, kx, hc, af_e e, nr, bk216_24, Option.bind_some, bct_v, bct_t, otl_s, otl_n, List.cons_append, List.nil_append, List.getElem?_cons_zero, List.getElem?_cons_succ, ↓reduceIte]

theorem wr_lay (z0 : Int32) : WP Value.int oI 233 200 exC 1 [.int z0] := by
  intro w w1 x u th v kx hB hc a d s hu
  rcases (show th = 0 ∨ th = 1 by omega) with rfl | rfl
  · have hc : am_x 200 [.ref x, .int z0] w = some (.inl (some (Value.int v)), w1) := hc
    have p1 : am_pf w1 u 9 0 (.long v.toInt64) = some (am_pt w1 u (.inr (9, oI v a d s))) := pfc hu (by show 0 < 3; decide) (by decide)
    refine ⟨_, ?_, fun _ => rfl, fun h => absurd rfl h⟩
    simp only [List.cons_append, List.nil_append]
    simp only [bx233, bk233_0, kx, hc, af_v, bk233_6, bk233_10, Option.bind_some, bct_v, bct_t, otl_s, otl_n, List.cons_append, List.nil_append, List.getElem?_cons_zero, List.getElem?_cons_succ, ↓reduceIte, p1]
  · have hc : am_x 200 [.ref x, .int z0] w = some (.inr (am_xn 1), w1) := hc
    refine ⟨w1, ?_, fun h => absurd h (by decide), fun _ => rfl⟩
    have e : am_hd 233 3 (am_xn 1) = some 14 := by decide +kernel
    have nr : am_nrm 233 14 [none, none, none, none] = [none, none, none, none] := rfl
    simp only [List.cons_append, List.nil_append]
    simp only [bx233, bk233_0, kx, hc, af_e e, nr, bk233_14, Option.bind_some, bct_v, bct_t, otl_s, otl_n, List.cons_append, List.nil_append, List.getElem?_cons_zero, List.getElem?_cons_succ, ↓reduceIte]

theorem wr_cell (z0 z1 z2 : Int32) : WP Value.int oI 147 90 exA 1 [.int z0, .int z1, .int z2] := by
  intro w w1 x u th v kx hB hc a d s hu
  rcases (show th = 0 ∨ th = 1 by omega) with rfl | rfl
  · have hc : am_x 90 [.ref x, .int z0, .int z1, .int z2] w = some (.inl (some (Value.int v)), w1) := hc
    have p1 : am_pf w1 u 9 0 (.long v.toInt64) = some (am_pt w1 u (.inr (9, oI v a d s))) := pfc hu (by show 0 < 3; decide) (by decide)
    refine ⟨_, ?_, fun _ => rfl, fun h => absurd rfl h⟩
    simp only [List.cons_append, List.nil_append]
    simp only [bx147, bk147_0, kx, hc, af_v, bk147_9, bk147_13, Option.bind_some, bct_v, bct_t, otl_s, otl_n, List.cons_append, List.nil_append, List.getElem?_cons_zero, List.getElem?_cons_succ, ↓reduceIte, p1]
  · have hc : am_x 90 [.ref x, .int z0, .int z1, .int z2] w = some (.inr (am_xn 0), w1) := hc
    refine ⟨w1, ?_, fun h => absurd h (by decide), fun _ => rfl⟩
    have e : am_hd 147 6 (am_xn 0) = some 18 := by decide +kernel
    have nr : am_nrm 147 18 [none, none, none, none, none, none] = [none, none, none, none, none, none] := rfl
    simp only [List.cons_append, List.nil_append]
    simp only [bx147, bk147_0, kx, hc, af_e e, nr, bk147_18, Option.bind_some, bct_v, bct_t, otl_s, otl_n, List.cons_append, List.nil_append, List.getElem?_cons_zero, List.getElem?_cons_succ, ↓reduceIte]

theorem wr_walker (z0 z1 z2 z3 : Int32) : WP Value.int oI 217 167 exA 3 [.int z0, .int z1, .int z2, .int z3] := by
  intro w w1 x u th v kx hB hc a d s hu
  rcases (show th = 0 ∨ th = 1 ∨ th = 2 ∨ th = 3 by omega) with rfl | rfl | rfl | rfl
  · have hc : am_x 167 [.ref x, .int z0, .int z1, .int z2, .int z3] w = some (.inl (some (Value.int v)), w1) := hc
    have p1 : am_pf w1 u 9 0 (.long v.toInt64) = some (am_pt w1 u (.inr (9, oI v a d s))) := pfc hu (by show 0 < 3; decide) (by decide)
    refine ⟨_, ?_, fun _ => rfl, fun h => absurd rfl h⟩
    simp only [List.cons_append, List.nil_append]
    simp only [bx217, bk217_0, kx, hc, af_v, bk217_11, bk217_15, Option.bind_some, bct_v, bct_t, otl_s, otl_n, List.cons_append, List.nil_append, List.getElem?_cons_zero, List.getElem?_cons_succ, ↓reduceIte, p1]
  · have hc : am_x 167 [.ref x, .int z0, .int z1, .int z2, .int z3] w = some (.inr (am_xn 0), w1) := hc
    refine ⟨w1, ?_, fun h => absurd h (by decide), fun _ => rfl⟩
    have e : am_hd 217 8 (am_xn 0) = some 20 := by decide +kernel
    have nr : am_nrm 217 20 [none, none, none, none, none, none, none] = [none, none, none, none, none, none, none] := rfl
    simp only [List.cons_append, List.nil_append]
    simp only [bx217, bk217_0, kx, hc, af_e e, nr, bk217_20, Option.bind_some, bct_v, bct_t, otl_s, otl_n, List.cons_append, List.nil_append, List.getElem?_cons_zero, List.getElem?_cons_succ, ↓reduceIte]
  · have hc : am_x 167 [.ref x, .int z0, .int z1, .int z2, .int z3] w = some (.inr (am_xn 1), w1) := hc
    refine ⟨w1, ?_, fun h => absurd h (by decide), fun _ => rfl⟩
    have e : am_hd 217 8 (am_xn 1) = some 24 := by decide +kernel
    have nr : am_nrm 217 24 [none, none, none, none, none, none, none] = [none, none, none, none, none, none, none] := rfl
    simp only [List.cons_append, List.nil_append]
    simp only [bx217, bk217_0, kx, hc, af_e e, nr, bk217_24, Option.bind_some, bct_v, bct_t, otl_s, otl_n, List.cons_append, List.nil_append, List.getElem?_cons_zero, List.getElem?_cons_succ, ↓reduceIte]
  · have hc : am_x 167 [.ref x, .int z0, .int z1, .int z2, .int z3] w = some (.inr (am_xn 2), w1) := hc
    refine ⟨w1, ?_, fun h => absurd h (by decide), fun _ => rfl⟩
    have e : am_hd 217 8 (am_xn 2) = some 28 := by decide +kernel
    have nr : am_nrm 217 28 [none, none, none, none, none, none, none] = [none, none, none, none, none, none, none] := rfl
    simp only [List.cons_append, List.nil_append]
    simp only [bx217, bk217_0, kx, hc, af_e e, nr, bk217_28, Option.bind_some, bct_v, bct_t, otl_s, otl_n, List.cons_append, List.nil_append, List.getElem?_cons_zero, List.getElem?_cons_succ, ↓reduceIte]

theorem wr_forward (z0 z1 : Int32) : WP Value.int oZ 253 239 exB 2 [.int z0, .int z1] := by
  intro w w1 x u th v kx hB hc a d s hu
  rcases (show th = 0 ∨ th = 1 ∨ th = 2 by omega) with rfl | rfl | rfl
  · have hc : am_x 239 [.ref x, .int z0, .int z1] w = some (.inl (some (Value.int v)), w1) := hc
    have p1 : am_pf w1 u 9 0 (.long (if v = nI 0 then lN 0 else lN 1)) = some (am_pt w1 u (.inr (9, oZ v a d s))) := pfc hu (by show 0 < 3; decide) (by decide)
    refine ⟨_, ?_, fun _ => rfl, fun h => absurd rfl h⟩
    by_cases q : v = nI 0
    · rw [if_pos q] at p1
      simp only [List.cons_append, List.nil_append]
      simp only [bx253, bk253_0, kx, hc, af_v, bk253_7, bk253_14, bk253_10, bk253_15, bk253_18, Option.bind_some, bct_v, bct_t, otl_s, otl_n, List.cons_append, List.nil_append, List.getElem?_cons_zero, List.getElem?_cons_succ, ↓reduceIte, q, p1]
    · rw [if_neg q] at p1
      simp only [List.cons_append, List.nil_append]
      simp only [bx253, bk253_0, kx, hc, af_v, bk253_7, bk253_14, bk253_10, bk253_15, bk253_18, Option.bind_some, bct_v, bct_t, otl_s, otl_n, List.cons_append, List.nil_append, List.getElem?_cons_zero, List.getElem?_cons_succ, ↓reduceIte, q, p1]
  · have hc : am_x 239 [.ref x, .int z0, .int z1] w = some (.inr (am_xn 0), w1) := hc
    refine ⟨w1, ?_, fun h => absurd h (by decide), fun _ => rfl⟩
    have e : am_hd 253 4 (am_xn 0) = some 23 := by decide +kernel
    have nr : am_nrm 253 23 [none, none, none, none, none] = [none, none, none, none, none] := rfl
    simp only [List.cons_append, List.nil_append]
    simp only [bx253, bk253_0, kx, hc, af_e e, nr, bk253_23, Option.bind_some, bct_v, bct_t, otl_s, otl_n, List.cons_append, List.nil_append, List.getElem?_cons_zero, List.getElem?_cons_succ, ↓reduceIte]
  · have hc : am_x 239 [.ref x, .int z0, .int z1] w = some (.inr (am_xn 2), w1) := hc
    refine ⟨w1, ?_, fun h => absurd h (by decide), fun _ => rfl⟩
    have e : am_hd 253 4 (am_xn 2) = some 27 := by decide +kernel
    have nr : am_nrm 253 27 [none, none, none, none, none] = [none, none, none, none, none] := rfl
    simp only [List.cons_append, List.nil_append]
    simp only [bx253, bk253_0, kx, hc, af_e e, nr, bk253_27, Option.bind_some, bct_v, bct_t, otl_s, otl_n, List.cons_append, List.nil_append, List.getElem?_cons_zero, List.getElem?_cons_succ, ↓reduceIte]

theorem wr_turn (z0 z1 z2 : Int32) : WP Value.int oI 254 240 exB 2 [.int z0, .int z1, .int z2] := by
  intro w w1 x u th v kx hB hc a d s hu
  rcases (show th = 0 ∨ th = 1 ∨ th = 2 by omega) with rfl | rfl | rfl
  · have hc : am_x 240 [.ref x, .int z0, .int z1, .int z2] w = some (.inl (some (Value.int v)), w1) := hc
    have p1 : am_pf w1 u 9 0 (.long v.toInt64) = some (am_pt w1 u (.inr (9, oI v a d s))) := pfc hu (by show 0 < 3; decide) (by decide)
    refine ⟨_, ?_, fun _ => rfl, fun h => absurd rfl h⟩
    simp only [List.cons_append, List.nil_append]
    simp only [bx254, bk254_0, kx, hc, af_v, bk254_9, bk254_13, Option.bind_some, bct_v, bct_t, otl_s, otl_n, List.cons_append, List.nil_append, List.getElem?_cons_zero, List.getElem?_cons_succ, ↓reduceIte, p1]
  · have hc : am_x 240 [.ref x, .int z0, .int z1, .int z2] w = some (.inr (am_xn 0), w1) := hc
    refine ⟨w1, ?_, fun h => absurd h (by decide), fun _ => rfl⟩
    have e : am_hd 254 6 (am_xn 0) = some 18 := by decide +kernel
    have nr : am_nrm 254 18 [none, none, none, none, none, none] = [none, none, none, none, none, none] := rfl
    simp only [List.cons_append, List.nil_append]
    simp only [bx254, bk254_0, kx, hc, af_e e, nr, bk254_18, Option.bind_some, bct_v, bct_t, otl_s, otl_n, List.cons_append, List.nil_append, List.getElem?_cons_zero, List.getElem?_cons_succ, ↓reduceIte]
  · have hc : am_x 240 [.ref x, .int z0, .int z1, .int z2] w = some (.inr (am_xn 2), w1) := hc
    refine ⟨w1, ?_, fun h => absurd h (by decide), fun _ => rfl⟩
    have e : am_hd 254 6 (am_xn 2) = some 22 := by decide +kernel
    have nr : am_nrm 254 22 [none, none, none, none, none, none] = [none, none, none, none, none, none] := rfl
    simp only [List.cons_append, List.nil_append]
    simp only [bx254, bk254_0, kx, hc, af_e e, nr, bk254_22, Option.bind_some, bct_v, bct_t, otl_s, otl_n, List.cons_append, List.nil_append, List.getElem?_cons_zero, List.getElem?_cons_succ, ↓reduceIte]

theorem wr_feel (z0 z1 : Int32) : WP Value.int oI 255 241 exB 2 [.int z0, .int z1] := by
  intro w w1 x u th v kx hB hc a d s hu
  rcases (show th = 0 ∨ th = 1 ∨ th = 2 by omega) with rfl | rfl | rfl
  · have hc : am_x 241 [.ref x, .int z0, .int z1] w = some (.inl (some (Value.int v)), w1) := hc
    have p1 : am_pf w1 u 9 0 (.long v.toInt64) = some (am_pt w1 u (.inr (9, oI v a d s))) := pfc hu (by show 0 < 3; decide) (by decide)
    refine ⟨_, ?_, fun _ => rfl, fun h => absurd rfl h⟩
    simp only [List.cons_append, List.nil_append]
    simp only [bx255, bk255_0, kx, hc, af_v, bk255_7, bk255_11, Option.bind_some, bct_v, bct_t, otl_s, otl_n, List.cons_append, List.nil_append, List.getElem?_cons_zero, List.getElem?_cons_succ, ↓reduceIte, p1]
  · have hc : am_x 241 [.ref x, .int z0, .int z1] w = some (.inr (am_xn 0), w1) := hc
    refine ⟨w1, ?_, fun h => absurd h (by decide), fun _ => rfl⟩
    have e : am_hd 255 4 (am_xn 0) = some 16 := by decide +kernel
    have nr : am_nrm 255 16 [none, none, none, none, none] = [none, none, none, none, none] := rfl
    simp only [List.cons_append, List.nil_append]
    simp only [bx255, bk255_0, kx, hc, af_e e, nr, bk255_16, Option.bind_some, bct_v, bct_t, otl_s, otl_n, List.cons_append, List.nil_append, List.getElem?_cons_zero, List.getElem?_cons_succ, ↓reduceIte]
  · have hc : am_x 241 [.ref x, .int z0, .int z1] w = some (.inr (am_xn 2), w1) := hc
    refine ⟨w1, ?_, fun h => absurd h (by decide), fun _ => rfl⟩
    have e : am_hd 255 4 (am_xn 2) = some 20 := by decide +kernel
    have nr : am_nrm 255 20 [none, none, none, none, none] = [none, none, none, none, none] := rfl
    simp only [List.cons_append, List.nil_append]
    simp only [bx255, bk255_0, kx, hc, af_e e, nr, bk255_20, Option.bind_some, bct_v, bct_t, otl_s, otl_n, List.cons_append, List.nil_append, List.getElem?_cons_zero, List.getElem?_cons_succ, ↓reduceIte]

theorem wr_listen (z0 z1 : Int32) : WP Value.int oI 256 242 exB 2 [.int z0, .int z1] := by
  intro w w1 x u th v kx hB hc a d s hu
  rcases (show th = 0 ∨ th = 1 ∨ th = 2 by omega) with rfl | rfl | rfl
  · have hc : am_x 242 [.ref x, .int z0, .int z1] w = some (.inl (some (Value.int v)), w1) := hc
    have p1 : am_pf w1 u 9 0 (.long v.toInt64) = some (am_pt w1 u (.inr (9, oI v a d s))) := pfc hu (by show 0 < 3; decide) (by decide)
    refine ⟨_, ?_, fun _ => rfl, fun h => absurd rfl h⟩
    simp only [List.cons_append, List.nil_append]
    simp only [bx256, bk256_0, kx, hc, af_v, bk256_7, bk256_11, Option.bind_some, bct_v, bct_t, otl_s, otl_n, List.cons_append, List.nil_append, List.getElem?_cons_zero, List.getElem?_cons_succ, ↓reduceIte, p1]
  · have hc : am_x 242 [.ref x, .int z0, .int z1] w = some (.inr (am_xn 0), w1) := hc
    refine ⟨w1, ?_, fun h => absurd h (by decide), fun _ => rfl⟩
    have e : am_hd 256 4 (am_xn 0) = some 16 := by decide +kernel
    have nr : am_nrm 256 16 [none, none, none, none, none] = [none, none, none, none, none] := rfl
    simp only [List.cons_append, List.nil_append]
    simp only [bx256, bk256_0, kx, hc, af_e e, nr, bk256_16, Option.bind_some, bct_v, bct_t, otl_s, otl_n, List.cons_append, List.nil_append, List.getElem?_cons_zero, List.getElem?_cons_succ, ↓reduceIte]
  · have hc : am_x 242 [.ref x, .int z0, .int z1] w = some (.inr (am_xn 2), w1) := hc
    refine ⟨w1, ?_, fun h => absurd h (by decide), fun _ => rfl⟩
    have e : am_hd 256 4 (am_xn 2) = some 20 := by decide +kernel
    have nr : am_nrm 256 20 [none, none, none, none, none] = [none, none, none, none, none] := rfl
    simp only [List.cons_append, List.nil_append]
    simp only [bx256, bk256_0, kx, hc, af_e e, nr, bk256_20, Option.bind_some, bct_v, bct_t, otl_s, otl_n, List.cons_append, List.nil_append, List.getElem?_cons_zero, List.getElem?_cons_succ, ↓reduceIte]

theorem wr_charge (z0 z1 : Int32) : WP Value.int oI 187 133 exA 3 [.int z0, .int z1] := by
  intro w w1 x u th v kx hB hc a d s hu
  rcases (show th = 0 ∨ th = 1 ∨ th = 2 ∨ th = 3 by omega) with rfl | rfl | rfl | rfl
  · have hc : am_x 133 [.ref x, .int z0, .int z1] w = some (.inl (some (Value.int v)), w1) := hc
    have p1 : am_pf w1 u 9 0 (.long v.toInt64) = some (am_pt w1 u (.inr (9, oI v a d s))) := pfc hu (by show 0 < 3; decide) (by decide)
    refine ⟨_, ?_, fun _ => rfl, fun h => absurd rfl h⟩
    simp only [List.cons_append, List.nil_append]
    simp only [bx187, bk187_0, kx, hc, af_v, bk187_7, bk187_11, Option.bind_some, bct_v, bct_t, otl_s, otl_n, List.cons_append, List.nil_append, List.getElem?_cons_zero, List.getElem?_cons_succ, ↓reduceIte, p1]
  · have hc : am_x 133 [.ref x, .int z0, .int z1] w = some (.inr (am_xn 0), w1) := hc
    refine ⟨w1, ?_, fun h => absurd h (by decide), fun _ => rfl⟩
    have e : am_hd 187 4 (am_xn 0) = some 16 := by decide +kernel
    have nr : am_nrm 187 16 [none, none, none, none, none] = [none, none, none, none, none] := rfl
    simp only [List.cons_append, List.nil_append]
    simp only [bx187, bk187_0, kx, hc, af_e e, nr, bk187_16, Option.bind_some, bct_v, bct_t, otl_s, otl_n, List.cons_append, List.nil_append, List.getElem?_cons_zero, List.getElem?_cons_succ, ↓reduceIte]
  · have hc : am_x 133 [.ref x, .int z0, .int z1] w = some (.inr (am_xn 1), w1) := hc
    refine ⟨w1, ?_, fun h => absurd h (by decide), fun _ => rfl⟩
    have e : am_hd 187 4 (am_xn 1) = some 20 := by decide +kernel
    have nr : am_nrm 187 20 [none, none, none, none, none] = [none, none, none, none, none] := rfl
    simp only [List.cons_append, List.nil_append]
    simp only [bx187, bk187_0, kx, hc, af_e e, nr, bk187_20, Option.bind_some, bct_v, bct_t, otl_s, otl_n, List.cons_append, List.nil_append, List.getElem?_cons_zero, List.getElem?_cons_succ, ↓reduceIte]
  · have hc : am_x 133 [.ref x, .int z0, .int z1] w = some (.inr (am_xn 2), w1) := hc
    refine ⟨w1, ?_, fun h => absurd h (by decide), fun _ => rfl⟩
    have e : am_hd 187 4 (am_xn 2) = some 24 := by decide +kernel
    have nr : am_nrm 187 24 [none, none, none, none, none] = [none, none, none, none, none] := rfl
    simp only [List.cons_append, List.nil_append]
    simp only [bx187, bk187_0, kx, hc, af_e e, nr, bk187_24, Option.bind_some, bct_v, bct_t, otl_s, otl_n, List.cons_append, List.nil_append, List.getElem?_cons_zero, List.getElem?_cons_succ, ↓reduceIte]

theorem wr_tellPose (z0 : Int32) : WP Value.int oI 188 134 exA 1 [.int z0] := by
  intro w w1 x u th v kx hB hc a d s hu
  rcases (show th = 0 ∨ th = 1 by omega) with rfl | rfl
  · have hc : am_x 134 [.ref x, .int z0] w = some (.inl (some (Value.int v)), w1) := hc
    have p1 : am_pf w1 u 9 0 (.long v.toInt64) = some (am_pt w1 u (.inr (9, oI v a d s))) := pfc hu (by show 0 < 3; decide) (by decide)
    refine ⟨_, ?_, fun _ => rfl, fun h => absurd rfl h⟩
    simp only [List.cons_append, List.nil_append]
    simp only [bx188, bk188_0, kx, hc, af_v, bk188_6, bk188_10, Option.bind_some, bct_v, bct_t, otl_s, otl_n, List.cons_append, List.nil_append, List.getElem?_cons_zero, List.getElem?_cons_succ, ↓reduceIte, p1]
  · have hc : am_x 134 [.ref x, .int z0] w = some (.inr (am_xn 0), w1) := hc
    refine ⟨w1, ?_, fun h => absurd h (by decide), fun _ => rfl⟩
    have e : am_hd 188 3 (am_xn 0) = some 14 := by decide +kernel
    have nr : am_nrm 188 14 [none, none, none, none] = [none, none, none, none] := rfl
    simp only [List.cons_append, List.nil_append]
    simp only [bx188, bk188_0, kx, hc, af_e e, nr, bk188_14, Option.bind_some, bct_v, bct_t, otl_s, otl_n, List.cons_append, List.nil_append, List.getElem?_cons_zero, List.getElem?_cons_succ, ↓reduceIte]

theorem wr_meet (z0 z1 : Int32) : WP Value.int oI 218 168 exA 3 [.int z0, .int z1] := by
  intro w w1 x u th v kx hB hc a d s hu
  rcases (show th = 0 ∨ th = 1 ∨ th = 2 ∨ th = 3 by omega) with rfl | rfl | rfl | rfl
  · have hc : am_x 168 [.ref x, .int z0, .int z1] w = some (.inl (some (Value.int v)), w1) := hc
    have p1 : am_pf w1 u 9 0 (.long v.toInt64) = some (am_pt w1 u (.inr (9, oI v a d s))) := pfc hu (by show 0 < 3; decide) (by decide)
    refine ⟨_, ?_, fun _ => rfl, fun h => absurd rfl h⟩
    simp only [List.cons_append, List.nil_append]
    simp only [bx218, bk218_0, kx, hc, af_v, bk218_7, bk218_11, Option.bind_some, bct_v, bct_t, otl_s, otl_n, List.cons_append, List.nil_append, List.getElem?_cons_zero, List.getElem?_cons_succ, ↓reduceIte, p1]
  · have hc : am_x 168 [.ref x, .int z0, .int z1] w = some (.inr (am_xn 0), w1) := hc
    refine ⟨w1, ?_, fun h => absurd h (by decide), fun _ => rfl⟩
    have e : am_hd 218 4 (am_xn 0) = some 16 := by decide +kernel
    have nr : am_nrm 218 16 [none, none, none, none, none] = [none, none, none, none, none] := rfl
    simp only [List.cons_append, List.nil_append]
    simp only [bx218, bk218_0, kx, hc, af_e e, nr, bk218_16, Option.bind_some, bct_v, bct_t, otl_s, otl_n, List.cons_append, List.nil_append, List.getElem?_cons_zero, List.getElem?_cons_succ, ↓reduceIte]
  · have hc : am_x 168 [.ref x, .int z0, .int z1] w = some (.inr (am_xn 1), w1) := hc
    refine ⟨w1, ?_, fun h => absurd h (by decide), fun _ => rfl⟩
    have e : am_hd 218 4 (am_xn 1) = some 20 := by decide +kernel
    have nr : am_nrm 218 20 [none, none, none, none, none] = [none, none, none, none, none] := rfl
    simp only [List.cons_append, List.nil_append]
    simp only [bx218, bk218_0, kx, hc, af_e e, nr, bk218_20, Option.bind_some, bct_v, bct_t, otl_s, otl_n, List.cons_append, List.nil_append, List.getElem?_cons_zero, List.getElem?_cons_succ, ↓reduceIte]
  · have hc : am_x 168 [.ref x, .int z0, .int z1] w = some (.inr (am_xn 2), w1) := hc
    refine ⟨w1, ?_, fun h => absurd h (by decide), fun _ => rfl⟩
    have e : am_hd 218 4 (am_xn 2) = some 24 := by decide +kernel
    have nr : am_nrm 218 24 [none, none, none, none, none] = [none, none, none, none, none] := rfl
    simp only [List.cons_append, List.nil_append]
    simp only [bx218, bk218_0, kx, hc, af_e e, nr, bk218_24, Option.bind_some, bct_v, bct_t, otl_s, otl_n, List.cons_append, List.nil_append, List.getElem?_cons_zero, List.getElem?_cons_succ, ↓reduceIte]

theorem wr_pass (z0 : Int32) : WP Value.int oI 189 135 exC 2 [.int z0] := by
  intro w w1 x u th v kx hB hc a d s hu
  rcases (show th = 0 ∨ th = 1 ∨ th = 2 by omega) with rfl | rfl | rfl
  · have hc : am_x 135 [.ref x, .int z0] w = some (.inl (some (Value.int v)), w1) := hc
    have p1 : am_pf w1 u 9 0 (.long v.toInt64) = some (am_pt w1 u (.inr (9, oI v a d s))) := pfc hu (by show 0 < 3; decide) (by decide)
    refine ⟨_, ?_, fun _ => rfl, fun h => absurd rfl h⟩
    simp only [List.cons_append, List.nil_append]
    simp only [bx189, bk189_0, kx, hc, af_v, bk189_6, bk189_10, Option.bind_some, bct_v, bct_t, otl_s, otl_n, List.cons_append, List.nil_append, List.getElem?_cons_zero, List.getElem?_cons_succ, ↓reduceIte, p1]
  · have hc : am_x 135 [.ref x, .int z0] w = some (.inr (am_xn 1), w1) := hc
    refine ⟨w1, ?_, fun h => absurd h (by decide), fun _ => rfl⟩
    have e : am_hd 189 3 (am_xn 1) = some 14 := by decide +kernel
    have nr : am_nrm 189 14 [none, none, none, none] = [none, none, none, none] := rfl
    simp only [List.cons_append, List.nil_append]
    simp only [bx189, bk189_0, kx, hc, af_e e, nr, bk189_14, Option.bind_some, bct_v, bct_t, otl_s, otl_n, List.cons_append, List.nil_append, List.getElem?_cons_zero, List.getElem?_cons_succ, ↓reduceIte]
  · have hc : am_x 135 [.ref x, .int z0] w = some (.inr (am_xn 2), w1) := hc
    refine ⟨w1, ?_, fun h => absurd h (by decide), fun _ => rfl⟩
    have e : am_hd 189 3 (am_xn 2) = some 17 := by decide +kernel
    have nr : am_nrm 189 17 [none, none, none, none] = [none, none, none, none] := rfl
    simp only [List.cons_append, List.nil_append]
    simp only [bx189, bk189_0, kx, hc, af_e e, nr, bk189_17, Option.bind_some, bct_v, bct_t, otl_s, otl_n, List.cons_append, List.nil_append, List.getElem?_cons_zero, List.getElem?_cons_succ, ↓reduceIte]

theorem wr_ofEdge (z0 z1 z2 : Int32) : WP Value.int oI 219 169 exA 2 [.int z0, .int z1, .int z2] := by
  intro w w1 x u th v kx hB hc a d s hu
  rcases (show th = 0 ∨ th = 1 ∨ th = 2 by omega) with rfl | rfl | rfl
  · have hc : am_x 169 [.ref x, .int z0, .int z1, .int z2] w = some (.inl (some (Value.int v)), w1) := hc
    have p1 : am_pf w1 u 9 0 (.long v.toInt64) = some (am_pt w1 u (.inr (9, oI v a d s))) := pfc hu (by show 0 < 3; decide) (by decide)
    refine ⟨_, ?_, fun _ => rfl, fun h => absurd rfl h⟩
    simp only [List.cons_append, List.nil_append]
    simp only [bx219, bk219_0, kx, hc, af_v, bk219_9, bk219_13, Option.bind_some, bct_v, bct_t, otl_s, otl_n, List.cons_append, List.nil_append, List.getElem?_cons_zero, List.getElem?_cons_succ, ↓reduceIte, p1]
  · have hc : am_x 169 [.ref x, .int z0, .int z1, .int z2] w = some (.inr (am_xn 0), w1) := hc
    refine ⟨w1, ?_, fun h => absurd h (by decide), fun _ => rfl⟩
    have e : am_hd 219 6 (am_xn 0) = some 18 := by decide +kernel
    have nr : am_nrm 219 18 [none, none, none, none, none, none] = [none, none, none, none, none, none] := rfl
    simp only [List.cons_append, List.nil_append]
    simp only [bx219, bk219_0, kx, hc, af_e e, nr, bk219_18, Option.bind_some, bct_v, bct_t, otl_s, otl_n, List.cons_append, List.nil_append, List.getElem?_cons_zero, List.getElem?_cons_succ, ↓reduceIte]
  · have hc : am_x 169 [.ref x, .int z0, .int z1, .int z2] w = some (.inr (am_xn 1), w1) := hc
    refine ⟨w1, ?_, fun h => absurd h (by decide), fun _ => rfl⟩
    have e : am_hd 219 6 (am_xn 1) = some 22 := by decide +kernel
    have nr : am_nrm 219 22 [none, none, none, none, none, none] = [none, none, none, none, none, none] := rfl
    simp only [List.cons_append, List.nil_append]
    simp only [bx219, bk219_0, kx, hc, af_e e, nr, bk219_22, Option.bind_some, bct_v, bct_t, otl_s, otl_n, List.cons_append, List.nil_append, List.getElem?_cons_zero, List.getElem?_cons_succ, ↓reduceIte]

theorem wr_ofWalker (z0 z1 : Int32) : WP Value.int oI 234 201 exA 2 [.int z0, .int z1] := by
  intro w w1 x u th v kx hB hc a d s hu
  rcases (show th = 0 ∨ th = 1 ∨ th = 2 by omega) with rfl | rfl | rfl
  · have hc : am_x 201 [.ref x, .int z0, .int z1] w = some (.inl (some (Value.int v)), w1) := hc
    have p1 : am_pf w1 u 9 0 (.long v.toInt64) = some (am_pt w1 u (.inr (9, oI v a d s))) := pfc hu (by show 0 < 3; decide) (by decide)
    refine ⟨_, ?_, fun _ => rfl, fun h => absurd rfl h⟩
    simp only [List.cons_append, List.nil_append]
    simp only [bx234, bk234_0, kx, hc, af_v, bk234_7, bk234_11, Option.bind_some, bct_v, bct_t, otl_s, otl_n, List.cons_append, List.nil_append, List.getElem?_cons_zero, List.getElem?_cons_succ, ↓reduceIte, p1]
  · have hc : am_x 201 [.ref x, .int z0, .int z1] w = some (.inr (am_xn 0), w1) := hc
    refine ⟨w1, ?_, fun h => absurd h (by decide), fun _ => rfl⟩
    have e : am_hd 234 4 (am_xn 0) = some 16 := by decide +kernel
    have nr : am_nrm 234 16 [none, none, none, none, none] = [none, none, none, none, none] := rfl
    simp only [List.cons_append, List.nil_append]
    simp only [bx234, bk234_0, kx, hc, af_e e, nr, bk234_16, Option.bind_some, bct_v, bct_t, otl_s, otl_n, List.cons_append, List.nil_append, List.getElem?_cons_zero, List.getElem?_cons_succ, ↓reduceIte]
  · have hc : am_x 201 [.ref x, .int z0, .int z1] w = some (.inr (am_xn 1), w1) := hc
    refine ⟨w1, ?_, fun h => absurd h (by decide), fun _ => rfl⟩
    have e : am_hd 234 4 (am_xn 1) = some 20 := by decide +kernel
    have nr : am_nrm 234 20 [none, none, none, none, none] = [none, none, none, none, none] := rfl
    simp only [List.cons_append, List.nil_append]
    simp only [bx234, bk234_0, kx, hc, af_e e, nr, bk234_20, Option.bind_some, bct_v, bct_t, otl_s, otl_n, List.cons_append, List.nil_append, List.getElem?_cons_zero, List.getElem?_cons_succ, ↓reduceIte]

theorem wr_house (z0 : Int32) : WP Value.int oI 190 136 exC 1 [.int z0] := by
  intro w w1 x u th v kx hB hc a d s hu
  rcases (show th = 0 ∨ th = 1 by omega) with rfl | rfl
  · have hc : am_x 136 [.ref x, .int z0] w = some (.inl (some (Value.int v)), w1) := hc
    have p1 : am_pf w1 u 9 0 (.long v.toInt64) = some (am_pt w1 u (.inr (9, oI v a d s))) := pfc hu (by show 0 < 3; decide) (by decide)
    refine ⟨_, ?_, fun _ => rfl, fun h => absurd rfl h⟩
    simp only [List.cons_append, List.nil_append]
    simp only [bx190, bk190_0, kx, hc, af_v, bk190_6, bk190_10, Option.bind_some, bct_v, bct_t, otl_s, otl_n, List.cons_append, List.nil_append, List.getElem?_cons_zero, List.getElem?_cons_succ, ↓reduceIte, p1]
  · have hc : am_x 136 [.ref x, .int z0] w = some (.inr (am_xn 1), w1) := hc
    refine ⟨w1, ?_, fun h => absurd h (by decide), fun _ => rfl⟩
    have e : am_hd 190 3 (am_xn 1) = some 14 := by decide +kernel
    have nr : am_nrm 190 14 [none, none, none, none] = [none, none, none, none] := rfl
    simp only [List.cons_append, List.nil_append]
    simp only [bx190, bk190_0, kx, hc, af_e e, nr, bk190_14, Option.bind_some, bct_v, bct_t, otl_s, otl_n, List.cons_append, List.nil_append, List.getElem?_cons_zero, List.getElem?_cons_succ, ↓reduceIte]

theorem wr_map (z0 z1 z2 : Int32) : WP Value.int oI 191 137 exA 1 [.int z0, .int z1, .int z2] := by
  intro w w1 x u th v kx hB hc a d s hu
  rcases (show th = 0 ∨ th = 1 by omega) with rfl | rfl
  · have hc : am_x 137 [.ref x, .int z0, .int z1, .int z2] w = some (.inl (some (Value.int v)), w1) := hc
    have p1 : am_pf w1 u 9 0 (.long v.toInt64) = some (am_pt w1 u (.inr (9, oI v a d s))) := pfc hu (by show 0 < 3; decide) (by decide)
    refine ⟨_, ?_, fun _ => rfl, fun h => absurd rfl h⟩
    simp only [List.cons_append, List.nil_append]
    simp only [bx191, bk191_0, kx, hc, af_v, bk191_9, bk191_13, Option.bind_some, bct_v, bct_t, otl_s, otl_n, List.cons_append, List.nil_append, List.getElem?_cons_zero, List.getElem?_cons_succ, ↓reduceIte, p1]
  · have hc : am_x 137 [.ref x, .int z0, .int z1, .int z2] w = some (.inr (am_xn 0), w1) := hc
    refine ⟨w1, ?_, fun h => absurd h (by decide), fun _ => rfl⟩
    have e : am_hd 191 6 (am_xn 0) = some 18 := by decide +kernel
    have nr : am_nrm 191 18 [none, none, none, none, none, none] = [none, none, none, none, none, none] := rfl
    simp only [List.cons_append, List.nil_append]
    simp only [bx191, bk191_0, kx, hc, af_e e, nr, bk191_18, Option.bind_some, bct_v, bct_t, otl_s, otl_n, List.cons_append, List.nil_append, List.getElem?_cons_zero, List.getElem?_cons_succ, ↓reduceIte]

theorem wr_may (z0 z1 : Int32) : WP Value.int oZ 192 138 exA 1 [.int z0, .int z1] := by
  intro w w1 x u th v kx hB hc a d s hu
  rcases (show th = 0 ∨ th = 1 by omega) with rfl | rfl
  · have hc : am_x 138 [.ref x, .int z0, .int z1] w = some (.inl (some (Value.int v)), w1) := hc
    have p1 : am_pf w1 u 9 0 (.long (if v = nI 0 then lN 0 else lN 1)) = some (am_pt w1 u (.inr (9, oZ v a d s))) := pfc hu (by show 0 < 3; decide) (by decide)
    refine ⟨_, ?_, fun _ => rfl, fun h => absurd rfl h⟩
    by_cases q : v = nI 0
    · rw [if_pos q] at p1
      simp only [List.cons_append, List.nil_append]
      simp only [bx192, bk192_0, kx, hc, af_v, bk192_7, bk192_14, bk192_10, bk192_15, bk192_18, Option.bind_some, bct_v, bct_t, otl_s, otl_n, List.cons_append, List.nil_append, List.getElem?_cons_zero, List.getElem?_cons_succ, ↓reduceIte, q, p1]
    · rw [if_neg q] at p1
      simp only [List.cons_append, List.nil_append]
      simp only [bx192, bk192_0, kx, hc, af_v, bk192_7, bk192_14, bk192_10, bk192_15, bk192_18, Option.bind_some, bct_v, bct_t, otl_s, otl_n, List.cons_append, List.nil_append, List.getElem?_cons_zero, List.getElem?_cons_succ, ↓reduceIte, q, p1]
  · have hc : am_x 138 [.ref x, .int z0, .int z1] w = some (.inr (am_xn 0), w1) := hc
    refine ⟨w1, ?_, fun h => absurd h (by decide), fun _ => rfl⟩
    have e : am_hd 192 4 (am_xn 0) = some 23 := by decide +kernel
    have nr : am_nrm 192 23 [none, none, none, none, none] = [none, none, none, none, none] := rfl
    simp only [List.cons_append, List.nil_append]
    simp only [bx192, bk192_0, kx, hc, af_e e, nr, bk192_23, Option.bind_some, bct_v, bct_t, otl_s, otl_n, List.cons_append, List.nil_append, List.getElem?_cons_zero, List.getElem?_cons_succ, ↓reduceIte]

theorem wr_where (z0 z1 : Int32) : WP Value.long oJ 193 139 exA 2 [.int z0, .int z1] := by
  intro w w1 x u th v kx hB hc a d s hu
  rcases (show th = 0 ∨ th = 1 ∨ th = 2 by omega) with rfl | rfl | rfl
  · have hc : am_x 139 [.ref x, .int z0, .int z1] w = some (.inl (some (Value.long v)), w1) := hc
    have p1 : am_pf w1 u 9 0 (.long v) = some (am_pt w1 u (.inr (9, oJ v a d s))) := pfc hu (by show 0 < 3; decide) (by decide)
    refine ⟨_, ?_, fun _ => rfl, fun h => absurd rfl h⟩
    simp only [List.cons_append, List.nil_append]
    simp only [bx193, bk193_0, kx, hc, af_v, bk193_7, bk193_10, Option.bind_some, bct_v, bct_t, otl_s, otl_n, List.cons_append, List.nil_append, List.getElem?_cons_zero, List.getElem?_cons_succ, ↓reduceIte, p1]
  · have hc : am_x 139 [.ref x, .int z0, .int z1] w = some (.inr (am_xn 0), w1) := hc
    refine ⟨w1, ?_, fun h => absurd h (by decide), fun _ => rfl⟩
    have e : am_hd 193 4 (am_xn 0) = some 15 := by decide +kernel
    have nr : am_nrm 193 15 [none, none, none, none, none] = [none, none, none, none, none] := rfl
    simp only [List.cons_append, List.nil_append]
    simp only [bx193, bk193_0, kx, hc, af_e e, nr, bk193_15, Option.bind_some, bct_v, bct_t, otl_s, otl_n, List.cons_append, List.nil_append, List.getElem?_cons_zero, List.getElem?_cons_succ, ↓reduceIte]
  · have hc : am_x 139 [.ref x, .int z0, .int z1] w = some (.inr (am_xn 1), w1) := hc
    refine ⟨w1, ?_, fun h => absurd h (by decide), fun _ => rfl⟩
    have e : am_hd 193 4 (am_xn 1) = some 19 := by decide +kernel
    have nr : am_nrm 193 19 [none, none, none, none, none] = [none, none, none, none, none] := rfl
    simp only [List.cons_append, List.nil_append]
    simp only [bx193, bk193_0, kx, hc, af_e e, nr, bk193_19, Option.bind_some, bct_v, bct_t, otl_s, otl_n, List.cons_append, List.nil_append, List.getElem?_cons_zero, List.getElem?_cons_succ, ↓reduceIte]

theorem wr_way (z0 z1 z2 : Int32) : WP Value.int oI 194 140 exA 1 [.int z0, .int z1, .int z2] := by
  intro w w1 x u th v kx hB hc a d s hu
  rcases (show th = 0 ∨ th = 1 by omega) with rfl | rfl
  · have hc : am_x 140 [.ref x, .int z0, .int z1, .int z2] w = some (.inl (some (Value.int v)), w1) := hc
    have p1 : am_pf w1 u 9 0 (.long v.toInt64) = some (am_pt w1 u (.inr (9, oI v a d s))) := pfc hu (by show 0 < 3; decide) (by decide)
    refine ⟨_, ?_, fun _ => rfl, fun h => absurd rfl h⟩
    simp only [List.cons_append, List.nil_append]
    simp only [bx194, bk194_0, kx, hc, af_v, bk194_9, bk194_13, Option.bind_some, bct_v, bct_t, otl_s, otl_n, List.cons_append, List.nil_append, List.getElem?_cons_zero, List.getElem?_cons_succ, ↓reduceIte, p1]
  · have hc : am_x 140 [.ref x, .int z0, .int z1, .int z2] w = some (.inr (am_xn 0), w1) := hc
    refine ⟨w1, ?_, fun h => absurd h (by decide), fun _ => rfl⟩
    have e : am_hd 194 6 (am_xn 0) = some 18 := by decide +kernel
    have nr : am_nrm 194 18 [none, none, none, none, none, none] = [none, none, none, none, none, none] := rfl
    simp only [List.cons_append, List.nil_append]
    simp only [bx194, bk194_0, kx, hc, af_e e, nr, bk194_18, Option.bind_some, bct_v, bct_t, otl_s, otl_n, List.cons_append, List.nil_append, List.getElem?_cons_zero, List.getElem?_cons_succ, ↓reduceIte]

theorem wr_safety (z0 z1 : Int32) : WP Value.int oI 249 223 exA 2 [.int z0, .int z1] := by
  intro w w1 x u th v kx hB hc a d s hu
  rcases (show th = 0 ∨ th = 1 ∨ th = 2 by omega) with rfl | rfl | rfl
  · have hc : am_x 223 [.ref x, .int z0, .int z1] w = some (.inl (some (Value.int v)), w1) := hc
    have p1 : am_pf w1 u 9 0 (.long v.toInt64) = some (am_pt w1 u (.inr (9, oI v a d s))) := pfc hu (by show 0 < 3; decide) (by decide)
    refine ⟨_, ?_, fun _ => rfl, fun h => absurd rfl h⟩
    simp only [List.cons_append, List.nil_append]
    simp only [bx249, bk249_0, kx, hc, af_v, bk249_7, bk249_11, Option.bind_some, bct_v, bct_t, otl_s, otl_n, List.cons_append, List.nil_append, List.getElem?_cons_zero, List.getElem?_cons_succ, ↓reduceIte, p1]
  · have hc : am_x 223 [.ref x, .int z0, .int z1] w = some (.inr (am_xn 0), w1) := hc
    refine ⟨w1, ?_, fun h => absurd h (by decide), fun _ => rfl⟩
    have e : am_hd 249 4 (am_xn 0) = some 16 := by decide +kernel
    have nr : am_nrm 249 16 [none, none, none, none, none] = [none, none, none, none, none] := rfl
    simp only [List.cons_append, List.nil_append]
    simp only [bx249, bk249_0, kx, hc, af_e e, nr, bk249_16, Option.bind_some, bct_v, bct_t, otl_s, otl_n, List.cons_append, List.nil_append, List.getElem?_cons_zero, List.getElem?_cons_succ, ↓reduceIte]
  · have hc : am_x 223 [.ref x, .int z0, .int z1] w = some (.inr (am_xn 1), w1) := hc
    refine ⟨w1, ?_, fun h => absurd h (by decide), fun _ => rfl⟩
    have e : am_hd 249 4 (am_xn 1) = some 20 := by decide +kernel
    have nr : am_nrm 249 20 [none, none, none, none, none] = [none, none, none, none, none] := rfl
    simp only [List.cons_append, List.nil_append]
    simp only [bx249, bk249_0, kx, hc, af_e e, nr, bk249_20, Option.bind_some, bct_v, bct_t, otl_s, otl_n, List.cons_append, List.nil_append, List.getElem?_cons_zero, List.getElem?_cons_succ, ↓reduceIte]

theorem wr_doubt (z0 : Int32) : WP Value.double oD 148 91 exA 1 [.int z0] := by
  intro w w1 x u th v kx hB hc a d s hu
  rcases (show th = 0 ∨ th = 1 by omega) with rfl | rfl
  · have hc : am_x 91 [.ref x, .int z0] w = some (.inl (some (Value.double v)), w1) := hc
    have p1 : am_pf w1 u 9 1 (.double v) = some (am_pt w1 u (.inr (9, oD v a d s))) := pfc hu (by show 1 < 3; decide) (by decide)
    refine ⟨_, ?_, fun _ => rfl, fun h => absurd rfl h⟩
    simp only [List.cons_append, List.nil_append]
    simp only [bx148, bk148_0, kx, hc, af_v, bk148_6, bk148_9, Option.bind_some, bct_v, bct_t, otl_s, otl_n, List.cons_append, List.nil_append, List.getElem?_cons_zero, List.getElem?_cons_succ, ↓reduceIte, p1]
  · have hc : am_x 91 [.ref x, .int z0] w = some (.inr (am_xn 0), w1) := hc
    refine ⟨w1, ?_, fun h => absurd h (by decide), fun _ => rfl⟩
    have e : am_hd 148 3 (am_xn 0) = some 13 := by decide +kernel
    have nr : am_nrm 148 13 [none, none, none, none] = [none, none, none, none] := rfl
    simp only [List.cons_append, List.nil_append]
    simp only [bx148, bk148_0, kx, hc, af_e e, nr, bk148_13, Option.bind_some, bct_v, bct_t, otl_s, otl_n, List.cons_append, List.nil_append, List.getElem?_cons_zero, List.getElem?_cons_succ, ↓reduceIte]

theorem wr_worst (z0 z1 : Int32) : WP Value.int oI 235 202 exA 2 [.int z0, .int z1] := by
  intro w w1 x u th v kx hB hc a d s hu
  rcases (show th = 0 ∨ th = 1 ∨ th = 2 by omega) with rfl | rfl | rfl
  · have hc : am_x 202 [.ref x, .int z0, .int z1] w = some (.inl (some (Value.int v)), w1) := hc
    have p1 : am_pf w1 u 9 0 (.long v.toInt64) = some (am_pt w1 u (.inr (9, oI v a d s))) := pfc hu (by show 0 < 3; decide) (by decide)
    refine ⟨_, ?_, fun _ => rfl, fun h => absurd rfl h⟩
    simp only [List.cons_append, List.nil_append]
    simp only [bx235, bk235_0, kx, hc, af_v, bk235_7, bk235_11, Option.bind_some, bct_v, bct_t, otl_s, otl_n, List.cons_append, List.nil_append, List.getElem?_cons_zero, List.getElem?_cons_succ, ↓reduceIte, p1]
  · have hc : am_x 202 [.ref x, .int z0, .int z1] w = some (.inr (am_xn 0), w1) := hc
    refine ⟨w1, ?_, fun h => absurd h (by decide), fun _ => rfl⟩
    have e : am_hd 235 4 (am_xn 0) = some 16 := by decide +kernel
    have nr : am_nrm 235 16 [none, none, none, none, none] = [none, none, none, none, none] := rfl
    simp only [List.cons_append, List.nil_append]
    simp only [bx235, bk235_0, kx, hc, af_e e, nr, bk235_16, Option.bind_some, bct_v, bct_t, otl_s, otl_n, List.cons_append, List.nil_append, List.getElem?_cons_zero, List.getElem?_cons_succ, ↓reduceIte]
  · have hc : am_x 202 [.ref x, .int z0, .int z1] w = some (.inr (am_xn 1), w1) := hc
    refine ⟨w1, ?_, fun h => absurd h (by decide), fun _ => rfl⟩
    have e : am_hd 235 4 (am_xn 1) = some 20 := by decide +kernel
    have nr : am_nrm 235 20 [none, none, none, none, none] = [none, none, none, none, none] := rfl
    simp only [List.cons_append, List.nil_append]
    simp only [bx235, bk235_0, kx, hc, af_e e, nr, bk235_20, Option.bind_some, bct_v, bct_t, otl_s, otl_n, List.cons_append, List.nil_append, List.getElem?_cons_zero, List.getElem?_cons_succ, ↓reduceIte]

theorem wr_best (z0 : Int32) : WP Value.int oI 236 203 exA 1 [.int z0] := by
  intro w w1 x u th v kx hB hc a d s hu
  rcases (show th = 0 ∨ th = 1 by omega) with rfl | rfl
  · have hc : am_x 203 [.ref x, .int z0] w = some (.inl (some (Value.int v)), w1) := hc
    have p1 : am_pf w1 u 9 0 (.long v.toInt64) = some (am_pt w1 u (.inr (9, oI v a d s))) := pfc hu (by show 0 < 3; decide) (by decide)
    refine ⟨_, ?_, fun _ => rfl, fun h => absurd rfl h⟩
    simp only [List.cons_append, List.nil_append]
    simp only [bx236, bk236_0, kx, hc, af_v, bk236_6, bk236_10, Option.bind_some, bct_v, bct_t, otl_s, otl_n, List.cons_append, List.nil_append, List.getElem?_cons_zero, List.getElem?_cons_succ, ↓reduceIte, p1]
  · have hc : am_x 203 [.ref x, .int z0] w = some (.inr (am_xn 0), w1) := hc
    refine ⟨w1, ?_, fun h => absurd h (by decide), fun _ => rfl⟩
    have e : am_hd 236 3 (am_xn 0) = some 14 := by decide +kernel
    have nr : am_nrm 236 14 [none, none, none, none] = [none, none, none, none] := rfl
    simp only [List.cons_append, List.nil_append]
    simp only [bx236, bk236_0, kx, hc, af_e e, nr, bk236_14, Option.bind_some, bct_v, bct_t, otl_s, otl_n, List.cons_append, List.nil_append, List.getElem?_cons_zero, List.getElem?_cons_succ, ↓reduceIte]

theorem wr_wouldFeel (z0 z1 : Int32) : WP Value.int oI 220 170 exA 2 [.int z0, .int z1] := by
  intro w w1 x u th v kx hB hc a d s hu
  rcases (show th = 0 ∨ th = 1 ∨ th = 2 by omega) with rfl | rfl | rfl
  · have hc : am_x 170 [.ref x, .int z0, .int z1] w = some (.inl (some (Value.int v)), w1) := hc
    have p1 : am_pf w1 u 9 0 (.long v.toInt64) = some (am_pt w1 u (.inr (9, oI v a d s))) := pfc hu (by show 0 < 3; decide) (by decide)
    refine ⟨_, ?_, fun _ => rfl, fun h => absurd rfl h⟩
    simp only [List.cons_append, List.nil_append]
    simp only [bx220, bk220_0, kx, hc, af_v, bk220_7, bk220_11, Option.bind_some, bct_v, bct_t, otl_s, otl_n, List.cons_append, List.nil_append, List.getElem?_cons_zero, List.getElem?_cons_succ, ↓reduceIte, p1]
  · have hc : am_x 170 [.ref x, .int z0, .int z1] w = some (.inr (am_xn 0), w1) := hc
    refine ⟨w1, ?_, fun h => absurd h (by decide), fun _ => rfl⟩
    have e : am_hd 220 4 (am_xn 0) = some 16 := by decide +kernel
    have nr : am_nrm 220 16 [none, none, none, none, none] = [none, none, none, none, none] := rfl
    simp only [List.cons_append, List.nil_append]
    simp only [bx220, bk220_0, kx, hc, af_e e, nr, bk220_16, Option.bind_some, bct_v, bct_t, otl_s, otl_n, List.cons_append, List.nil_append, List.getElem?_cons_zero, List.getElem?_cons_succ, ↓reduceIte]
  · have hc : am_x 170 [.ref x, .int z0, .int z1] w = some (.inr (am_xn 1), w1) := hc
    refine ⟨w1, ?_, fun h => absurd h (by decide), fun _ => rfl⟩
    have e : am_hd 220 4 (am_xn 1) = some 20 := by decide +kernel
    have nr : am_nrm 220 20 [none, none, none, none, none] = [none, none, none, none, none] := rfl
    simp only [List.cons_append, List.nil_append]
    simp only [bx220, bk220_0, kx, hc, af_e e, nr, bk220_20, Option.bind_some, bct_v, bct_t, otl_s, otl_n, List.cons_append, List.nil_append, List.getElem?_cons_zero, List.getElem?_cons_succ, ↓reduceIte]

theorem wr_wouldBe (z0 z1 : Int32) : WP Value.int oI 237 204 exA 2 [.int z0, .int z1] := by
  intro w w1 x u th v kx hB hc a d s hu
  rcases (show th = 0 ∨ th = 1 ∨ th = 2 by omega) with rfl | rfl | rfl
  · have hc : am_x 204 [.ref x, .int z0, .int z1] w = some (.inl (some (Value.int v)), w1) := hc
    have p1 : am_pf w1 u 9 0 (.long v.toInt64) = some (am_pt w1 u (.inr (9, oI v a d s))) := pfc hu (by show 0 < 3; decide) (by decide)
    refine ⟨_, ?_, fun _ => rfl, fun h => absurd rfl h⟩
    simp only [List.cons_append, List.nil_append]
    simp only [bx237, bk237_0, kx, hc, af_v, bk237_7, bk237_11, Option.bind_some, bct_v, bct_t, otl_s, otl_n, List.cons_append, List.nil_append, List.getElem?_cons_zero, List.getElem?_cons_succ, ↓reduceIte, p1]
  · have hc : am_x 204 [.ref x, .int z0, .int z1] w = some (.inr (am_xn 0), w1) := hc
    refine ⟨w1, ?_, fun h => absurd h (by decide), fun _ => rfl⟩
    have e : am_hd 237 4 (am_xn 0) = some 16 := by decide +kernel
    have nr : am_nrm 237 16 [none, none, none, none, none] = [none, none, none, none, none] := rfl
    simp only [List.cons_append, List.nil_append]
    simp only [bx237, bk237_0, kx, hc, af_e e, nr, bk237_16, Option.bind_some, bct_v, bct_t, otl_s, otl_n, List.cons_append, List.nil_append, List.getElem?_cons_zero, List.getElem?_cons_succ, ↓reduceIte]
  · have hc : am_x 204 [.ref x, .int z0, .int z1] w = some (.inr (am_xn 1), w1) := hc
    refine ⟨w1, ?_, fun h => absurd h (by decide), fun _ => rfl⟩
    have e : am_hd 237 4 (am_xn 1) = some 20 := by decide +kernel
    have nr : am_nrm 237 20 [none, none, none, none, none] = [none, none, none, none, none] := rfl
    simp only [List.cons_append, List.nil_append]
    simp only [bx237, bk237_0, kx, hc, af_e e, nr, bk237_20, Option.bind_some, bct_v, bct_t, otl_s, otl_n, List.cons_append, List.nil_append, List.getElem?_cons_zero, List.getElem?_cons_succ, ↓reduceIte]
