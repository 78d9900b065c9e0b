/-! ARITHMETIC ON BOUNDS. Mine. -/
theorem am_bm {n : Int} (h1 : am_lo ≤ n) (h2 : n ≤ am_hi) : n.bmod (2 ^ 32) = n := by
  unfold am_lo at h1
  unfold am_hi at h2
  rw [Int.bmod_eq_of_le] <;> omega
theorem am_rg (x : Int32) : am_lo ≤ x.toInt ∧ x.toInt ≤ am_hi := by
  have h1 := Int32.le_toInt x
  have h2 := Int32.toInt_lt x
  unfold am_lo am_hi
  omega
def am_gk2 (f : Int32 → Int32 → Int32) (g : Int × Int → Int × Int → Int × Int) : Prop := ∀ (a b : Int × Int) (x y : Int32), a.1 ≤ x.toInt → x.toInt ≤ a.2 → b.1 ≤ y.toInt → y.toInt ≤ b.2 → (g a b).1 ≤ (f x y).toInt ∧ (f x y).toInt ≤ (g a b).2
def am_gk1 (f : Int32 → Int32) (g : Int × Int → Int × Int) : Prop := ∀ (a : Int × Int) (x : Int32), a.1 ≤ x.toInt → x.toInt ≤ a.2 → (g a).1 ≤ (f x).toInt ∧ (f x).toInt ≤ (g a).2
theorem am_gk_full (f : Int32 → Int32 → Int32) : am_gk2 f am_full := fun _ _ _ _ _ _ _ _ => am_rg _
theorem am_gk_add : am_gk2 (am_f2 1) am_gadd := by
  intro a b x y h1 h2 h3 h4
  rw [show am_f2 1 x y = x + y from rfl]
  unfold am_gadd
  split
  · rename_i hc
    rw [Bool.and_eq_true, am_le_ok, am_le_ok] at hc
    rw [Int32.toInt_add, am_bm (by omega) (by omega)]
    dsimp only
    omega
  · exact am_rg _
theorem am_gk_sub : am_gk2 (fun x y => x - y) am_gsub := by
  intro a b x y h1 h2 h3 h4
  unfold am_gsub
  split
  · rename_i hc
    rw [Bool.and_eq_true, am_le_ok, am_le_ok] at hc
    dsimp only
    rw [Int32.toInt_sub, am_bm (by omega) (by omega)]
    omega
  · exact am_rg _
theorem am_gk_mul : am_gk2 (am_f2 2) am_gmul := by
  intro a b x y h1 h2 h3 h4
  rw [show am_f2 2 x y = x * y from rfl]
  unfold am_gmul
  split
  · rename_i hc
    rw [Bool.and_eq_true, Bool.and_eq_true, am_le_ok, am_le_ok, am_le_ok] at hc
    obtain ⟨⟨c1, c2⟩, c3⟩ := hc
    have k1 : a.1 * b.1 ≤ x.toInt * y.toInt := Int.mul_le_mul h1 h3 c2 (by omega)
    have k2 : x.toInt * y.toInt ≤ a.2 * b.2 := Int.mul_le_mul h2 h4 (by omega) (by omega)
    have k3 : 0 ≤ a.1 * b.1 := Int.mul_nonneg c1 c2
    rw [Int32.toInt_mul, am_bm (by unfold am_lo; omega) (by omega)]
    exact ⟨k1, k2⟩
  · exact am_rg _
theorem am_div_nn {x y : Int32} (hx : 0 ≤ x.toInt) (hy : 0 < y.toInt) : (x / y).toInt = x.toInt / y.toInt := by
  have hr := am_rg x
  have h1 : x.toInt.tdiv y.toInt = x.toInt / y.toInt := Int.tdiv_eq_ediv_of_nonneg hx
  have h2 : 0 ≤ x.toInt / y.toInt := Int.ediv_nonneg hx (by omega)
  have h3 : x.toInt / y.toInt ≤ x.toInt := Int.ediv_le_self _ hx
  rw [Int32.toInt_div, h1, am_bm (by unfold am_lo; omega) (by omega)]
theorem am_gk_div : am_gk2 (am_f2 5) am_gdiv := by
  intro a b x y h1 h2 h3 h4
  rw [show am_f2 5 x y = x / y from rfl]
  unfold am_gdiv
  split
  · rename_i hc
    rw [Bool.and_eq_true, Bool.and_eq_true, am_le_ok, am_lt_ok, am_ie_ok] at hc
    obtain ⟨⟨c1, c2⟩, c3⟩ := hc
    have hy : y.toInt = b.1 := by omega
    rw [am_div_nn (by omega) (by omega), hy]
    exact ⟨Int.ediv_le_ediv c2 h1, Int.ediv_le_ediv c2 h2⟩
  · exact am_rg _
theorem am_rem_nn {x y : Int32} (hx : 0 ≤ x.toInt) (hy : 0 < y.toInt) : (x - x / y * y).toInt = x.toInt % y.toInt := by
  have hr := am_rg x
  have h0 := am_div_nn hx hy
  have h2 : 0 ≤ x.toInt / y.toInt := Int.ediv_nonneg hx (by omega)
  have h4 := Int.emod_add_mul_ediv x.toInt y.toInt
  have h5 := Int.emod_nonneg x.toInt (show y.toInt ≠ 0 by omega)
  have h6 : y.toInt * (x.toInt / y.toInt) = x.toInt / y.toInt * y.toInt := Int.mul_comm _ _
  have h7 : 0 ≤ x.toInt / y.toInt * y.toInt := Int.mul_nonneg h2 (by omega)
  have h8 : (x / y * y).toInt = x.toInt / y.toInt * y.toInt := by
    rw [Int32.toInt_mul, h0, am_bm (by unfold am_lo; omega) (by omega)]
  rw [Int32.toInt_sub, h8, am_bm (by unfold am_lo; omega) (by omega)]
  omega
theorem am_gk_rem : am_gk2 (am_f2 6) am_grem := by
  intro a b x y h1 h2 h3 h4
  rw [show am_f2 6 x y = x - x / y * y from rfl]
  unfold am_grem
  split
  · rename_i hc
    rw [Bool.and_eq_true, Bool.and_eq_true, am_le_ok, am_lt_ok, am_ie_ok] at hc
    obtain ⟨⟨c1, c2⟩, c3⟩ := hc
    have hy : y.toInt = b.1 := by omega
    rw [am_rem_nn (by omega) (by omega), hy]
    have h5 := Int.emod_nonneg x.toInt (show b.1 ≠ 0 by omega)
    have h6 := Int.emod_lt_of_pos x.toInt c2
    have h7 : x.toInt % b.1 ≤ x.toInt := by
      have k1 := Int.emod_add_mul_ediv x.toInt b.1
      have k2 : 0 ≤ x.toInt / b.1 := Int.ediv_nonneg (by omega) (by omega)
      have k3 : 0 ≤ b.1 * (x.toInt / b.1) := Int.mul_nonneg (by omega) k2
      omega
    refine ⟨h5, ?_⟩
    dsimp only
    split <;> omega
  · exact am_rg _
theorem am_toN {x : Int32} (h : 0 ≤ x.toInt) : (x.toBitVec.toNat : Int) = x.toInt ∧ x.toBitVec.toNat < 2 ^ 31 := by
  have h4 : x.toBitVec.toInt = x.toInt := rfl
  have h5 := BitVec.toInt_eq_toNat_cond x.toBitVec
  have h7 := x.toBitVec.isLt
  rw [h4] at h5
  split at h5 <;> omega
theorem am_ofN {x : Int32} (h : x.toBitVec.toNat < 2 ^ 31) : x.toInt = (x.toBitVec.toNat : Int) := by
  have h4 : x.toBitVec.toInt = x.toInt := rfl
  have h5 := BitVec.toInt_eq_toNat_cond x.toBitVec
  rw [h4] at h5
  split at h5 <;> omega
theorem am_gk_and : am_gk2 (fun x y => x &&& y) am_gand := by
  intro a b x y h1 h2 h3 h4
  have hb : (x &&& y).toBitVec.toNat = x.toBitVec.toNat &&& y.toBitVec.toNat := by
    show (x.toBitVec &&& y.toBitVec).toNat = _
    exact BitVec.toNat_and _ _
  unfold am_gand
  dsimp only
  split
  · rename_i hc
    rw [am_le_ok] at hc
    obtain ⟨k1, k2⟩ := am_toN (x := y) (by omega)
    have k3 : (x &&& y).toBitVec.toNat ≤ y.toBitVec.toNat := by rw [hb]; exact Nat.and_le_right
    rw [am_ofN (by omega)]
    dsimp only
    omega
  · split
    · rename_i hc
      rw [am_le_ok] at hc
      obtain ⟨k1, k2⟩ := am_toN (x := x) (by omega)
      have k3 : (x &&& y).toBitVec.toNat ≤ x.toBitVec.toNat := by rw [hb]; exact Nat.and_le_left
      rw [am_ofN (by omega)]
      dsimp only
      omega
    · exact am_rg _
theorem am_bit {x : Int32} (h1 : 0 ≤ x.toInt) (h2 : x.toInt ≤ 1) : x = 0 ∨ x = 1 := by
  have h : x.toInt = 0 ∨ x.toInt = 1 := by omega
  rcases h with h | h
  · exact Or.inl (Int32.toInt_inj.mp h)
  · exact Or.inr (Int32.toInt_inj.mp h)
theorem am_gk_or : am_gk2 (fun x y => x ||| y) am_gor := by
  intro a b x y h1 h2 h3 h4
  unfold am_gor
  dsimp only
  split
  · rename_i hc
    simp only [Bool.and_eq_true, am_le_ok] at hc
    obtain ⟨⟨⟨c1, c2⟩, c3⟩, c4⟩ := hc
    rcases am_bit (x := x) (by omega) (by omega) with rfl | rfl <;> rcases am_bit (x := y) (by omega) (by omega) with rfl | rfl <;> decide
  · exact am_rg _
theorem am_mx_ge (a b : Int) : a ≤ am_mx a b ∧ b ≤ am_mx a b := by
  unfold am_mx
  split
  · rename_i h; rw [am_lt_ok] at h; omega
  · rename_i h; have := am_lt_no h; omega
theorem am_mi_le (a b : Int) : am_mi a b ≤ a ∧ am_mi a b ≤ b := by
  unfold am_mi
  split
  · rename_i h; rw [am_lt_ok] at h; omega
  · rename_i h; have := am_lt_no h; omega
theorem am_mx_or (a b : Int) : am_mx a b = a ∨ am_mx a b = b := by unfold am_mx; split <;> simp
theorem am_mi_or (a b : Int) : am_mi a b = a ∨ am_mi a b = b := by unfold am_mi; split <;> simp
theorem am_gk_max : am_gk2 (fun x y => if x < y then y else x) am_gmax := by
  intro a b x y h1 h2 h3 h4
  have k1 := am_mx_ge a.2 b.2
  have k2 := am_mx_or a.1 b.1
  unfold am_gmax
  dsimp only
  split
  · rename_i h; have h := Int32.lt_iff_toInt_lt.mp h; rcases k2 with k2 | k2 <;> omega
  · rename_i h; have h : ¬ x.toInt < y.toInt := fun q => h (Int32.lt_iff_toInt_lt.mpr q); rcases k2 with k2 | k2 <;> omega
theorem am_gk_min : am_gk2 (fun x y => if y < x then y else x) am_gmin := by
  intro a b x y h1 h2 h3 h4
  have k1 := am_mi_le a.1 b.1
  have k2 := am_mi_or a.2 b.2
  unfold am_gmin
  dsimp only
  split
  · rename_i h; have h := Int32.lt_iff_toInt_lt.mp h; rcases k2 with k2 | k2 <;> omega
  · rename_i h; have h : ¬ y.toInt < x.toInt := fun q => h (Int32.lt_iff_toInt_lt.mpr q); rcases k2 with k2 | k2 <;> omega
theorem am_gk_abs : am_gk1 (fun x => if 0 ≤ x then x else 0 - x) am_gabs := by
  intro a x h1 h2
  unfold am_gabs
  dsimp only
  split
  · rename_i hc
    rw [am_lt_ok] at hc
    have k1 := am_mx_ge a.2 (-a.1)
    have hr := am_rg x
    split
    · rename_i h; have h : (0 : Int32).toInt ≤ x.toInt := Int32.le_iff_toInt_le.mp h
      have h0 : (0 : Int32).toInt = 0 := rfl
      dsimp only
      omega
    · rename_i h; have h : ¬ (0 : Int32).toInt ≤ x.toInt := fun q => h (Int32.le_iff_toInt_le.mpr q)
      have h0 : (0 : Int32).toInt = 0 := rfl
      unfold am_lo at hc
      rw [Int32.toInt_sub, h0, am_bm (by unfold am_lo; omega) (by unfold am_hi; omega)]
      dsimp only
      omega
  · exact am_rg _
theorem am_gk_neg : am_gk1 (fun x => -x) am_gneg := by
  intro a x h1 h2
  unfold am_gneg
  split
  · rename_i hc
    rw [am_lt_ok] at hc
    have hr := am_rg x
    unfold am_lo am_hi at *
    show _ ≤ (-x).toInt ∧ (-x).toInt ≤ _
    rw [Int32.toInt_neg, am_bm (by unfold am_lo; omega) (by unfold am_hi; omega)]
    dsimp only
    omega
  · exact am_rg _
theorem am_gk_i2b : am_gk1 (fun x => x.toInt8.toInt32) am_gi2b := by
  intro a x h1 h2
  have e : (x.toInt8.toInt32).toInt = x.toInt.bmod (2 ^ 8) := by rw [Int8.toInt_toInt32, Int32.toInt_toInt8]
  unfold am_gi2b
  dsimp only
  rw [e]
  split
  · rename_i hc
    rw [Bool.and_eq_true, am_le_ok, am_le_ok] at hc
    rw [Int.bmod_eq_of_le] <;> omega
  · have h3 := Int.le_bmod (x := x.toInt) (m := 2 ^ 8) (by decide)
    have h4 := Int.bmod_lt (x := x.toInt) (m := 2 ^ 8) (by decide)
    dsimp only
    omega
theorem am_gk_i2c : am_gk1 (fun x => (x.toUInt32 % 65536).toInt32) am_gi2c := by
  intro a x h1 h2
  have e : ((x.toUInt32 % 65536).toInt32).toBitVec.toNat = x.toBitVec.toNat % 65536 := by
    show (x.toBitVec % 65536#32).toNat = _
    rw [BitVec.toNat_umod]
    rfl
  have e2 : ((x.toUInt32 % 65536).toInt32).toBitVec.toNat < 2 ^ 31 := by rw [e]; omega
  unfold am_gi2c
  dsimp only
  rw [am_ofN e2, e]
  split
  · rename_i hc
    rw [Bool.and_eq_true, am_le_ok, am_le_ok] at hc
    have := am_toN (x := x) (by omega)
    omega
  · dsimp only
    omega
/-! a new whole number -/
theorem am_LI_mo {σ σ' : List Int} {τ τ' : List Nat} {w w' : am_Wd} (hσ : σ <+: σ') (hτ : τ <+: τ') (hw : ∀ a t x, w.1 a = some (.inl (t, x)) → 8 ≤ t → w'.1 a = w.1 a) {R : am_Rl} (h : am_LI σ τ w R) : am_LI σ' τ' w' R := fun z hz => am_R1_mo hσ hτ hw (h z hz)
theorem am_IV_env {K : am_K0} {σ σ' : List Int} {τ : List Nat} {ρ : am_Rh} {h : am_Hp} {w : am_Wd} {E' : am_Ev} {R' : am_Rl} (hI : am_IV K σ τ ρ h w) (hs : σ <+: σ') (hE : am_EB E' σ') (hR : am_LI σ' τ w R') : am_IV K σ' τ ρ (E', h.2.1, R', h.2.2.2) w := by
  obtain ⟨⟨e1, ⟨o1, o2, o3, o4⟩, l1, r1⟩, f1, f2, f3, f4, f5, f6⟩ := hI
  exact ⟨⟨hE, ⟨o1, o2, fun o b a p q => (by obtain ⟨x, e, y, z⟩ := o3 o b a p q; exact ⟨x, e, y, am_OV_mo ⟨hs, List.prefix_rfl, fun _ _ h => h⟩ z⟩), o4⟩, hR, r1⟩, f1.trans hs, f2, f3, f4, f5, f6⟩
theorem am_IV.EB {K : am_K0} {σ : List Int} {τ : List Nat} {ρ : am_Rh} {h : am_Hp} {w : am_Wd} (hI : am_IV K σ τ ρ h w) : am_EB h.1 σ := hI.1.1
theorem am_IV.LI {K : am_K0} {σ : List Int} {τ : List Nat} {ρ : am_Rh} {h : am_Hp} {w : am_Wd} (hI : am_IV K σ τ ρ h w) : am_LI σ τ w h.2.2.1 := hI.1.2.2.1
def am_Nw (K : am_K0) (σ : List Int) (τ : List Nat) (ρ : am_Rh) (w : am_Wd) (p : am_I × am_Hp) (x : Int) : Prop := ∃ σ', σ <+: σ' ∧ am_IV K σ' τ ρ p.2 w ∧ am_ev σ' p.1 = some x
theorem am_fr_ok {K : am_K0} {σ : List Int} {τ : List Nat} {ρ : am_Rh} {h : am_Hp} {w : am_Wd} (hI : am_IV K σ τ ρ h w) {lo hi x : Int} (h1 : lo ≤ x) (h2 : x ≤ hi) : am_Nw K σ τ ρ w (am_fr h lo hi) x := by
  unfold am_fr
  split
  · rename_i hc
    have hc := am_ie_ok.mp hc
    exact ⟨σ, List.prefix_rfl, hI, congrArg some (show lo = x by omega)⟩
  · have hs : σ <+: σ ++ [x] := List.prefix_append _ _
    refine ⟨σ ++ [x], hs, am_IV_env hI hs (am_EB_app hI.EB h1 h2) (am_LI_mo hs List.prefix_rfl (fun _ _ _ _ _ => rfl) hI.LI), ?_⟩
    unfold am_ev
    dsimp only
    rw [hI.EB.1]
    simp
theorem am_o2_ok {K : am_K0} {σ : List Int} {τ : List Nat} {ρ : am_Rh} {h : am_Hp} {w : am_Wd} (hI : am_IV K σ τ ρ h w) {f : Int32 → Int32 → Int32} {g : Int × Int → Int × Int → Int × Int} (hg : am_gk2 f g) {q r : am_I} {x y : Int32} (hq : am_ev σ q = some x.toInt) (hr : am_ev σ r = some y.toInt) : am_Nw K σ τ ρ w (am_o2 f g h q r) (f x y).toInt := by
  have b1 := am_bd_ok hI.EB hq
  have b2 := am_bd_ok hI.EB hr
  have hh := hg _ _ x y b1.1 b1.2 b2.1 b2.2
  unfold am_o2
  split
  · rename_i a b ha hb
    rw [← am_kn_ok hI.EB hq ha, ← am_kn_ok hI.EB hr hb, Int32.ofInt_toInt, Int32.ofInt_toInt]
    exact ⟨σ, List.prefix_rfl, hI, rfl⟩
  · exact am_fr_ok hI hh.1 hh.2
theorem am_o1_ok {K : am_K0} {σ : List Int} {τ : List Nat} {ρ : am_Rh} {h : am_Hp} {w : am_Wd} (hI : am_IV K σ τ ρ h w) {f : Int32 → Int32} {g : Int × Int → Int × Int} (hg : am_gk1 f g) {q : am_I} {x : Int32} (hq : am_ev σ q = some x.toInt) : am_Nw K σ τ ρ w (am_o1 f g h q) (f x).toInt := by
  have b1 := am_bd_ok hI.EB hq
  have hh := hg _ x b1.1 b1.2
  unfold am_o1
  split
  · rename_i a ha
    rw [← am_kn_ok hI.EB hq ha, Int32.ofInt_toInt]
    exact ⟨σ, List.prefix_rfl, hI, rfl⟩
  · exact am_fr_ok hI hh.1 hh.2
theorem am_find_ok {k : Nat} {q r x : am_I} : ∀ {R : am_Rl}, am_find k q r R = some x → (k, q, r, x) ∈ R := by
  intro R
  induction R with
  | nil => intro h; cases h
  | cons z t ih =>
    intro h
    unfold am_find at h
    split at h
    · rename_i hc
      simp only [Bool.and_eq_true] at hc
      obtain ⟨⟨c1, c2⟩, c3⟩ := hc
      have e1 := Nat.eq_of_beq_eq_true c1
      have e2 := am_qe_ok c2
      have e3 := am_qe_ok c3
      have e4 := Option.some.inj h
      have e : (k, q, r, x) = z := Prod.ext e1.symm (Prod.ext e2.symm (Prod.ext e3.symm e4.symm))
      rw [e]
      exact List.mem_cons_self
    · exact List.mem_cons_of_mem _ (ih h)
/-- kept: what is found is right; what is new fits the relation -/
theorem am_memo_ok {K : am_K0} {σ : List Int} {τ : List Nat} {ρ : am_Rh} {h : am_Hp} {w : am_Wd} (hI : am_IV K σ τ ρ h w) {k : Nat} {q r : am_I} {b : Int × Int} {x : Int} (hb : b.1 ≤ x ∧ x ≤ b.2)
    (hfound : ∀ z, am_R1 σ τ w (k, q, r, z) → am_ev σ z = some x) (hnew : ∀ σ' z, σ <+: σ' → am_ev σ' z = some x → am_R1 σ' τ w (k, q, r, z)) : am_Nw K σ τ ρ w (am_memo k h q r b) x := by
  unfold am_memo
  split
  · rename_i z hz
    exact ⟨σ, List.prefix_rfl, hI, hfound z (hI.LI _ (am_find_ok hz))⟩
  · obtain ⟨σ', hs, hI', he⟩ := am_fr_ok hI hb.1 hb.2
    rcases hp : am_fr h b.1 b.2 with ⟨z, h'⟩
    rw [hp] at hI' he
    dsimp only
    split
    · exact ⟨σ', hs, hI', he⟩
    · refine ⟨σ', hs, am_IV_env (h := h') hI' List.prefix_rfl hI'.EB (fun y hy => ?_), he⟩
      rcases List.mem_cons.mp hy with rfl | hy
      · exact hnew σ' z hs he
      · exact hI'.LI y hy
theorem am_m2_ok {K : am_K0} {σ : List Int} {τ : List Nat} {ρ : am_Rh} {h : am_Hp} {w : am_Wd} (hI : am_IV K σ τ ρ h w) {k : Nat} (hk : k ≠ 0 ∧ k ≠ 3 ∧ k ≠ 4) {g : Int × Int → Int × Int → Int × Int} (hg : am_gk2 (am_f2 k) g) {q r : am_I} {x y : Int32} (hq : am_ev σ q = some x.toInt) (hr : am_ev σ r = some y.toInt) : am_Nw K σ τ ρ w (am_m2 k g h q r) (am_f2 k x y).toInt := by
  have b1 := am_bd_ok hI.EB hq
  have b2 := am_bd_ok hI.EB hr
  have hh := hg _ _ x y b1.1 b1.2 b2.1 b2.2
  unfold am_m2
  split
  · rename_i a b ha hb
    rw [← am_kn_ok hI.EB hq ha, ← am_kn_ok hI.EB hr hb, Int32.ofInt_toInt, Int32.ofInt_toInt]
    exact ⟨σ, List.prefix_rfl, hI, rfl⟩
  · refine am_memo_ok hI hh (fun z hz => ?_) (fun σ' z hs hz => ?_)
    · unfold am_R1 at hz
      rw [if_neg hk.1, if_neg hk.2.1, if_neg hk.2.2] at hz
      obtain ⟨x', y', e1, e2, e3⟩ := hz
      have e4 : x' = x := Int32.toInt_inj.mp (Option.some.inj (e1.symm.trans hq))
      have e5 : y' = y := Int32.toInt_inj.mp (Option.some.inj (e2.symm.trans hr))
      rw [e4, e5] at e3
      exact e3
    · unfold am_R1
      rw [if_neg hk.1, if_neg hk.2.1, if_neg hk.2.2]
      exact ⟨x, y, am_ev_mo hs hq, am_ev_mo hs hr, hz⟩
theorem am_ev_off {σ : List Int} {i : Option Nat} {c d x : Int} (h : am_ev σ (i, c) = some x) : am_ev σ (i, c + d) = some (x + d) := by
  unfold am_ev at h ⊢
  cases i with
  | none => have h : some c = some x := h; exact congrArg some (by rw [Option.some.inj h])
  | some i =>
    obtain ⟨y, hy, e⟩ := Option.map_eq_some_iff.mp h
    show Option.map _ _ = _
    rw [hy]
    exact congrArg some (by dsimp only at e ⊢; omega)
theorem am_add_ok {K : am_K0} {σ : List Int} {τ : List Nat} {ρ : am_Rh} {h : am_Hp} {w : am_Wd} (hI : am_IV K σ τ ρ h w) {q r : am_I} {x y : Int32} (hq : am_ev σ q = some x.toInt) (hr : am_ev σ r = some y.toInt) : am_Nw K σ τ ρ w (am_add h q r) (x + y).toInt := by
  have b1 := am_bd_ok hI.EB hq
  have b2 := am_bd_ok hI.EB hr
  have key : am_Nw K σ τ ρ w (am_m2 1 am_gadd h q r) (x + y).toInt := am_m2_ok hI (by decide) am_gk_add hq hr
  obtain ⟨qi, qc⟩ := q
  obtain ⟨ri, rc⟩ := r
  unfold am_add
  split
  · rename_i hc
    rw [Bool.and_eq_true, am_le_ok, am_le_ok] at hc
    have hs : (x + y).toInt = x.toInt + y.toInt := by rw [Int32.toInt_add, am_bm (by omega) (by omega)]
    split
    · rename_i e1
      have e1 : ri = none := e1
      subst e1
      have hy : rc = y.toInt := Option.some.inj hr
      refine ⟨σ, List.prefix_rfl, hI, ?_⟩
      rw [hs, ← hy]
      exact am_ev_off hq
    · rename_i j e1 e2
      have e1 : ri = some j := e1
      have e2 : qi = none := e2
      subst e1
      subst e2
      have hx : qc = x.toInt := Option.some.inj hq
      refine ⟨σ, List.prefix_rfl, hI, ?_⟩
      show am_ev σ (some j, qc + rc) = _
      rw [hs, ← hx, Int.add_comm qc rc, Int.add_comm qc]
      exact am_ev_off hr
    · exact key
  · exact key
theorem am_sub_ok {K : am_K0} {σ : List Int} {τ : List Nat} {ρ : am_Rh} {h : am_Hp} {w : am_Wd} (hI : am_IV K σ τ ρ h w) {q r : am_I} {x y : Int32} (hq : am_ev σ q = some x.toInt) (hr : am_ev σ r = some y.toInt) : am_Nw K σ τ ρ w (am_sub h q r) (x - y).toInt := by
  have b1 := am_bd_ok hI.EB hq
  have b2 := am_bd_ok hI.EB hr
  have key : am_Nw K σ τ ρ w (am_o2 (· - ·) am_gsub h q r) (x - y).toInt := am_o2_ok hI am_gk_sub hq hr
  obtain ⟨qi, qc⟩ := q
  obtain ⟨ri, rc⟩ := r
  unfold am_sub
  split
  · rename_i hc
    rw [Bool.and_eq_true, am_le_ok, am_le_ok] at hc
    have hs : (x - y).toInt = x.toInt - y.toInt := by rw [Int32.toInt_sub, am_bm (by omega) (by omega)]
    split
    · rename_i e1
      have e1 : ri = none := e1
      subst e1
      have hy : rc = y.toInt := Option.some.inj hr
      refine ⟨σ, List.prefix_rfl, hI, ?_⟩
      show am_ev σ (qi, qc - rc) = _
      rw [hs, ← hy, Int.sub_eq_add_neg, Int.sub_eq_add_neg]
      exact am_ev_off hq
    · exact key
  · exact key
theorem am_sh_ok {K : am_K0} {σ : List Int} {τ : List Nat} {ρ : am_Rh} {h : am_Hp} {w : am_Wd} (hI : am_IV K σ τ ρ h w) {f : Int32 → Int32 → Int32} (hf : ∀ x, f x 0 = x) {q r : am_I} {x y : Int32} (hq : am_ev σ q = some x.toInt) (hr : am_ev σ r = some y.toInt) : am_Nw K σ τ ρ w (am_sh f h q r) (f x y).toInt := by
  unfold am_sh
  split
  · rename_i hk
    have h0 := am_kn_ok hI.EB hr hk
    have h1 : y = 0 := Int32.toInt_inj.mp h0
    rw [h1, hf]
    exact ⟨σ, List.prefix_rfl, hI, hq⟩
  · exact am_o2_ok hI (am_gk_full f) hq hr
/-! comparing, and what is known behind it -/
theorem am_ev_of {σ : List Int} {q r : am_I} (h : q.1 = r.1) {x y : Int} (hq : am_ev σ q = some x) (hr : am_ev σ r = some y) : x - q.2 = y - r.2 := by
  obtain ⟨qi, qc⟩ := q
  obtain ⟨ri, rc⟩ := r
  have h : qi = ri := h
  subst h
  unfold am_ev at hq hr
  cases qi with
  | none =>
    have h1 : some qc = some x := hq
    have h2 : some rc = some y := hr
    cases h1; cases h2
    show x - x = y - y
    omega
  | some i =>
    obtain ⟨u, hu, e1⟩ := Option.map_eq_some_iff.mp hq
    obtain ⟨v, hv, e2⟩ := Option.map_eq_some_iff.mp hr
    have e3 : u = v := Option.some.inj (hu.symm.trans hv)
    dsimp only at e1 e2 ⊢
    omega
theorem am_cq_ok {h : am_Hp} {σ : List Int} (hE : am_EB h.1 σ) {q r : am_I} {x y : Int} (hq : am_ev σ q = some x) (hr : am_ev σ r = some y) {b : Bool} (hb : am_cq h q r = some b) : b = true ↔ x = y := by
  have b1 := am_bd_ok hE hq
  have b2 := am_bd_ok hE hr
  unfold am_cq at hb
  split at hb
  · rename_i hc
    have h1 := am_ev_of (am_oe_ok hc) hq hr
    obtain rfl := Option.some.inj hb
    rw [am_ie_ok]
    omega
  · split at hb
    · rename_i hc
      rw [Bool.or_eq_true, am_lt_ok, am_lt_ok] at hc
      obtain rfl := Option.some.inj hb
      refine ⟨fun h => (by cases h), fun h => ?_⟩
      omega
    · split at hb
      · rename_i hc
        simp only [Bool.and_eq_true, am_ie_ok] at hc
        obtain rfl := Option.some.inj hb
        refine ⟨fun _ => ?_, fun _ => rfl⟩
        omega
      · cases hb
theorem am_ct1_ok {h : am_Hp} {σ : List Int} (hE : am_EB h.1 σ) {q r : am_I} {x y : Int} (hq : am_ev σ q = some x) (hr : am_ev σ r = some y) {b : Bool} (hb : am_ct1 h q r = some b) : b = true ↔ x < y := by
  have b1 := am_bd_ok hE hq
  have b2 := am_bd_ok hE hr
  unfold am_ct1 at hb
  split at hb
  · rename_i hc
    have h1 := am_ev_of (am_oe_ok hc) hq hr
    obtain rfl := Option.some.inj hb
    rw [am_lt_ok]
    omega
  · split at hb
    · rename_i hc
      rw [am_lt_ok] at hc
      obtain rfl := Option.some.inj hb
      refine ⟨fun _ => ?_, fun _ => rfl⟩
      omega
    · split at hb
      · rename_i hc
        rw [am_le_ok] at hc
        obtain rfl := Option.some.inj hb
        refine ⟨fun h => (by cases h), fun h => ?_⟩
        omega
      · cases hb
theorem am_nt_ok {o : Option Bool} {b : Bool} (h : am_nt o = some b) : o = some (!b) := by
  unfold am_nt at h
  split at h
  · obtain rfl := Option.some.inj h; simp
  · cases h
theorem am_cmp_ok {c : Jvm.ClassFile.Cond} {h : am_Hp} {σ : List Int} (hE : am_EB h.1 σ) {q r : am_I} {x y : Int32} (hq : am_ev σ q = some x.toInt) (hr : am_ev σ r = some y.toInt) {b : Bool} (hb : am_cmp c h q r = some b) : am_cd c x y = b := by
  have he : x.toInt = y.toInt ↔ x = y := Int32.toInt_inj
  have hn : ∀ {b : Bool} {p : Prop}, ((!b) = true ↔ p) → (b = true ↔ ¬ p) := by intro b p h; cases b <;> simp_all
  unfold am_cmp at hb
  unfold am_cd
  split at hb
  · have := am_cq_ok hE hq hr hb
    rw [he] at this
    exact Bool.eq_iff_iff.mpr (by rw [decide_eq_true_eq]; exact this.symm)
  · have := hn (am_cq_ok hE hq hr (am_nt_ok hb))
    rw [he] at this
    exact Bool.eq_iff_iff.mpr (by rw [decide_eq_true_eq]; exact this.symm)
  · have := am_ct1_ok hE hq hr hb
    exact Bool.eq_iff_iff.mpr (by rw [decide_eq_true_eq, Int32.lt_iff_toInt_lt]; exact this.symm)
  · have := hn (am_ct1_ok hE hq hr (am_nt_ok hb))
    exact Bool.eq_iff_iff.mpr (by rw [decide_eq_true_eq, Int32.le_iff_toInt_le, this]; omega)
  · have := am_ct1_ok hE hr hq hb
    exact Bool.eq_iff_iff.mpr (by rw [decide_eq_true_eq, Int32.lt_iff_toInt_lt]; exact this.symm)
  · have := hn (am_ct1_ok hE hr hq (am_nt_ok hb))
    exact Bool.eq_iff_iff.mpr (by rw [decide_eq_true_eq, Int32.le_iff_toInt_le, this]; omega)
theorem am_rlt_ok {K : am_K0} {σ : List Int} {τ : List Nat} {ρ : am_Rh} {h : am_Hp} {w : am_Wd} (hI : am_IV K σ τ ρ h w) {q r : am_I} {x y d : Int} (hq : am_ev σ q = some x) (hr : am_ev σ r = some y) (hd : x + d ≤ y) : am_IV K σ τ ρ (am_rlt h q r d) w := by
  have b1 := am_bd_ok hI.EB hq
  have b2 := am_bd_ok hI.EB hr
  refine am_IV_env hI List.prefix_rfl (am_EB_tg (am_EB_tg hI.EB hq (by omega) (by omega)) hr (by omega) (by omega)) ?_
  split
  · rename_i i j e1 e2
    intro z hz
    rcases List.mem_cons.mp hz with rfl | hz
    · unfold am_R1
      rw [if_pos rfl]
      refine ⟨x + d, y, ?_, hr, hd⟩
      show am_ev σ (some i, q.2 + d) = _
      rw [← e1]
      exact am_ev_off hq
    · exact hI.LI z hz
  · exact hI.LI
theorem am_req_ok {K : am_K0} {σ : List Int} {τ : List Nat} {ρ : am_Rh} {h : am_Hp} {w : am_Wd} (hI : am_IV K σ τ ρ h w) {q r : am_I} {x : Int} (hq : am_ev σ q = some x) (hr : am_ev σ r = some x) : am_IV K σ τ ρ (am_req h q r) w := by
  have b1 := am_bd_ok hI.EB hq
  have b2 := am_bd_ok hI.EB hr
  exact am_IV_env hI List.prefix_rfl (am_EB_tg (am_EB_tg hI.EB hq b2.1 b2.2) hr b1.1 b1.2) hI.LI
theorem am_rne_ok {K : am_K0} {σ : List Int} {τ : List Nat} {ρ : am_Rh} {h : am_Hp} {w : am_Wd} (hI : am_IV K σ τ ρ h w) {q r : am_I} {x y : Int} (hq : am_ev σ q = some x) (hr : am_ev σ r = some y) (hn : x ≠ y) : am_IV K σ τ ρ (am_rne h q r) w := by
  have b1 := am_bd_ok hI.EB hq
  have b2 := am_bd_ok hI.EB hr
  unfold am_rne
  split
  · rename_i c1
    have c1 := am_ie_ok.mp c1
    split
    · rename_i c2
      have c2 := am_ie_ok.mp c2
      exact am_IV_env hI List.prefix_rfl (am_EB_tg hI.EB hq (by omega) (by omega)) hI.LI
    · split
      · rename_i c3
        have c3 := am_ie_ok.mp c3
        exact am_IV_env hI List.prefix_rfl (am_EB_tg hI.EB hq (by omega) (by omega)) hI.LI
      · exact hI
  · exact hI
theorem am_rfc_ok {K : am_K0} {σ : List Int} {τ : List Nat} {ρ : am_Rh} {h : am_Hp} {w : am_Wd} (hI : am_IV K σ τ ρ h w) {c : Jvm.ClassFile.Cond} {q r : am_I} {x y : Int32} (hq : am_ev σ q = some x.toInt) (hr : am_ev σ r = some y.toInt) (hc : am_cd c x y = true) : am_IV K σ τ ρ (am_rfc c h q r) w := by
  unfold am_cd at hc
  unfold am_rfc
  split at hc
  · rw [decide_eq_true_eq] at hc; subst hc; exact am_req_ok hI hq hr
  · rw [decide_eq_true_eq] at hc; exact am_rne_ok hI hq hr (fun h => hc (Int32.toInt_inj.mp h))
  · rw [decide_eq_true_eq, Int32.lt_iff_toInt_lt] at hc; exact am_rlt_ok hI hq hr (by omega)
  · rw [decide_eq_true_eq, Int32.le_iff_toInt_le] at hc; exact am_rlt_ok hI hr hq (by omega)
  · rw [decide_eq_true_eq, Int32.lt_iff_toInt_lt] at hc; exact am_rlt_ok hI hr hq (by omega)
  · rw [decide_eq_true_eq, Int32.le_iff_toInt_le] at hc; exact am_rlt_ok hI hq hr (by omega)
theorem am_ncd_ok {c : Jvm.ClassFile.Cond} {x y : Int32} (h : am_cd c x y = false) : am_cd (am_ncd c) x y = true := by
  unfold am_cd at h
  unfold am_ncd am_cd
  cases c
  all_goals dsimp only at h ⊢
  all_goals rw [decide_eq_false_iff_not] at h
  all_goals rw [decide_eq_true_eq]
  · exact h
  · exact Classical.not_not.mp h
  · rw [Int32.lt_iff_toInt_lt] at h; rw [Int32.le_iff_toInt_le]; omega
  · rw [Int32.le_iff_toInt_le] at h; rw [Int32.lt_iff_toInt_lt]; omega
  · rw [Int32.lt_iff_toInt_lt] at h; rw [Int32.le_iff_toInt_le]; omega
  · rw [Int32.le_iff_toInt_le] at h; rw [Int32.lt_iff_toInt_lt]; omega
