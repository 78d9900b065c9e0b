/-! THE LAW'S STATE AND ITS SMALL METHODS. Mine. -/
theorem ag_v {m pc : Nat} {v : Option Value} {w : am_Wd} {k : Option Value → am_Wd → am_Rs} {kh : Nat → am_Wd → am_Rs} : am_af m pc (.inl v, w) k kh = k v w := rfl
theorem ag_e {m pc h : Nat} {E : String} {w : am_Wd} {k : Option Value → am_Wd → am_Rs} {kh : Nat → am_Wd → am_Rs} (e : am_hd m pc E = some h) : am_af m pc (.inr E, w) k kh = kh h w := by
  unfold am_af
  dsimp only
  rw [e]
def blw (v : Int32) (m : Nat) : Nat := v.toBitVec.toNat % 2147483648 % m
theorem blw_lt {v : Int32} {m : Nat} (h : 0 < m) : blw v m < m := Nat.mod_lt _ h
theorem b31 (v : Int32) : v &&& nI 2147483647 = nI (v.toBitVec.toNat % 2147483648) := by
  apply Int32.toBitVec_inj.mp
  rw [Int32.toBitVec_and]
  show v.toBitVec &&& BitVec.ofNat 32 2147483647 = BitVec.ofNat 32 _
  apply BitVec.eq_of_toNat_eq
  rw [BitVec.toNat_and, BitVec.toNat_ofNat, BitVec.toNat_ofNat, show 2147483647 % 2 ^ 32 = 2 ^ 31 - 1 by decide, Nat.and_two_pow_sub_one_eq_mod]
  have := Nat.mod_lt v.toBitVec.toNat (show 2147483648 > 0 by decide)
  rw [Nat.mod_eq_of_lt (a := v.toBitVec.toNat % 2147483648) (by omega)]
theorem nI_nz0 {m : Nat} (h : 0 < m) (hm : m < 2147483648) : ¬ nI m = 0 := fun q => by
  have : m = 0 := (nI_eqS hm (by decide)).mp (show nI m = nI 0 from q)
  omega
theorem x266 {w : am_Wd} {v : Int32} {m : Nat} (h : 0 < m) (hm : m < 2147483648) : am_x 266 [.int v, .int (nI m)] w = some (.inl (some (.int (nI (blw v m)))), w) := by
  have h1 := Nat.mod_lt v.toBitVec.toNat (show 2147483648 > 0 by decide)
  rw [bx266, bk266_0 (nI_nz0 h hm), bk266_6, b31, nI_remS h1 h hm]
  rfl
/-- a word of the script -/
def scr (L : Nat) (xs : Nat → Int32) (k : Nat) : Int32 := if k < L then xs k else nI 790386105 * (nI k + nI 3)
theorem x267 {w : am_Wd} {b L k : Nat} {xs : Nat → Int32} (h : cI w b 8 L xs) (hL : L < 2147483648) (hk : k < 2147483648) : am_x 267 [.ref b, .int (nI k)] w = some (.inl (some (.int (scr L xs k))), w) := by
  unfold scr
  by_cases q : k < L
  · have e : ¬ L ≤ k := by omega
    rw [if_pos q]
    simp only [bx267, bk267_0, lenI h (by decide), bk267_3, nI_leS hL hk, e, bk267_6, ric h rfl q hL, bk267_9, bk267_18, Option.bind_some, bct_v, bct_t, otl_s, otl_n, List.cons_append, List.nil_append, List.getElem?_cons_zero, List.getElem?_cons_succ, ↓reduceIte]
  · have e : L ≤ k := by omega
    rw [if_neg q]
    simp only [bx267, bk267_0, lenI h (by decide), bk267_3, nI_leS hL hk, e, bk267_12, bk267_18, Option.bind_some, bct_v, bct_t, otl_s, otl_n, List.cons_append, List.nil_append, List.getElem?_cons_zero, List.getElem?_cons_succ, ↓reduceIte]
/-- what stays right; k acts at most -/
def GS (k : Nat) (S : sS) : Prop := okS S ∧ match S with
  | (kd, _, _, _, n, ws, mi, _, dr, _, _, re) => ndk kd ∧ (∀ i, i < n → gdW kd k (ws i)) ∧ mi ≤ 2600 + k ∧ (∃ d, d ≤ k ∧ dr = nI d) ∧ re = nI 0
/-- what an act does -/
def Dn (b : Bool) (act i : Nat) (S S' : sS) : Prop := match S, S' with
  | (kd, hr, _, _, n, ws, mi, _, dr, _, _, _), (kd', hr', _, _, n', ws', mi', _, dr', _, _, _) => kd' = kd ∧ hr' = hr ∧ n' = n ∧ figS (ws' i) 10 = figS (ws i) 10 + b2i b ∧ figS (ws' i) 2 = figS (ws i) 2 - b2i b ∧ (act = 6 ∨ nI mi' = nI mi + b2i b) ∧ ¬ dr' < dr ∧ knn (ws i).2.2.2.2.2.2.2.2 ≤ knn (ws' i).2.2.2.2.2.2.2.2
section DN
variable {w w' : am_Wd} {g : Nat → Nat} {x fl ka ha wr C B : Nat} {wad : Nat → Nat} {kd hr : Nat → Nat} {cp br : Nat → Bool} {n : Nat} {ws : Nat → sW} {mi nd : Nat} {dr me di re : Int32} {k i : Nat}
theorem ad0 (x : Int32) : x + b2i false = x := by
  show x + 0 = x
  exact Int32.add_zero x
theorem sb0 (x : Int32) : x - b2i false = x := by
  show x - 0 = x
  exact Int32.sub_zero x
theorem GS_wk {S : sS} (h : GS k S) {k' : Nat} (hk : k ≤ k') : GS k' S := by
  obtain ⟨kd, hr, cp, br, n, ws, mi, nd, dr, me, di, re⟩ := S
  obtain ⟨h0, h1, h2, h3, ⟨d, h4, h5⟩, h6⟩ := h
  exact ⟨h0, h1, fun i hi => gdW_wk (h2 i hi) hk, by omega, ⟨d, by omega, h5⟩, h6⟩
theorem Dn_rf {S : sS} (act i : Nat) : Dn false act i S S := by
  obtain ⟨kd, hr, cp, br, n, ws, mi, nd, dr, me, di, re⟩ := S
  exact ⟨rfl, rfl, rfl, (ad0 _).symm, (sb0 _).symm, Or.inr (ad0 _).symm, Int32.lt_irrefl, Nat.le_refl _⟩
/-- an act done -/
theorem GS_up (h : GS k (kd, hr, cp, br, n, ws, mi, nd, dr, me, di, re)) (hk : k < 200) {y : sW} (hy : gdW kd (k + 1) y) {nd' : Nat} (hn : nd' < 127) {dr' : Int32} (hd : dr' = dr ∨ dr' = dr + nI 1) : GS (k + 1) (kd, hr, cp, br, n, up ws i y, mi + 1, nd', dr', me, di, re) := by
  obtain ⟨⟨o1, o2, o3, o4, o5, o6, o7⟩, h1, h2, h3, ⟨d, h4, h5⟩, h6⟩ := h
  refine ⟨⟨o1, o2, o3, o4, by omega, hn, okW_up o7 hy.1⟩, h1, fun j hj => ?_, by omega, ?_, h6⟩
  · by_cases e : j = i
    · subst e; rw [up_s]; exact hy
    · rw [up_n e]; exact gdW_wk (h2 j hj) (by omega)
  · rcases hd with q | q
    · exact ⟨d, by omega, by rw [q, h5]⟩
    · exact ⟨d + 1, by omega, by rw [q, h5, nI_add]⟩
theorem Dn_up (h : GS k (kd, hr, cp, br, n, ws, mi, nd, dr, me, di, re)) (hk : k < 200) {y : sW} (a1 : figS y 10 = figS (ws i) 10 + nI 1) (a2 : figS y 2 = figS (ws i) 2 - nI 1) (a3 : knn (ws i).2.2.2.2.2.2.2.2 ≤ knn y.2.2.2.2.2.2.2.2) {nd' : Nat} {dr' : Int32} (hd : dr' = dr ∨ dr' = dr + nI 1) (act : Nat) : Dn true act i (kd, hr, cp, br, n, ws, mi, nd, dr, me, di, re) (kd, hr, cp, br, n, up ws i y, mi + 1, nd', dr', me, di, re) := by
  obtain ⟨-, h1, h2, h3, ⟨d, h4, h5⟩, h6⟩ := h
  refine ⟨rfl, rfl, rfl, by rw [up_s]; exact a1, by rw [up_s]; exact a2, Or.inr (nI_add mi 1).symm, ?_, by rw [up_s]; exact a3⟩
  rcases hd with q | q
  · rw [q]; exact Int32.lt_irrefl
  · rw [q, h5, nI_add, nI_ltS (by omega) (by omega)]; omega
theorem ref_1 {y : sW} {f : Bool} (h : refW mi y f = false) : 1 ≤ y.2.2.1 := by
  obtain ⟨ho, po, ch, lo, ac, bu, sl, may, mp⟩ := y
  unfold refW at h
  dsimp only at h ⊢
  simp only [Bool.or_eq_false_iff, decide_eq_false_iff_not] at h
  omega
/-- what a call of an act comes to -/
def AC (M k i act : Nat) (as : List Value) (S : sS) (w : am_Wd) (g : Nat → Nat) (x : Nat) (P : Int32 → Prop) : Prop := am_x M (.ref x :: as) w = some (.inr (am_xn 2), am_jk w 1 6) ∨ ∃ (v : Int32) (w' : am_Wd) (S' : sS), P v ∧ am_x M (.ref x :: as) w = some (.inl (some (.int v)), w') ∧ RC w' g x S' ∧ frm g 1 40 w w' ∧ GS (k + 1) S' ∧ Dn true act i S S'
theorem ac_fwd (R : RCx w g x fl ka ha wr C B wad kd hr cp br n ws mi nd dr me di re) (h : GS k (kd, hr, cp, br, n, ws, mi, nd, dr, me, di, re)) (hk : k < 200) (hi : i < n) (f : Bool) (act : Nat) : AC 239 k i act [.int (nI i), .int (b2i f)] (kd, hr, cp, br, n, ws, mi, nd, dr, me, di, re) w g x (fun _ => True) := by
  have h' := h
  obtain ⟨⟨o1, o2, o3, o4, o5, o6, o7⟩, h1, h2, h3, h4, h6⟩ := h'
  have hw := h2 i hi
  obtain ⟨⟨⟨p1, p2, p3, p4, p5⟩, p6⟩, -⟩ := id hw
  have hy := sW_eta (ws i)
  by_cases c : refW mi (ws i) f = true ∨ barA (ws i).2.2.2.2.2.2.2.1 br = true
  · exact Or.inl (x239r R o4 o5 hi hy p3 p1 f c)
  · have c1 : refW mi (ws i) f = false := by
      cases q : refW mi (ws i) f with
      | true => exact absurd (Or.inl q) c
      | false => rfl
    have c2 : barA (ws i).2.2.2.2.2.2.2.1 br = false := by
      cases q : barA (ws i).2.2.2.2.2.2.2.1 br with
      | true => exact absurd (Or.inr q) c
      | false => rfl
    obtain ⟨w', a, b, e⟩ := x239 R o4 o1 o2 o6 o5 hi hy p2 p3 p1 f c1 c2
    have ch := ref_1 c1
    have hd : ∀ q : Bool, (if q = true then dr else if cp ((ws i).2.1 / 4) = true then dr + nI 1 else dr) = dr ∨ (if q = true then dr else if cp ((ws i).2.1 / 4) = true then dr + nI 1 else dr) = dr + nI 1 := fun q => by
      cases q with
      | true => exact Or.inl rfl
      | false =>
        rw [if_neg (fun e => nomatch e)]
        split
        · exact Or.inr rfl
        · exact Or.inl rfl
    have hn : ∀ q : Bool, (if q = true then nd else if cp ((ws i).2.1 / 4) = true then (29 * nd + 13) % 127 else nd) < 127 := fun q => by
      cases q with
      | true => exact o6
      | false =>
        rw [if_neg (fun e => nomatch e)]
        split
        · omega
        · exact o6
    have z1 := GS_up (i := i) h hk (gdW_fwd (hr := hr) (cp := cp) (mi := mi) (nd := nd) h1 hw) (hn (bmpB kd hr mi (ws i).2.1)) (hd (bmpB kd hr mi (ws i).2.1))
    refine Or.inr ⟨_, w', _, trivial, a, ⟨_, _, _, _, _, _, _, b⟩, e, z1, Dn_up h hk ?_ ?_ ?_ (hd _) act⟩
    · exact rfl
    · exact (nI_subS ch).symm
    · exact knn_mono putF_nz
theorem ac_turn (R : RCx w g x fl ka ha wr C B wad kd hr cp br n ws mi nd dr me di re) (h : GS k (kd, hr, cp, br, n, ws, mi, nd, dr, me, di, re)) (hk : k < 200) (hi : i < n) (b f : Bool) (act : Nat) : AC 240 k i act [.int (nI i), .int (b2i b), .int (b2i f)] (kd, hr, cp, br, n, ws, mi, nd, dr, me, di, re) w g x (fun v => ¬ v ≤ nI 0) := by
  have h' := h
  obtain ⟨⟨o1, o2, o3, o4, o5, o6, o7⟩, h1, h2, h3, h4, h6⟩ := h'
  have hw := h2 i hi
  obtain ⟨⟨⟨p1, p2, p3, p4, p5⟩, p6⟩, -⟩ := id hw
  have hy := sW_eta (ws i)
  cases c : refW mi (ws i) f with
  | true => exact Or.inl (x240r R o4 o5 hi hy p3 p1 f c)
  | false =>
    obtain ⟨w', a, b', e⟩ := x240 R o4 o5 hi hy p2 p3 p1 b f c
    have ch := ref_1 c
    refine Or.inr ⟨_, w', _, ?_, a, ⟨_, _, _, _, _, _, _, b'⟩, e, GS_up h hk (gdW_turn hw) o6 (Or.inl rfl), Dn_up h hk ?_ ?_ ?_ (Or.inl rfl) act⟩
    · have := cnt_le (ws i).2.2.2.2.2.2.2.1 144
      show ¬ nI (cnt 144 (ws i).2.2.2.2.2.2.2.1) ≤ nI 0
      rw [nI_leS (by omega) (by decide)]
      omega
    · exact rfl
    · exact (nI_subS ch).symm
    · exact Nat.le_refl _
theorem ac_feel (R : RCx w g x fl ka ha wr C B wad kd hr cp br n ws mi nd dr me di re) (h : GS k (kd, hr, cp, br, n, ws, mi, nd, dr, me, di, re)) (hk : k < 200) (hi : i < n) (f : Bool) (act : Nat) : AC 241 k i act [.int (nI i), .int (b2i f)] (kd, hr, cp, br, n, ws, mi, nd, dr, me, di, re) w g x (fun v => ¬ v < nI 0) := by
  have h' := h
  obtain ⟨⟨o1, o2, o3, o4, o5, o6, o7⟩, h1, h2, h3, h4, h6⟩ := h'
  have hw := h2 i hi
  obtain ⟨⟨⟨p1, p2, p3, p4, p5⟩, p6⟩, -⟩ := id hw
  have hy := sW_eta (ws i)
  cases c : refW mi (ws i) f with
  | true => exact Or.inl (x241r R o4 o5 hi hy p3 p1 f c)
  | false =>
    obtain ⟨w', a, b', e⟩ := x241 R o4 o1 o2 o5 hi hy p2 p3 p1 f c
    have ch := ref_1 c
    refine Or.inr ⟨_, w', _, ?_, a, ⟨_, _, _, _, _, _, _, b'⟩, e, GS_up h hk (gdW_feel h1 hw) o6 (Or.inl rfl), Dn_up h hk ?_ ?_ ?_ (Or.inl rfl) act⟩
    · have : feltN kd hr mi (ws i).2.1 < 8 := flt_lt ..
      exact nI_pos (by omega)
    · exact rfl
    · exact (nI_subS ch).symm
    · exact knn_mono putL_nz
theorem ac_listen (R : RCx w g x fl ka ha wr C B wad kd hr cp br n ws mi nd dr me di re) (h : GS k (kd, hr, cp, br, n, ws, mi, nd, dr, me, di, re)) (hk : k < 200) (hi : i < n) (f : Bool) (act : Nat) : AC 242 k i act [.int (nI i), .int (b2i f)] (kd, hr, cp, br, n, ws, mi, nd, dr, me, di, re) w g x (fun v => ¬ v < nI 0) := by
  have h' := h
  obtain ⟨⟨o1, o2, o3, o4, o5, o6, o7⟩, h1, h2, h3, h4, h6⟩ := h'
  have hw := h2 i hi
  obtain ⟨⟨⟨p1, p2, p3, p4, p5⟩, p6⟩, -⟩ := id hw
  have hy := sW_eta (ws i)
  cases c : refW mi (ws i) f with
  | true => exact Or.inl (x242r R o4 o5 hi hy p3 p1 f c)
  | false =>
    obtain ⟨w', a, b', e⟩ := x242 R o4 o5 hi hy (fun j hj => (o7 j hj).1.2.1) p3 p1 f c
    have ch := ref_1 c
    refine Or.inr ⟨_, w', _, ?_, a, ⟨_, _, _, _, _, _, _, b'⟩, e, GS_up h hk (gdW_act hw) o6 (Or.inl rfl), Dn_up h hk ?_ ?_ ?_ (Or.inl rfl) act⟩
    · have : nearN ws n i ≤ 3 := cnt_le _ 3
      exact nI_pos (by omega)
    · exact rfl
    · exact (nI_subS ch).symm
    · exact Nat.le_refl _
end DN
