section
/-! ONE STEP: every instruction that goes on, over the machine (arms laid by wip/gen/go.py). Mine. -/
def am_al : Nat → am_Lc → List (Nat × Value)
  | _, [] => []
  | i, some v :: t => (i, v) :: am_al (i + 1) t
  | i, none :: t => am_al (i + 1) t
theorem am_al_mem : ∀ (ls : am_Lc) (i j : Nat) (v : Value), (j, v) ∈ am_al i ls ↔ i ≤ j ∧ ls[j - i]? = some (some v)
  | [], i, j, v => by simp [am_al]
  | some u :: t, i, j, v => by
    rw [am_al, List.mem_cons, am_al_mem t (i + 1) j v]
    constructor
    · rintro (h | ⟨h1, h2⟩)
      · cases h; simp
      · refine ⟨by omega, ?_⟩
        rw [show j - i = (j - (i + 1)) + 1 by omega]
        simpa using h2
    · rintro ⟨h1, h2⟩
      by_cases hj : j = i
      · subst hj
        simp at h2
        exact Or.inl (by rw [h2])
      · refine Or.inr ⟨by omega, ?_⟩
        rw [show j - i = (j - (i + 1)) + 1 by omega] at h2
        simpa using h2
  | none :: t, i, j, v => by
    rw [am_al, am_al_mem t (i + 1) j v]
    constructor
    · rintro ⟨h1, h2⟩
      refine ⟨by omega, ?_⟩
      rw [show j - i = (j - (i + 1)) + 1 by omega]
      simpa using h2
    · rintro ⟨h1, h2⟩
      by_cases hj : j = i
      · subst hj
        simp at h2
      · refine ⟨by omega, ?_⟩
        rw [show j - i = (j - (i + 1)) + 1 by omega] at h2
        simpa using h2
/-- the machine's locals hold the abstract ones -/
def am_LH (lsA : Array Slot) (nL : Nat) (ls : am_Lc) : Prop := ls.length = nL ∧ lv_has lsA nL (am_al 0 ls)
theorem am_LH.at {lsA : Array Slot} {nL : Nat} {ls : am_Lc} (h : am_LH lsA nL ls) {i : Nat} {v : Value} (hi : am_at ls i = some v) : lsA[i]? = some (.val v) := by
  have h1 : ls[i]? = some (some v) := by
    unfold am_at at hi
    split at hi
    · rename_i u hu; rw [hu]; rw [Option.some.inj hi]
    · cases hi
  exact h.2.2.2 (i, v) ((am_al_mem ls 0 i v).mpr ⟨Nat.zero_le _, by simpa using h1⟩)
theorem am_c2_cat (v : Value) : am_c2 v = true ↔ v.category = 2 := by cases v <;> simp [am_c2, Value.category]
theorem am_c2_one {v : Value} (h : ¬ am_c2 v = true) : v.category = 1 := by
  rcases lv_cat v with h1 | h1
  · exact h1
  · exact absurd ((am_c2_cat v).mpr h1) h
theorem am_LH.s1 {nL : Nat} {ls l' : am_Lc} (hl : ls.length = nL) {i : Nat} {v : Value} (h : am_s1 ls i v = some l') : i < nL ∧ ∀ lsA' : Array Slot, lv_has lsA' nL ((i, v) :: (am_al 0 ls).filter (fun q => !(q.1 == i) && !(q.1 + 1 == i && q.2.category == 2))) → am_LH lsA' nL l' := by
  unfold am_s1 at h
  split at h
  · rename_i hc
    obtain ⟨hi, hc1⟩ := hc
    obtain rfl := Option.some.inj h
    refine ⟨by omega, fun lsA' hh => ⟨by simp [hl], hh.1, hh.2.1, fun q hq => ?_⟩⟩
    obtain ⟨j, u⟩ := q
    obtain ⟨-, h2⟩ := (am_al_mem _ 0 j u).mp hq
    rw [Nat.sub_zero] at h2
    by_cases hj : j = i
    · subst hj
      rw [List.getElem?_set_self hi] at h2
      cases h2
      exact hh.2.2 _ List.mem_cons_self
    · rw [List.getElem?_set_ne (fun e => hj e.symm)] at h2
      refine hh.2.2 (j, u) (List.mem_cons_of_mem _ (List.mem_filter.mpr ⟨(am_al_mem ls 0 j u).mpr ⟨Nat.zero_le _, by simpa using h2⟩, ?_⟩))
      have hne : (j == i) = false := by simp [hj]
      cases i with
      | zero => simp [hne]
      | succ i =>
        by_cases hji : j = i
        · subst hji
          have hc1 : (match ls[j]? with | some (some v) => !(am_c2 v) | _ => true) = true := hc1
          rw [h2] at hc1
          have h3 : am_c2 u = false := by simpa using hc1
          have h4 : ¬ u.category = 2 := fun e => by rw [(am_c2_cat u).mpr e] at h3; cases h3
          simp [h4]
        · simp [hne, hji]
  · cases h
theorem am_LH.s2 {nL : Nat} {ls l' : am_Lc} (hl : ls.length = nL) {i : Nat} {v : Value} (h : am_s2 ls i v = some l') : i + 1 < nL ∧ ∀ lsA' : Array Slot, lv_has lsA' nL ((i, v) :: (am_al 0 ls).filter (fun q => !(q.1 == i) && (!(q.1 == i + 1) && !(q.1 + 1 == i && q.2.category == 2)))) → am_LH lsA' nL l' := by
  unfold am_s2 at h
  split at h
  · rename_i hc
    obtain ⟨hi, hc1⟩ := hc
    obtain rfl := Option.some.inj h
    refine ⟨by omega, fun lsA' hh => ⟨by simp [hl], hh.1, hh.2.1, fun q hq => ?_⟩⟩
    obtain ⟨j, u⟩ := q
    obtain ⟨-, h2⟩ := (am_al_mem _ 0 j u).mp hq
    rw [Nat.sub_zero] at h2
    by_cases hj1 : j = i + 1
    · subst hj1
      rw [List.getElem?_set_self (by simp; omega)] at h2
      cases h2
    rw [List.getElem?_set_ne (fun e => hj1 e.symm)] at h2
    by_cases hj : j = i
    · subst hj
      rw [List.getElem?_set_self (by omega)] at h2
      cases h2
      exact hh.2.2 _ List.mem_cons_self
    · rw [List.getElem?_set_ne (fun e => hj e.symm)] at h2
      refine hh.2.2 (j, u) (List.mem_cons_of_mem _ (List.mem_filter.mpr ⟨(am_al_mem ls 0 j u).mpr ⟨Nat.zero_le _, by simpa using h2⟩, ?_⟩))
      have hne : (j == i) = false := by simp [hj]
      have hne1 : (j == i + 1) = false := by simp [hj1]
      cases i with
      | zero => simp [hne, hj1]
      | succ i =>
        by_cases hji : j = i
        · subst hji
          have hc1 : (match ls[j]? with | some (some v) => !(am_c2 v) | _ => true) = true := hc1
          rw [h2] at hc1
          have h3 : am_c2 u = false := by simpa using hc1
          have h4 : ¬ u.category = 2 := fun e => by rw [(am_c2_cat u).mpr e] at h3; cases h3
          simp [h4, hj1]
        · simp [hne, hne1, hji]
  · cases h
theorem am_LH.kill {lsA : Array Slot} {nL : Nat} : ∀ (d : List Nat) {ls : am_Lc}, am_LH lsA nL ls → am_LH lsA nL (am_kill d ls)
  | [], _, h => h
  | i :: t, ls, h => by
    refine am_LH.kill t ⟨by simp [h.1], h.2.1, h.2.2.1, fun q hq => ?_⟩
    obtain ⟨j, u⟩ := q
    obtain ⟨-, h2⟩ := (am_al_mem _ 0 j u).mp hq
    rw [Nat.sub_zero] at h2
    refine h.2.2.2 (j, u) ((am_al_mem ls 0 j u).mpr ⟨Nat.zero_le _, ?_⟩)
    rw [Nat.sub_zero]
    by_cases hj : i = j
    · subst hj
      by_cases hl : i < ls.length
      · rw [List.getElem?_set_self hl] at h2; cases h2
      · rw [List.getElem?_eq_none (by simp; omega)] at h2; cases h2
    · rw [List.getElem?_set_ne hj] at h2; exact h2
theorem am_nx_inj {pc : Nat} {ls : am_Lc} {st : List Value} {w : am_Wd} {a : Nat × am_Lc × List Value × am_Wd} (h : am_nx pc ls st w = some (.inl a)) : a = (pc, ls, st, w) := by
  unfold am_nx at h
  exact (Sum.inl.inj (Option.some.inj h)).symm
theorem am_tg_inj {pc t : Nat} {o : Int} (h : am_tg pc o = some t) : (pc : Int) + o = (t : Int) := by
  unfold am_tg at h
  split at h
  · rename_i k hk; cases h; exact hk
  · cases h
theorem am_br_inj {c : Bool} {pc : Nat} {o : Int} {ls : am_Lc} {st : List Value} {w : am_Wd} {a : Nat × am_Lc × List Value × am_Wd} (hj : 0 ≤ (pc : Int) + o) (h : am_br c pc o ls st w = some (.inl a)) : ∃ t : Nat, (pc : Int) + o = (t : Int) ∧ a = (if c = true then t else pc + 3, ls, st, w) := by
  have ht : (pc : Int) + o = (((pc : Int) + o).toNat : Int) := (Int.toNat_of_nonneg hj).symm
  refine ⟨_, ht, ?_⟩
  unfold am_br at h
  split at h
  · rename_i hc
    obtain ⟨t, h1, h2⟩ := Option.bind_eq_some_iff.mp h
    have h3 := am_tg_inj h1
    rw [am_nx_inj h2, if_pos hc]
    have : t = ((pc : Int) + o).toNat := by omega
    rw [this]
  · rename_i hc
    rw [am_nx_inj h, if_neg hc]
theorem am_z0 (n k : Nat) : n = n + (k - k) := by simp
theorem am_sw_lk (x : Int32) (d : Int) : ∀ l : List (Int × Int), Op.lookupswitch.offset l d x.toInt = am_sw x d l
  | [] => rfl
  | (a, o) :: r => by
    rw [Op.lookupswitch.offset_cons, am_sw]
    by_cases h : a = x.toInt
    · rw [if_pos h, if_pos h.symm]
    · rw [if_neg h, if_neg (fun q => h q.symm)]; exact am_sw_lk x d r
theorem am_sw_tb (x : Int32) (d : Int) : ∀ (l : List Int) (lo : Int) (k : Nat), (x.toInt < lo + k ∨ lo + k + l.length ≤ x.toInt → am_sw x d ((l.zipIdx k).map fun q => (lo + (q.2 : Int), q.1)) = d) ∧ (¬ x.toInt < lo + k → x.toInt < lo + k + l.length → ∃ o, l[(x.toInt - (lo + k)).toNat]? = some o ∧ am_sw x d ((l.zipIdx k).map fun q => (lo + (q.2 : Int), q.1)) = o)
  | [], lo, k => ⟨fun _ => rfl, fun h1 h2 => by simp at h2; omega⟩
  | a :: r, lo, k => by
    obtain ⟨h1, h2⟩ := am_sw_tb x d r lo (k + 1)
    rw [List.zipIdx_cons, List.map_cons, am_sw]
    have e1 : ((k + 1 : Nat) : Int) = (k : Int) + 1 := by omega
    rw [e1] at h1 h2
    refine ⟨fun h => ?_, fun ha hb => ?_⟩
    · simp only [List.length_cons] at h
      rw [if_neg (by show ¬ x.toInt = lo + (k : Int); omega)]
      exact h1 (by omega)
    · simp only [List.length_cons] at hb
      by_cases hx : x.toInt = lo + (k : Int)
      · rw [if_pos hx]
        refine ⟨a, ?_, rfl⟩
        rw [hx, Int.sub_self]
        rfl
      · rw [if_neg hx]
        obtain ⟨o, ho, hs⟩ := h2 (by omega) (by omega)
        refine ⟨o, ?_, hs⟩
        rw [show (x.toInt - (lo + (k : Int))).toNat = (x.toInt - (lo + ((k : Int) + 1))).toNat + 1 by omega]
        simpa using ho
theorem am_kt_ok {w : am_Wd} {a t : Nat} {u : Unit} (h : am_kt w a t = some u) : ∃ (t1 : Nat) (x : vp_A), w.1 a = some (.inl (t1, x)) ∧ t1 = t := by
  unfold am_kt at h
  split at h
  · rename_i t1 x he
    split at h
    · rename_i hc; exact ⟨t1, x, he, hc⟩
    · cases h
  · cases h
theorem am_K_nm {D : va_G} {dA : Nat → ClassId} {s : State} (hK : va_K D am_cl (am_tys dA) s) {t : Nat} (ht : t < 7) : s.vm.findClass ("[" ++ (am_tyl t).toString) = some (dA t) := by
  have h := (hK.2 t _ (am_tys_at dA ht)).2
  rcases (show t = 0 ∨ t = 1 ∨ t = 2 ∨ t = 3 ∨ t = 4 ∨ t = 5 ∨ t = 6 by omega) with rfl | rfl | rfl | rfl | rfl | rfl | rfl
  · exact h
  · exact h
  · exact h
  · exact h
  · obtain ⟨_, _, -, -, -, h⟩ := h; exact h
  · obtain ⟨_, _, -, -, -, h⟩ := h; exact h
  · exact h
theorem am_pf_ge {w w1 : am_Wd} {a ci k : Nat} {v : Value} (h : am_pf w a ci k v = some w1) : w1.2 = w.2 := by
  unfold am_pf at h
  split at h
  · split at h
    · cases h; rfl
    · cases h
  · cases h
theorem am_wi_ge {t : Nat} {w w1 : am_Wd} {a : Nat} {i x : Int32} (h : am_wi t w a i x = some w1) : w1.2 = w.2 := by
  unfold am_wi at h
  split at h
  · split at h
    · split at h
      · cases h
      · cases h; rfl
    · cases h
  · cases h
theorem am_cy_ge {w w1 : am_Wd} {a0 a : Nat} {sp dp n : Int32} (h : am_cy w a0 sp a dp n = some w1) : w1.2 = w.2 := by
  unfold am_cy at h
  split at h
  · split at h
    · cases h; rfl
    · cases h
  · cases h
theorem am_wl_ge {w w1 : am_Wd} {a : Nat} {i : Int32} {x : Int64} (h : am_wl w a i x = some w1) : w1.2 = w.2 := by
  unfold am_wl at h
  split at h
  · split at h
    · split at h
      · cases h
      · cases h; rfl
    · cases h
  · cases h
theorem am_wq_ge {t ci : Nat} {w w1 : am_Wd} {a b : Nat} {i : Int32} (h : am_wq t ci w a i b = some w1) : w1.2 = w.2 := by
  unfold am_wq at h
  split at h
  · split at h
    · split at h
      · cases h
      · obtain ⟨_, _, h⟩ := Option.bind_eq_some_iff.mp h
        cases h; rfl
    · cases h
  · cases h
section AMG
variable {p : Program} {l : Launch} {e : Env} {R : Room} {s : State} {m : MethodId} {args : Array Value} {below : List Frame} {meth : Method} {c : Code} {H : Heap} {locs : List Loc} {cells slots : Nat} {Q : State → Prop}
variable {pc : Nat} {lsA : Array Slot} {D : va_G} {dA : Nat → ClassId} {base : Nat} {sg : am_Sg} {y : Nat}
set_option maxHeartbeats 8000000 in
set_option maxRecDepth 100000 in
theorem am_go (C0 : am_Cx p l R s m args meth c D dA base sg y) {i : Instr} {len : Nat} {an : List Nat} (hdc : decode (am_by y) pc = .ok (i, len)) (hln : am_isw i = false → len = am_il i) (hlj : am_lj y pc i an = true) (hlk : am_lk y i an = true) {ls : am_Lc} {st : List Value} {w : am_Wd} {a : Nat × am_Lc × List Value × am_Wd} (h : am_stp pc i an ls st w = some (.inl a))
    (hl : am_LH lsA (am_ml y) ls) (hw : am_WR D dA base sg w H) (hS : va_S (am_A base) s.heap H locs)
    (hR : cells + (a.2.2.2.2.1 - w.2.1) ≤ R.cells ∧ slots + (a.2.2.2.2.2.1 - w.2.2.1) ≤ R.slots)
    (hk : ∀ (H' : Heap) (locs' : List Loc) (lsA' : Array Slot) (c' s' : Nat), c' = cells + (a.2.2.2.2.1 - w.2.1) → s' = slots + (a.2.2.2.2.2.1 - w.2.2.1) → am_LH lsA' (am_ml y) a.2.1 → am_WR D dA base sg a.2.2.2 H' → va_S (am_A base) s.heap H' locs' → W p l e R s m args below meth c H' locs' c' s' Q (F0 m a.1 lsA' a.2.2.1)) :
    W p l e R s m args below meth c H locs cells slots Q (F0 m pc lsA st) := by
  have C1 := C0
  obtain ⟨hx, hb, hml, hown, hts, hlocks, hini, hrt, htab, hst, ⟨hK, hnl, hZ1, hZ2, hstr, hO1, hO2, hO3, hbs, hsts, hsti, hxt⟩, hRf, hRl⟩ := C0
  have hsz : lsA.size = c.maxLocals := by rw [hml]; exact hl.2.1
  unfold am_stp at h
  split at h
  · -- iconst
    rename_i n
    obtain rfl := hln rfl
    obtain rfl := am_nx_inj h
    exact lv_iconst hx hb hdc rfl (hk _ _ _ _ _ (am_z0 _ _) (am_z0 _ _) hl hw hS)
  · -- bipush
    rename_i n
    obtain rfl := hln rfl
    obtain rfl := am_nx_inj h
    exact lv_bipush hx hb hdc rfl (hk _ _ _ _ _ (am_z0 _ _) (am_z0 _ _) hl hw hS)
  · -- sipush
    rename_i n
    obtain rfl := hln rfl
    obtain rfl := am_nx_inj h
    exact lv_sipush hx hb hdc rfl (hk _ _ _ _ _ (am_z0 _ _) (am_z0 _ _) hl hw hS)
  · -- lconst
    rename_i n
    obtain rfl := hln rfl
    obtain rfl := am_nx_inj h
    exact lv_lconst hx hb hdc rfl (hk _ _ _ _ _ (am_z0 _ _) (am_z0 _ _) hl hw hS)
  · -- dconst
    rename_i n
    obtain rfl := hln rfl
    split at h
    · rename_i hn
      subst hn
      obtain rfl := am_nx_inj h
      exact lv_dconst0 hx hb hdc (hk _ _ _ _ _ (am_z0 _ _) (am_z0 _ _) hl hw hS)
    · cases h
  · -- aconst_null
    obtain rfl := hln rfl
    obtain rfl := am_nx_inj h
    exact lv_null hx hb hdc (hk _ _ _ _ _ (am_z0 _ _) (am_z0 _ _) hl hw hS)
  · -- ldc
    rename_i x
    obtain rfl := hln rfl
    split at h
    · rename_i n r
      obtain rfl := am_nx_inj h
      cases r with
      | nil => simp [am_lk] at hlk
      | cons q9 r9 =>
        exact lv_ldc hx hb hown (hts _ (am_lw_ok (show am_lw (.constant (am_ow y) x (Int32.ofNat n)) q9 = true from hlk))) hdc (hk _ _ _ _ _ (am_z0 _ _) (am_z0 _ _) hl hw hS)
    · rename_i k r
      obtain rfl := am_nx_inj h
      have hlk : (am_strs.any (fun q => decide (q.1 = am_ow y ∧ q.2.1 = x ∧ q.2.2.2 = k))) = true := hlk
      obtain ⟨q, hq, h1⟩ := List.any_eq_true.mp hlk
      simp only [decide_eq_true_eq] at h1
      obtain ⟨e1, e2, e3⟩ := h1
      obtain ⟨a0, f1, f2⟩ := hstr q hq
      rw [e1, e2] at f2
      rw [e3] at f1
      have hsg : w.2.2.2 k = some a0 := by rw [hw.2.1]; exact f1
      have hk9 := hk _ _ _ _ _ (am_z0 _ _) (am_z0 _ _) hl hw hS
      dsimp only at hk9
      rw [hsg] at hk9
      exact va_ldcS hx hb hown f2 hdc hk9
    · cases h
  · -- ldc_w
    rename_i x
    obtain rfl := hln rfl
    split at h
    · rename_i n r
      obtain rfl := am_nx_inj h
      cases r with
      | nil => simp [am_lk] at hlk
      | cons q9 r9 =>
        exact lv_ldcw hx hb hown (hts _ (am_lw_ok (show am_lw (.constant (am_ow y) x (Int32.ofNat n)) q9 = true from hlk))) hdc (hk _ _ _ _ _ (am_z0 _ _) (am_z0 _ _) hl hw hS)
    · rename_i k r
      obtain rfl := am_nx_inj h
      have hlk : (am_strs.any (fun q => decide (q.1 = am_ow y ∧ q.2.1 = x ∧ q.2.2.2 = k))) = true := hlk
      obtain ⟨q, hq, h1⟩ := List.any_eq_true.mp hlk
      simp only [decide_eq_true_eq] at h1
      obtain ⟨e1, e2, e3⟩ := h1
      obtain ⟨a0, f1, f2⟩ := hstr q hq
      rw [e1, e2] at f2
      rw [e3] at f1
      have hsg : w.2.2.2 k = some a0 := by rw [hw.2.1]; exact f1
      have hk9 := hk _ _ _ _ _ (am_z0 _ _) (am_z0 _ _) hl hw hS
      dsimp only at hk9
      rw [hsg] at hk9
      exact am_ldcSW hx hb hown f2 hdc hk9
    · cases h
  · -- ldc2_w
    rename_i x
    obtain rfl := hln rfl
    split at h
    · rename_i n r
      obtain rfl := am_nx_inj h
      cases r with
      | nil => simp [am_lk] at hlk
      | cons q9 r9 =>
        exact lv_ldc2 hx hb hown (hts _ (am_lw_ok (show am_lw (.constantLong (am_ow y) x (Int64.ofNat n)) q9 = true from hlk))) hdc (hk _ _ _ _ _ (am_z0 _ _) (am_z0 _ _) hl hw hS)
    · rename_i n r
      obtain rfl := am_nx_inj h
      cases r with
      | nil => simp [am_lk] at hlk
      | cons q9 r9 =>
        exact lv_ldc2d hx hb hown (hts _ (am_lw_ok (show am_lw (.constantDouble (am_ow y) x (UInt64.ofNat n)) q9 = true from hlk))) hdc (hk _ _ _ _ _ (am_z0 _ _) (am_z0 _ _) hl hw hS)
    · cases h
  · -- iload
    rename_i k
    obtain rfl := hln rfl
    split at h
    · rename_i x hx1
      obtain rfl := am_nx_inj h
      exact lv_iload hx hb hdc (hl.at hx1) (hk _ _ _ _ _ (am_z0 _ _) (am_z0 _ _) hl hw hS)
    · cases h
  · -- iload_n
    rename_i k
    obtain rfl := hln rfl
    split at h
    · rename_i x hx1
      obtain rfl := am_nx_inj h
      exact lv_iload_n hx hb hdc rfl (hl.at hx1) (hk _ _ _ _ _ (am_z0 _ _) (am_z0 _ _) hl hw hS)
    · cases h
  · -- lload
    rename_i k
    obtain rfl := hln rfl
    split at h
    · rename_i x hx1
      obtain rfl := am_nx_inj h
      exact lv_lload hx hb hdc (hl.at hx1) (hk _ _ _ _ _ (am_z0 _ _) (am_z0 _ _) hl hw hS)
    · cases h
  · -- lload_n
    rename_i k
    obtain rfl := hln rfl
    split at h
    · rename_i x hx1
      obtain rfl := am_nx_inj h
      exact lv_lload_n hx hb hdc rfl (hl.at hx1) (hk _ _ _ _ _ (am_z0 _ _) (am_z0 _ _) hl hw hS)
    · cases h
  · -- dload
    rename_i k
    obtain rfl := hln rfl
    split at h
    · rename_i x hx1
      obtain rfl := am_nx_inj h
      exact lv_dload hx hb hdc (hl.at hx1) (hk _ _ _ _ _ (am_z0 _ _) (am_z0 _ _) hl hw hS)
    · cases h
  · -- aload
    rename_i k
    obtain rfl := hln rfl
    split at h
    · rename_i x hx1
      obtain rfl := am_nx_inj h
      exact lv_aload hx hb hdc (hl.at hx1) (hk _ _ _ _ _ (am_z0 _ _) (am_z0 _ _) hl hw hS)
    · rename_i hx1
      obtain rfl := am_nx_inj h
      exact lv_aloadN hx hb hdc (hl.at hx1) (hk _ _ _ _ _ (am_z0 _ _) (am_z0 _ _) hl hw hS)
    · cases h
  · -- aload_n
    rename_i k
    obtain rfl := hln rfl
    split at h
    · rename_i x hx1
      obtain rfl := am_nx_inj h
      exact lv_aload_n hx hb hdc rfl (hl.at hx1) (hk _ _ _ _ _ (am_z0 _ _) (am_z0 _ _) hl hw hS)
    · rename_i hx1
      obtain rfl := am_nx_inj h
      exact lv_aload_nN hx hb hdc rfl (hl.at hx1) (hk _ _ _ _ _ (am_z0 _ _) (am_z0 _ _) hl hw hS)
    · cases h
  · -- istore
    rename_i k
    obtain rfl := hln rfl
    split at h
    · rename_i x r
      obtain ⟨l1, h1, h⟩ := Option.bind_eq_some_iff.mp h
      obtain rfl := am_nx_inj h
      obtain ⟨hn, h2⟩ := am_LH.s1 hl.1 h1
      exact lv_istore hx hb hdc hl.2 hn rfl (fun ls1 hh => hk _ _ _ _ _ (am_z0 _ _) (am_z0 _ _) (h2 _ hh) hw hS)
    · cases h
  · -- istore_n
    rename_i k
    obtain rfl := hln rfl
    split at h
    · rename_i x r
      obtain ⟨l1, h1, h⟩ := Option.bind_eq_some_iff.mp h
      obtain rfl := am_nx_inj h
      obtain ⟨hn, h2⟩ := am_LH.s1 hl.1 h1
      exact lv_istore_n hx hb hdc rfl hl.2 hn rfl (fun ls1 hh => hk _ _ _ _ _ (am_z0 _ _) (am_z0 _ _) (h2 _ hh) hw hS)
    · cases h
  · -- lstore
    rename_i k
    obtain rfl := hln rfl
    split at h
    · rename_i x r
      obtain ⟨l1, h1, h⟩ := Option.bind_eq_some_iff.mp h
      obtain rfl := am_nx_inj h
      obtain ⟨hn, h2⟩ := am_LH.s2 hl.1 h1
      exact lv_lstore hx hb hdc hl.2 hn rfl (fun ls1 hh => hk _ _ _ _ _ (am_z0 _ _) (am_z0 _ _) (h2 _ hh) hw hS)
    · cases h
  · -- lstore_n
    rename_i k
    obtain rfl := hln rfl
    split at h
    · rename_i x r
      obtain ⟨l1, h1, h⟩ := Option.bind_eq_some_iff.mp h
      obtain rfl := am_nx_inj h
      obtain ⟨hn, h2⟩ := am_LH.s2 hl.1 h1
      exact lv_lstore_n hx hb hdc rfl hl.2 hn rfl (fun ls1 hh => hk _ _ _ _ _ (am_z0 _ _) (am_z0 _ _) (h2 _ hh) hw hS)
    · cases h
  · -- dstore
    rename_i k
    obtain rfl := hln rfl
    split at h
    · rename_i x r
      obtain ⟨l1, h1, h⟩ := Option.bind_eq_some_iff.mp h
      obtain rfl := am_nx_inj h
      obtain ⟨hn, h2⟩ := am_LH.s2 hl.1 h1
      exact lv_dstore hx hb hdc hl.2 hn rfl (fun ls1 hh => hk _ _ _ _ _ (am_z0 _ _) (am_z0 _ _) (h2 _ hh) hw hS)
    · cases h
  · -- astore
    rename_i k
    obtain rfl := hln rfl
    split at h
    · rename_i x r
      obtain ⟨l1, h1, h⟩ := Option.bind_eq_some_iff.mp h
      obtain rfl := am_nx_inj h
      obtain ⟨hn, h2⟩ := am_LH.s1 hl.1 h1
      exact lv_astore hx hb hdc hl.2 hn rfl (fun ls1 hh => hk _ _ _ _ _ (am_z0 _ _) (am_z0 _ _) (h2 _ hh) hw hS)
    · rename_i r
      obtain ⟨l1, h1, h⟩ := Option.bind_eq_some_iff.mp h
      obtain rfl := am_nx_inj h
      obtain ⟨hn, h2⟩ := am_LH.s1 hl.1 h1
      exact lv_astoreN hx hb hdc hl.2 hn rfl (fun ls1 hh => hk _ _ _ _ _ (am_z0 _ _) (am_z0 _ _) (h2 _ hh) hw hS)
    · cases h
  · -- astore_n
    rename_i k
    obtain rfl := hln rfl
    split at h
    · rename_i x r
      obtain ⟨l1, h1, h⟩ := Option.bind_eq_some_iff.mp h
      obtain rfl := am_nx_inj h
      obtain ⟨hn, h2⟩ := am_LH.s1 hl.1 h1
      exact lv_astore_n hx hb hdc rfl hl.2 hn rfl (fun ls1 hh => hk _ _ _ _ _ (am_z0 _ _) (am_z0 _ _) (h2 _ hh) hw hS)
    · rename_i r
      obtain ⟨l1, h1, h⟩ := Option.bind_eq_some_iff.mp h
      obtain rfl := am_nx_inj h
      obtain ⟨hn, h2⟩ := am_LH.s1 hl.1 h1
      exact lv_astore_nN hx hb hdc rfl hl.2 hn rfl (fun ls1 hh => hk _ _ _ _ _ (am_z0 _ _) (am_z0 _ _) (h2 _ hh) hw hS)
    · cases h
  · -- iinc
    rename_i k n
    obtain rfl := hln rfl
    split at h
    · rename_i x hx1
      obtain ⟨l1, h1, h⟩ := Option.bind_eq_some_iff.mp h
      obtain rfl := am_nx_inj h
      obtain ⟨hn, h2⟩ := am_LH.s1 hl.1 h1
      have hm : (k, Value.int x) ∈ am_al 0 ls := (am_al_mem ls 0 k _).mpr ⟨Nat.zero_le _, by
        unfold am_at at hx1
        split at hx1
        · rename_i u hu; rw [Nat.sub_zero, hu]; rw [Option.some.inj hx1]
        · cases hx1⟩
      obtain ⟨j, hj⟩ := List.getElem?_of_mem hm
      exact lv_iinc hx hb hdc hl.2 hj rfl hn rfl (fun ls1 hh => hk _ _ _ _ _ (am_z0 _ _) (am_z0 _ _) (h2 _ hh) hw hS)
    · cases h
  · -- iadd
    obtain rfl := hln rfl
    split at h
    · obtain rfl := am_nx_inj h
      exact lv_iadd hx hb hdc (hk _ _ _ _ _ (am_z0 _ _) (am_z0 _ _) hl hw hS)
    · cases h
  · -- isub
    obtain rfl := hln rfl
    split at h
    · obtain rfl := am_nx_inj h
      exact lv_isub hx hb hdc (hk _ _ _ _ _ (am_z0 _ _) (am_z0 _ _) hl hw hS)
    · cases h
  · -- imul
    obtain rfl := hln rfl
    split at h
    · obtain rfl := am_nx_inj h
      exact lv_imul hx hb hdc (hk _ _ _ _ _ (am_z0 _ _) (am_z0 _ _) hl hw hS)
    · cases h
  · -- idiv
    obtain rfl := hln rfl
    split at h
    · split at h
      · cases h
      · rename_i hne
        obtain rfl := am_nx_inj h
        exact lv_idiv hx hb hdc hne (hk _ _ _ _ _ (am_z0 _ _) (am_z0 _ _) hl hw hS)
    · cases h
  · -- irem
    obtain rfl := hln rfl
    split at h
    · split at h
      · cases h
      · rename_i hne
        obtain rfl := am_nx_inj h
        exact lv_irem hx hb hdc hne (hk _ _ _ _ _ (am_z0 _ _) (am_z0 _ _) hl hw hS)
    · cases h
  · -- ineg
    obtain rfl := hln rfl
    split at h
    · obtain rfl := am_nx_inj h
      exact lv_ineg hx hb hdc (hk _ _ _ _ _ (am_z0 _ _) (am_z0 _ _) hl hw hS)
    · cases h
  · -- iand
    obtain rfl := hln rfl
    split at h
    · obtain rfl := am_nx_inj h
      exact lv_iand hx hb hdc (hk _ _ _ _ _ (am_z0 _ _) (am_z0 _ _) hl hw hS)
    · cases h
  · -- ior
    obtain rfl := hln rfl
    split at h
    · obtain rfl := am_nx_inj h
      exact lv_ior hx hb hdc (hk _ _ _ _ _ (am_z0 _ _) (am_z0 _ _) hl hw hS)
    · cases h
  · -- ixor
    obtain rfl := hln rfl
    split at h
    · obtain rfl := am_nx_inj h
      exact lv_ixor hx hb hdc (hk _ _ _ _ _ (am_z0 _ _) (am_z0 _ _) hl hw hS)
    · cases h
  · -- ishl
    obtain rfl := hln rfl
    split at h
    · obtain rfl := am_nx_inj h
      exact lv_ishl hx hb hdc (hk _ _ _ _ _ (am_z0 _ _) (am_z0 _ _) hl hw hS)
    · cases h
  · -- ishr
    obtain rfl := hln rfl
    split at h
    · obtain rfl := am_nx_inj h
      exact lv_ishr hx hb hdc (hk _ _ _ _ _ (am_z0 _ _) (am_z0 _ _) hl hw hS)
    · cases h
  · -- iushr
    obtain rfl := hln rfl
    split at h
    · obtain rfl := am_nx_inj h
      exact lv_iushr hx hb hdc rfl (hk _ _ _ _ _ (am_z0 _ _) (am_z0 _ _) hl hw hS)
    · cases h
  · -- ladd
    obtain rfl := hln rfl
    split at h
    · obtain rfl := am_nx_inj h
      exact lv_ladd hx hb hdc (hk _ _ _ _ _ (am_z0 _ _) (am_z0 _ _) hl hw hS)
    · cases h
  · -- lsub
    obtain rfl := hln rfl
    split at h
    · obtain rfl := am_nx_inj h
      exact lv_lsub hx hb hdc (hk _ _ _ _ _ (am_z0 _ _) (am_z0 _ _) hl hw hS)
    · cases h
  · -- lmul
    obtain rfl := hln rfl
    split at h
    · obtain rfl := am_nx_inj h
      exact lv_lmul hx hb hdc (hk _ _ _ _ _ (am_z0 _ _) (am_z0 _ _) hl hw hS)
    · cases h
  · -- land
    obtain rfl := hln rfl
    split at h
    · obtain rfl := am_nx_inj h
      exact lv_land hx hb hdc (hk _ _ _ _ _ (am_z0 _ _) (am_z0 _ _) hl hw hS)
    · cases h
  · -- lor
    obtain rfl := hln rfl
    split at h
    · obtain rfl := am_nx_inj h
      exact lv_lor hx hb hdc (hk _ _ _ _ _ (am_z0 _ _) (am_z0 _ _) hl hw hS)
    · cases h
  · -- lxor
    obtain rfl := hln rfl
    split at h
    · obtain rfl := am_nx_inj h
      exact lv_lxor hx hb hdc (hk _ _ _ _ _ (am_z0 _ _) (am_z0 _ _) hl hw hS)
    · cases h
  · -- lshl
    obtain rfl := hln rfl
    split at h
    · obtain rfl := am_nx_inj h
      exact lv_lshl hx hb hdc rfl (hk _ _ _ _ _ (am_z0 _ _) (am_z0 _ _) hl hw hS)
    · cases h
  · -- lushr
    obtain rfl := hln rfl
    split at h
    · obtain rfl := am_nx_inj h
      exact lv_lushr hx hb hdc rfl (hk _ _ _ _ _ (am_z0 _ _) (am_z0 _ _) hl hw hS)
    · cases h
  · -- lcmp
    obtain rfl := hln rfl
    split at h
    · obtain rfl := am_nx_inj h
      exact W.lcmp hx hb hdc (hk _ _ _ _ _ (am_z0 _ _) (am_z0 _ _) hl hw hS)
    · cases h
  · -- i2l
    obtain rfl := hln rfl
    split at h
    · obtain rfl := am_nx_inj h
      exact lv_i2l hx hb hdc rfl (hk _ _ _ _ _ (am_z0 _ _) (am_z0 _ _) hl hw hS)
    · cases h
  · -- l2i
    obtain rfl := hln rfl
    split at h
    · obtain rfl := am_nx_inj h
      exact lv_l2i hx hb hdc rfl (hk _ _ _ _ _ (am_z0 _ _) (am_z0 _ _) hl hw hS)
    · cases h
  · -- i2b
    obtain rfl := hln rfl
    split at h
    · obtain rfl := am_nx_inj h
      exact lv_i2b hx hb hdc rfl (hk _ _ _ _ _ (am_z0 _ _) (am_z0 _ _) hl hw hS)
    · cases h
  · -- i2c
    obtain rfl := hln rfl
    split at h
    · obtain rfl := am_nx_inj h
      exact lv_i2c hx hb hdc rfl (hk _ _ _ _ _ (am_z0 _ _) (am_z0 _ _) hl hw hS)
    · cases h
  · -- i2d
    obtain rfl := hln rfl
    split at h
    · obtain rfl := am_nx_inj h
      exact lv_i2d hx hb hdc (hk _ _ _ _ _ (am_z0 _ _) (am_z0 _ _) hl hw hS)
    · cases h
  · -- d2l
    obtain rfl := hln rfl
    split at h
    · obtain rfl := am_nx_inj h
      exact lv_d2l hx hb hdc (hk _ _ _ _ _ (am_z0 _ _) (am_z0 _ _) hl hw hS)
    · cases h
  · -- ddiv
    obtain rfl := hln rfl
    split at h
    · split at h
      · rename_i hne
        obtain rfl := am_nx_inj h
        exact lv_ddiv hx hb hdc hne (hk _ _ _ _ _ (am_z0 _ _) (am_z0 _ _) hl hw hS)
      · cases h
    · cases h
  · -- dmul
    obtain rfl := hln rfl
    split at h
    · split at h
      · rename_i hne
        obtain rfl := am_nx_inj h
        exact lv_dmul hx hb hdc hne (hk _ _ _ _ _ (am_z0 _ _) (am_z0 _ _) hl hw hS)
      · cases h
    · cases h
  · -- dcmp
    rename_i o
    obtain rfl := hln rfl
    split at h
    · obtain rfl := am_nx_inj h
      exact lv_dcmp hx hb hdc (hk _ _ _ _ _ (am_z0 _ _) (am_z0 _ _) hl hw hS)
    · cases h
  · -- dup
    obtain rfl := hln rfl
    split at h
    · split at h
      · cases h
      · rename_i hv
        obtain rfl := am_nx_inj h
        exact lv_dup hx hb hdc (am_c2_one hv) (hk _ _ _ _ _ (am_z0 _ _) (am_z0 _ _) hl hw hS)
    · cases h
  · -- dup_x1
    obtain rfl := hln rfl
    split at h
    · split at h
      · cases h
      · rename_i hv
        obtain rfl := am_nx_inj h
        exact lv_dup_x1 hx hb hdc (am_c2_one (fun q => hv (Or.inl q))) (am_c2_one (fun q => hv (Or.inr q))) (hk _ _ _ _ _ (am_z0 _ _) (am_z0 _ _) hl hw hS)
    · cases h
  · -- dup2
    obtain rfl := hln rfl
    split at h
    · split at h
      · rename_i hv
        obtain rfl := am_nx_inj h
        exact lv_dup2_2 hx hb hdc ((am_c2_cat _).mp hv) (hk _ _ _ _ _ (am_z0 _ _) (am_z0 _ _) hl hw hS)
      · split at h
        · cases h
        · rename_i hv hu
          obtain rfl := am_nx_inj h
          exact lv_dup2_11 hx hb hdc (am_c2_one hv) (am_c2_one hu) (hk _ _ _ _ _ (am_z0 _ _) (am_z0 _ _) hl hw hS)
    · cases h
  · -- pop
    obtain rfl := hln rfl
    split at h
    · split at h
      · cases h
      · rename_i hv
        obtain rfl := am_nx_inj h
        exact lv_pop hx hb hdc (am_c2_one hv) (hk _ _ _ _ _ (am_z0 _ _) (am_z0 _ _) hl hw hS)
    · cases h
  · -- pop2
    obtain rfl := hln rfl
    split at h
    · split at h
      · rename_i hv
        obtain rfl := am_nx_inj h
        exact lv_pop2_2 hx hb hdc ((am_c2_cat _).mp hv) (hk _ _ _ _ _ (am_z0 _ _) (am_z0 _ _) hl hw hS)
      · cases h
    · cases h
  · -- goto
    rename_i o
    obtain rfl := hln rfl
    obtain ⟨t, h1, h⟩ := Option.bind_eq_some_iff.mp h
    obtain rfl := am_nx_inj h
    exact lv_goto hx hb hdc (am_tg_inj h1) (hk _ _ _ _ _ (am_z0 _ _) (am_z0 _ _) hl hw hS)
  · -- ifCond
    rename_i cc o
    obtain rfl := hln rfl
    split at h
    · rename_i x r
      obtain ⟨t, ht, rfl⟩ := am_br_inj (by simpa [am_lj] using hlj) h
      cases cc
      · refine lv_if_eq hx hb hdc ht (fun hc => ?_) (fun hc => ?_)
        · have hk1 := hk _ _ _ _ _ (am_z0 _ _) (am_z0 _ _) hl hw hS
          dsimp only at hk1
          rw [if_pos (by simp [am_cd, hc])] at hk1
          exact hk1
        · have hk1 := hk _ _ _ _ _ (am_z0 _ _) (am_z0 _ _) hl hw hS
          dsimp only at hk1
          rw [if_neg (by simpa [am_cd] using hc)] at hk1
          exact hk1
      · refine lv_if_ne hx hb hdc ht (fun hc => ?_) (fun hc => ?_)
        · have hk1 := hk _ _ _ _ _ (am_z0 _ _) (am_z0 _ _) hl hw hS
          dsimp only at hk1
          rw [if_pos (by simp [am_cd, hc])] at hk1
          exact hk1
        · have hk1 := hk _ _ _ _ _ (am_z0 _ _) (am_z0 _ _) hl hw hS
          dsimp only at hk1
          rw [if_neg (by simpa [am_cd] using hc)] at hk1
          exact hk1
      · refine lv_if_lt hx hb hdc ht (fun hc => ?_) (fun hc => ?_)
        · have hk1 := hk _ _ _ _ _ (am_z0 _ _) (am_z0 _ _) hl hw hS
          dsimp only at hk1
          rw [if_pos (by simp [am_cd, hc])] at hk1
          exact hk1
        · have hk1 := hk _ _ _ _ _ (am_z0 _ _) (am_z0 _ _) hl hw hS
          dsimp only at hk1
          rw [if_neg (by simpa [am_cd] using hc)] at hk1
          exact hk1
      · refine lv_if_ge hx hb hdc ht (fun hc => ?_) (fun hc => ?_)
        · have hk1 := hk _ _ _ _ _ (am_z0 _ _) (am_z0 _ _) hl hw hS
          dsimp only at hk1
          rw [if_pos (by simp [am_cd, hc])] at hk1
          exact hk1
        · have hk1 := hk _ _ _ _ _ (am_z0 _ _) (am_z0 _ _) hl hw hS
          dsimp only at hk1
          rw [if_neg (by simpa [am_cd] using hc)] at hk1
          exact hk1
      · refine lv_if_gt hx hb hdc ht (fun hc => ?_) (fun hc => ?_)
        · have hk1 := hk _ _ _ _ _ (am_z0 _ _) (am_z0 _ _) hl hw hS
          dsimp only at hk1
          rw [if_pos (by simp [am_cd, hc])] at hk1
          exact hk1
        · have hk1 := hk _ _ _ _ _ (am_z0 _ _) (am_z0 _ _) hl hw hS
          dsimp only at hk1
          rw [if_neg (by simpa [am_cd] using hc)] at hk1
          exact hk1
      · refine lv_if_le hx hb hdc ht (fun hc => ?_) (fun hc => ?_)
        · have hk1 := hk _ _ _ _ _ (am_z0 _ _) (am_z0 _ _) hl hw hS
          dsimp only at hk1
          rw [if_pos (by simp [am_cd, hc])] at hk1
          exact hk1
        · have hk1 := hk _ _ _ _ _ (am_z0 _ _) (am_z0 _ _) hl hw hS
          dsimp only at hk1
          rw [if_neg (by simpa [am_cd] using hc)] at hk1
          exact hk1
    · cases h
  · -- if_icmp
    rename_i cc o
    obtain rfl := hln rfl
    split at h
    · rename_i y1 x r
      obtain ⟨t, ht, rfl⟩ := am_br_inj (by simpa [am_lj] using hlj) h
      cases cc
      · refine lv_icmp_eq hx hb hdc ht (fun hc => ?_) (fun hc => ?_)
        · have hk1 := hk _ _ _ _ _ (am_z0 _ _) (am_z0 _ _) hl hw hS
          dsimp only at hk1
          rw [if_pos (by simp [am_cd, hc])] at hk1
          exact hk1
        · have hk1 := hk _ _ _ _ _ (am_z0 _ _) (am_z0 _ _) hl hw hS
          dsimp only at hk1
          rw [if_neg (by simpa [am_cd] using hc)] at hk1
          exact hk1
      · refine lv_icmp_ne hx hb hdc ht (fun hc => ?_) (fun hc => ?_)
        · have hk1 := hk _ _ _ _ _ (am_z0 _ _) (am_z0 _ _) hl hw hS
          dsimp only at hk1
          rw [if_pos (by simp [am_cd, hc])] at hk1
          exact hk1
        · have hk1 := hk _ _ _ _ _ (am_z0 _ _) (am_z0 _ _) hl hw hS
          dsimp only at hk1
          rw [if_neg (by simpa [am_cd] using hc)] at hk1
          exact hk1
      · refine lv_icmp_lt hx hb hdc ht (fun hc => ?_) (fun hc => ?_)
        · have hk1 := hk _ _ _ _ _ (am_z0 _ _) (am_z0 _ _) hl hw hS
          dsimp only at hk1
          rw [if_pos (by simp [am_cd, hc])] at hk1
          exact hk1
        · have hk1 := hk _ _ _ _ _ (am_z0 _ _) (am_z0 _ _) hl hw hS
          dsimp only at hk1
          rw [if_neg (by simpa [am_cd] using hc)] at hk1
          exact hk1
      · refine lv_icmp_ge hx hb hdc ht (fun hc => ?_) (fun hc => ?_)
        · have hk1 := hk _ _ _ _ _ (am_z0 _ _) (am_z0 _ _) hl hw hS
          dsimp only at hk1
          rw [if_pos (by simp [am_cd, hc])] at hk1
          exact hk1
        · have hk1 := hk _ _ _ _ _ (am_z0 _ _) (am_z0 _ _) hl hw hS
          dsimp only at hk1
          rw [if_neg (by simpa [am_cd] using hc)] at hk1
          exact hk1
      · refine lv_icmp_gt hx hb hdc ht (fun hc => ?_) (fun hc => ?_)
        · have hk1 := hk _ _ _ _ _ (am_z0 _ _) (am_z0 _ _) hl hw hS
          dsimp only at hk1
          rw [if_pos (by simp [am_cd, hc])] at hk1
          exact hk1
        · have hk1 := hk _ _ _ _ _ (am_z0 _ _) (am_z0 _ _) hl hw hS
          dsimp only at hk1
          rw [if_neg (by simpa [am_cd] using hc)] at hk1
          exact hk1
      · refine lv_icmp_le hx hb hdc ht (fun hc => ?_) (fun hc => ?_)
        · have hk1 := hk _ _ _ _ _ (am_z0 _ _) (am_z0 _ _) hl hw hS
          dsimp only at hk1
          rw [if_pos (by simp [am_cd, hc])] at hk1
          exact hk1
        · have hk1 := hk _ _ _ _ _ (am_z0 _ _) (am_z0 _ _) hl hw hS
          dsimp only at hk1
          rw [if_neg (by simpa [am_cd] using hc)] at hk1
          exact hk1
    · cases h
  · -- if_acmp
    rename_i cc o
    obtain rfl := hln rfl
    split at h
    · rename_i y1 x r
      obtain ⟨t, ht, rfl⟩ := am_br_inj (by simpa [am_lj] using hlj) h
      cases cc
      · refine lv_acmp_eq (rx := some x) (ry := some y1) hx hb hdc ht (fun hc => ?_) (fun hc => ?_)
        · have hk1 := hk _ _ _ _ _ (am_z0 _ _) (am_z0 _ _) hl hw hS
          dsimp only at hk1
          rw [if_pos (by simpa using hc)] at hk1
          exact hk1
        · have hk1 := hk _ _ _ _ _ (am_z0 _ _) (am_z0 _ _) hl hw hS
          dsimp only at hk1
          rw [if_neg (by simpa using hc)] at hk1
          exact hk1
      · refine lv_acmp_ne (rx := some x) (ry := some y1) hx hb hdc ht (fun hc => ?_) (fun hc => ?_)
        · have hk1 := hk _ _ _ _ _ (am_z0 _ _) (am_z0 _ _) hl hw hS
          dsimp only at hk1
          rw [if_pos (by simpa using hc)] at hk1
          exact hk1
        · have hk1 := hk _ _ _ _ _ (am_z0 _ _) (am_z0 _ _) hl hw hS
          dsimp only at hk1
          rw [if_neg (by simpa using hc)] at hk1
          exact hk1
    · cases h
  · -- ifnull
    rename_i o
    obtain rfl := hln rfl
    split at h
    · obtain rfl := am_nx_inj h
      exact lv_ifnull hx hb hdc (hk _ _ _ _ _ (am_z0 _ _) (am_z0 _ _) hl hw hS)
    · obtain ⟨t, h1, h⟩ := Option.bind_eq_some_iff.mp h
      obtain rfl := am_nx_inj h
      exact lv_ifnullN hx hb hdc (am_tg_inj h1) (hk _ _ _ _ _ (am_z0 _ _) (am_z0 _ _) hl hw hS)
    · cases h
  · -- ifnonnull
    rename_i o
    obtain rfl := hln rfl
    split at h
    · obtain ⟨t, h1, h⟩ := Option.bind_eq_some_iff.mp h
      obtain rfl := am_nx_inj h
      exact lv_ifnonnull hx hb hdc (am_tg_inj h1) (hk _ _ _ _ _ (am_z0 _ _) (am_z0 _ _) hl hw hS)
    · obtain rfl := am_nx_inj h
      exact lv_ifnonnullN hx hb hdc (hk _ _ _ _ _ (am_z0 _ _) (am_z0 _ _) hl hw hS)
    · cases h
  · -- lookupswitch
    rename_i d ps
    split at h
    · split at h
      · rename_i x r hp
        obtain ⟨t, h1, h⟩ := Option.bind_eq_some_iff.mp h
        obtain rfl := am_nx_inj h
        exact lv_lookup hx hb hdc hp (am_sw_lk _ _ _) (am_tg_inj h1) (hk _ _ _ _ _ (am_z0 _ _) (am_z0 _ _) hl hw hS)
      · cases h
    · cases h
  · -- tableswitch
    rename_i d lo hi os
    split at h
    · split at h
      · rename_i x r hp
        obtain ⟨t, h1, h⟩ := Option.bind_eq_some_iff.mp h
        obtain rfl := am_nx_inj h
        obtain ⟨g1, g2⟩ := am_sw_tb x d os.toList lo 0
        have hz : os.toList.length = os.size := Array.length_toList
        rw [hz] at g1 g2
        simp only [Int.natCast_zero, Int.add_zero, Int.ofNat_zero] at g1 g2
        by_cases ho : x.toInt < lo ∨ hi < x.toInt
        · rw [g1 (by omega)] at h1
          exact lv_tableOut hx hb hdc ho (am_tg_inj h1) (hk _ _ _ _ _ (am_z0 _ _) (am_z0 _ _) hl hw hS)
        · obtain ⟨off, ho1, ho2⟩ := g2 (by omega) (by omega)
          rw [ho2] at h1
          exact lv_tableIn hx hb hdc (fun q => ho (Or.inl q)) (fun q => ho (Or.inr q)) (by rw [← Array.getElem?_toList]; exact ho1) (am_tg_inj h1) (hk _ _ _ _ _ (am_z0 _ _) (am_z0 _ _) hl hw hS)
      · cases h
    · cases h
  · -- getfield
    rename_i x
    obtain rfl := hln rfl
    split at h
    · rename_i k0 ci k r0
      split at h
      · rename_i a0 r
        obtain ⟨v, h1, h⟩ := Option.bind_eq_some_iff.mp h
        obtain rfl := am_nx_inj h
        cases r0 with
        | nil => simp [am_lk] at hlk
        | cons q9 r9 =>
          exact am_h_get C1 (show am_lf (am_ow y) x ci k q9 r9 = true from hlk) hdc h1 hw hS (hk _ _ _ _ _ (am_z0 _ _) (am_z0 _ _) hl hw hS)
      · cases h
    · cases h
  · -- putfield
    rename_i x
    obtain rfl := hln rfl
    split at h
    · rename_i k0 ci k r0
      split at h
      · rename_i v a0 r
        split at h
        · rename_i hok
          obtain ⟨w1, h1, h⟩ := Option.bind_eq_some_iff.mp h
          obtain rfl := am_nx_inj h
          cases r0 with
          | nil => simp [am_lk] at hlk
          | cons q9 r9 =>
            have hlk : (am_lf (am_ow y) x ci k q9 r9 && am_lp y ci k x q9 && decide (ci < 12)) = true := hlk
            simp only [Bool.and_eq_true] at hlk
            have hge : w1.2 = w.2 := am_pf_ge h1
            exact am_h_put C1 hlk.1.1 hlk.1.2 hdc hok h1 hw hS (fun H2 l2 hw2 hS2 => hk _ _ _ _ _ (by show _ = _ + (w1.2.1 - w.2.1); rw [hge]; exact am_z0 _ _) (by show _ = _ + (w1.2.2.1 - w.2.2.1); rw [hge]; exact am_z0 _ _) hl hw2 hS2)
        · cases h
      · cases h
    · cases h
  · -- getstatic
    rename_i x
    obtain rfl := hln rfl
    split at h
    · rename_i n r
      obtain rfl := am_nx_inj h
      cases r with
      | nil => simp [am_lk] at hlk
      | cons q9 r9 =>
        have hlk : am_stati.any (fun z => decide (z.2.2.2 = n) && am_lw (.fieldLink (am_ow y) x z.1 z.2.1 z.2.2.1) q9) = true := hlk
        obtain ⟨z, hz, h1⟩ := List.any_eq_true.mp hlk
        simp only [Bool.and_eq_true, decide_eq_true_eq] at h1
        obtain ⟨rfl, h1⟩ := h1
        exact va_gets hx hb (hsti z hz) hS hown (hts _ (am_lw_ok h1)) (fun _ h9 => h9) hdc (hk _ _ _ _ _ (am_z0 _ _) (am_z0 _ _) hl hw hS)
    · rename_i k r
      obtain rfl := am_nx_inj h
      cases r with
      | nil => simp [am_lk] at hlk
      | cons q9 r9 =>
        have hlk : am_stats.any (fun z => decide (z.1 = k) && am_lw (.fieldLink (am_ow y) x z.2.1 z.2.2.1 z.2.2.2) q9) = true := hlk
        obtain ⟨z, hz, h1⟩ := List.any_eq_true.mp hlk
        simp only [Bool.and_eq_true, decide_eq_true_eq] at h1
        obtain ⟨rfl, h1⟩ := h1
        have hk9 := hk _ _ _ _ _ (am_z0 _ _) (am_z0 _ _) hl hw hS
        dsimp only at hk9
        rw [hw.2.1] at hk9
        exact va_gets hx hb (hsts z hz) hS hown (hts _ (am_lw_ok h1)) (fun _ h9 => h9) hdc hk9
    · cases h
  · -- iaload
    obtain rfl := hln rfl
    split at h
    · rename_i i a0 r
      obtain ⟨v, h1, h⟩ := Option.bind_eq_some_iff.mp h
      obtain rfl := am_nx_inj h
      exact am_h_ri C1 hdc h1 hw hS (hk _ _ _ _ _ (am_z0 _ _) (am_z0 _ _) hl hw hS)
    · cases h
  · -- baload
    obtain rfl := hln rfl
    split at h
    · rename_i t r0
      split at h
      · rename_i i a0 r
        obtain ⟨v, h1, h⟩ := Option.bind_eq_some_iff.mp h
        obtain rfl := am_nx_inj h
        have hlk : decide (t = 2 ∨ t = 3) = true := hlk
        exact am_h_rb C1 hdc (of_decide_eq_true hlk) h1 hw hS (hk _ _ _ _ _ (am_z0 _ _) (am_z0 _ _) hl hw hS)
      · cases h
    · cases h
  · -- laload
    obtain rfl := hln rfl
    split at h
    · rename_i i a0 r
      obtain ⟨v, h1, h⟩ := Option.bind_eq_some_iff.mp h
      obtain rfl := am_nx_inj h
      exact am_h_rl C1 hdc h1 hw (hk _ _ _ _ _ (am_z0 _ _) (am_z0 _ _) hl hw hS)
    · cases h
  · -- aaload
    obtain rfl := hln rfl
    split at h
    · rename_i i a0 r
      obtain ⟨v, h1, h⟩ := Option.bind_eq_some_iff.mp h
      obtain rfl := am_nx_inj h
      exact am_h_rq C1 hdc h1 hw (hk _ _ _ _ _ (am_z0 _ _) (am_z0 _ _) hl hw hS)
    · cases h
  · -- iastore
    obtain rfl := hln rfl
    split at h
    · rename_i x i a0 r
      obtain ⟨w1, h1, h⟩ := Option.bind_eq_some_iff.mp h
      obtain rfl := am_nx_inj h
      have hge : w1.2 = w.2 := am_wi_ge h1
      exact am_h_wi C1 hdc h1 hw hS (fun H2 l2 hw2 hS2 => hk _ _ _ _ _ (by show _ = _ + (w1.2.1 - w.2.1); rw [hge]; exact am_z0 _ _) (by show _ = _ + (w1.2.2.1 - w.2.2.1); rw [hge]; exact am_z0 _ _) hl hw2 hS2)
    · cases h
  · -- bastore
    obtain rfl := hln rfl
    split at h
    · rename_i t r0
      split at h
      · rename_i x i a0 r
        obtain ⟨w1, h1, h⟩ := Option.bind_eq_some_iff.mp h
        obtain rfl := am_nx_inj h
        have hge : w1.2 = w.2 := am_wi_ge h1
        have hlk : decide (t = 2 ∨ t = 3) = true := hlk
        exact am_h_wb C1 hdc (of_decide_eq_true hlk) h1 hw hS (fun H2 l2 hw2 hS2 => hk _ _ _ _ _ (by show _ = _ + (w1.2.1 - w.2.1); rw [hge]; exact am_z0 _ _) (by show _ = _ + (w1.2.2.1 - w.2.2.1); rw [hge]; exact am_z0 _ _) hl hw2 hS2)
      · cases h
    · cases h
  · -- lastore
    obtain rfl := hln rfl
    split at h
    · rename_i x i a0 r
      obtain ⟨w1, h1, h⟩ := Option.bind_eq_some_iff.mp h
      obtain rfl := am_nx_inj h
      have hge : w1.2 = w.2 := am_wl_ge h1
      exact am_h_wl C1 hdc h1 hw hS (fun H2 l2 hw2 hS2 => hk _ _ _ _ _ (by show _ = _ + (w1.2.1 - w.2.1); rw [hge]; exact am_z0 _ _) (by show _ = _ + (w1.2.2.1 - w.2.2.1); rw [hge]; exact am_z0 _ _) hl hw2 hS2)
    · cases h
  · -- aastore
    obtain rfl := hln rfl
    split at h
    · rename_i t ci r0
      split at h
      · rename_i b0 i a0 r
        obtain ⟨w1, h1, h⟩ := Option.bind_eq_some_iff.mp h
        obtain rfl := am_nx_inj h
        have hge : w1.2 = w.2 := am_wq_ge h1
        cases r0 with
        | nil => simp [am_lk] at hlk
        | cons q9 r9 =>
          have hlk : (match am_cl[ci]? with | some (C, _, _) => decide (t = 4 ∧ C = "Bumpward$Walker") || decide (t = 5 ∧ C = "BumpwardModel$Walker" ∧ q9 = q9) | none => false) = true := hlk
          split at hlk
          · rename_i C T N hcl
            simp only [Bool.or_eq_true, Bool.and_eq_true, decide_eq_true_eq] at hlk
            have hk2 := (fun H2 l2 hw2 hS2 => hk H2 l2 lsA cells slots (by show _ = _ + (w1.2.1 - w.2.1); rw [hge]; exact am_z0 _ _) (by show _ = _ + (w1.2.2.1 - w.2.2.1); rw [hge]; exact am_z0 _ _) hl hw2 hS2)
            rcases hlk with ⟨rfl, hC⟩ | ⟨rfl, hC, -⟩
            · exact am_h_wq C1 hdc (Or.inl rfl) hcl (E := "Bumpward$Walker") rfl (Or.inl hC) h1 hw hS hk2
            · exact am_h_wq C1 hdc (Or.inr rfl) hcl (E := "java/lang/Object") rfl (Or.inr (by rw [hC]; decide)) h1 hw hS hk2
          · cases hlk
      · cases h
    · cases h
  · -- arraylength
    obtain rfl := hln rfl
    split at h
    · rename_i a0 r
      obtain ⟨v, h1, h⟩ := Option.bind_eq_some_iff.mp h
      obtain rfl := am_nx_inj h
      exact am_h_len C1 hdc h1 hw hS (hk _ _ _ _ _ (am_z0 _ _) (am_z0 _ _) hl hw hS)
    · cases h
  · -- newarray
    rename_i at1
    obtain rfl := hln rfl
    split at h
    · rename_i t r0
      split at h
      · rename_i n r
        obtain ⟨w1, h1, h⟩ := Option.bind_eq_some_iff.mp h
        obtain rfl := am_nx_inj h
        cases r0 with
        | nil => simp [am_lk] at hlk
        | cons q9 r9 =>
          have hlk : (decide (newarray.typeOf at1 = am_tyl t ∧ t < 4) && am_lw (.arrayClass (am_tyl t)) q9) = true := hlk
          simp only [Bool.and_eq_true, decide_eq_true_eq] at hlk
          exact am_h_na C1 hdc hlk.1.1 hlk.1.2 (am_lw_ok hlk.2) h1 hw hS hR (fun H2 hw2 hS2 => hk _ _ _ _ _ rfl rfl hl hw2 hS2)
      · cases h
    · cases h
  · -- anewarray
    rename_i x
    obtain rfl := hln rfl
    split at h
    · rename_i t r0
      split at h
      · rename_i n r
        obtain ⟨w1, h1, h⟩ := Option.bind_eq_some_iff.mp h
        obtain rfl := am_nx_inj h
        cases r0 with
        | nil => simp [am_lk] at hlk
        | cons q9 r9 =>
          have hlk : ((decide (t = 4) && am_lw (.classLink (am_ow y) x "Bumpward$Walker") q9) || (decide (t = 5) && am_lw (.classLink (am_ow y) x "java/lang/Object") q9)) = true := hlk
          simp only [Bool.or_eq_true, Bool.and_eq_true, decide_eq_true_eq] at hlk
          rcases hlk with ⟨rfl, h2⟩ | ⟨rfl, h2⟩
          · exact am_h_nq C1 hdc (C := "Bumpward$Walker") rfl (Or.inl rfl) (am_lw_ok h2) hO1 h1 hw hS hR (fun H2 hw2 hS2 => hk _ _ _ _ _ rfl rfl hl hw2 hS2)
          · exact am_h_nq C1 hdc (C := "java/lang/Object") rfl (Or.inr rfl) (am_lw_ok h2) hO2 h1 hw hS hR (fun H2 hw2 hS2 => hk _ _ _ _ _ rfl rfl hl hw2 hS2)
      · cases h
    · cases h
  · -- multianewarray
    rename_i x d
    obtain rfl := hln rfl
    split at h
    · rename_i k n r
      obtain ⟨w1, h1, h⟩ := Option.bind_eq_some_iff.mp h
      obtain rfl := am_nx_inj h
      have hlk : am_lkM y x d an = true := hlk
      unfold am_lkM at hlk
      split at hlk
      · rename_i q9 q8 q7 r9
        simp only [Bool.and_eq_true, decide_eq_true_eq] at hlk
        obtain ⟨⟨rfl, h2⟩, h3⟩ := hlk
        exact am_h_mn C1 hdc (am_lw_ok h2) hO3 (am_lw_ok h3) h1 hw hS hR (fun H2 hw2 hS2 => hk _ _ _ _ _ rfl rfl hl hw2 hS2)
      · cases hlk
    · cases h
  · -- new
    rename_i x
    obtain rfl := hln rfl
    split at h
    · rename_i ci n r0
      obtain rfl := am_nx_inj h
      have hlN : am_lkN y x (0 :: ci :: n :: r0) = true := hlk
      clear hlk
      unfold am_lkN at hlN
      split at hlN
      · rename_i ci1 n1 q9 q8 q7 r9 q
        simp only [List.cons.injEq, true_and] at q
        obtain ⟨rfl, rfl, rfl⟩ := q
        split at hlN
        · rename_i C T N hcl
          simp only [Bool.and_eq_true, decide_eq_true_eq] at hlN
          obtain ⟨⟨⟨⟨rfl, h12⟩, h2⟩, h3⟩, h4⟩ := hlN
          have e1 : (am_nw w (.inr (ci, am_df ci n)) n).2.1 - w.2.1 = 1 := by show w.2.1 + 1 - w.2.1 = 1; omega
          have e2 : (am_nw w (.inr (ci, am_df ci n)) n).2.2.1 - w.2.2.1 = n := by show w.2.2.1 + n - w.2.2.1 = n; omega
          dsimp only at hR hk
          rw [e1, e2] at hR hk
          exact am_h_new C1 hdc hcl h12 (am_lw_ok h2) (am_lw_ok h3) (am_lw_ok h4) hw hS hR (fun H2 hw2 hS2 => hk _ _ _ _ _ rfl rfl hl hw2 hS2)
        · cases hlN
      · rename_i q; cases q
      · cases hlN
      · exfalso; simp_all
      · exfalso; simp_all
    · split at h
      · cases h
      · cases h
    · cases h
  · -- checkcast
    rename_i x
    obtain rfl := hln rfl
    split at h
    · rename_i ci r0
      split at h
      · rename_i a0 r
        obtain ⟨u, h1, h⟩ := Option.bind_eq_some_iff.mp h
        obtain rfl := am_nx_inj h
        cases r0 with
        | nil => simp [am_lk] at hlk
        | cons q9 r9 =>
          have hlk : (match am_cl[ci]? with | some (C, _, _) => am_lw (.classLink (am_ow y) x C) q9 | none => false) = true := hlk
          split at hlk
          · rename_i C T N hcl
            exact va_castE hx hb hown (hts _ (am_lw_ok hlk)) (am_kf_rv hK hbs hS hw hcl h1) hdc (hk _ _ _ _ _ (am_z0 _ _) (am_z0 _ _) hl hw hS)
          · cases hlk
      · cases h
    · rename_i t r0
      split at h
      · rename_i a0 r
        obtain ⟨u, h1, h⟩ := Option.bind_eq_some_iff.mp h
        obtain rfl := am_nx_inj h
        cases r0 with
        | nil => simp [am_lk] at hlk
        | cons q9 r9 =>
          have hlk : (decide (t < 7) && am_lw (.classLink (am_ow y) x ("[" ++ (am_tyl t).toString)) q9) = true := hlk
          simp only [Bool.and_eq_true, decide_eq_true_eq] at hlk
          obtain ⟨t1, x1, he, ht⟩ := am_kt_ok h1
          obtain ⟨wx, k0, hP, hk0⟩ := hw.rw he (by obtain ⟨x1a, x1b⟩ := x1; simp [am_ro, ht]; omega)
          have hk1 : wx[k0]? = some (a0, .inl (dA t, x1)) := by rw [hk0, ht]; simp [am_cv, Nat.mod_eq_of_lt (show t < 8 by omega)]
          exact va_castA hx hb hown (hts _ (am_lw_ok hlk.2)) hP k0 hk1 (am_K_nm hK hlk.1) hdc (hk _ _ _ _ _ (am_z0 _ _) (am_z0 _ _) hl hw hS)
      · cases h
    · cases h
  · -- instanceof
    rename_i x
    obtain rfl := hln rfl
    split at h
    · rename_i ci r0
      split at h
      · rename_i a0 r
        obtain ⟨u, h1, h⟩ := Option.bind_eq_some_iff.mp h
        obtain rfl := am_nx_inj h
        cases r0 with
        | nil => simp [am_lk] at hlk
        | cons q9 r9 =>
          have hlk : (match am_cl[ci]? with | some (C, _, _) => am_lw (.classLink (am_ow y) x C) q9 | none => false) = true := hlk
          split at hlk
          · rename_i C T N hcl
            exact va_instE hx hb hown (hts _ (am_lw_ok hlk)) (am_kf_rv hK hbs hS hw hcl h1) hdc (hk _ _ _ _ _ (am_z0 _ _) (am_z0 _ _) hl hw hS)
          · cases hlk
      · cases h
    · cases h
  · -- invokevirtual
    rename_i x
    obtain rfl := hln rfl
    split at h
    · rename_i r0
      split at h
      · rename_i a0 r
        split at h
        · rename_i hsz8
          split at h
          · rename_i t n x1 he
            split at h
            · rename_i ht
              obtain rfl := am_nx_inj h
              have hlk : am_lkV y x (1 :: r0) = true := hlk
              unfold am_lkV at hlk
              split at hlk
              · rename_i q9 q8 q7 q6 q5 q4 r9
                simp only [Bool.and_eq_true] at hlk
                have e1 : (am_nw w (.inl (1, n, .inr (.inl x1))) n).2.1 - w.2.1 = 1 := by show w.2.1 + 1 - w.2.1 = 1; omega
                have e2 : (am_nw w (.inl (1, n, .inr (.inl x1))) n).2.2.1 - w.2.2.1 = n := by show w.2.2.1 + n - w.2.2.1 = n; omega
                dsimp only at hR hk
                rw [e1, e2] at hR hk
                exact am_h_clone C1 hsz.symm hdc hlk hsz8 he ht hw hS hR (fun H2 hw2 hS2 => hk _ _ _ _ _ rfl rfl hl hw2 hS2)
              · rename_i q; cases q
              · rename_i q; cases q
              · rename_i q; cases q
              · rename_i q; cases q
              · cases hlk
            · cases h
          · cases h
        · cases h
      · cases h
    · split at h
      · split at h
        · obtain ⟨_, _, h⟩ := Option.bind_eq_some_iff.mp h; simp at h
        · cases h
      · cases h
    · cases h
  · -- invokeinterface
    split at h
    · split at h
      · split at h
        · obtain ⟨_, _, h⟩ := Option.bind_eq_some_iff.mp h; simp at h
        · cases h
      · cases h
    · cases h
  · -- invokespecial
    rename_i x
    obtain rfl := hln rfl
    split at h
    · rename_i r0
      split at h
      · rename_i a0 r
        split at h
        · rename_i hz8
          obtain rfl := am_nx_inj h
          have hlk : am_lkP y x (1 :: r0) = true := hlk
          unfold am_lkP at hlk
          split at hlk
          · rename_i q9 q8 q7 r9
            simp only [Bool.and_eq_true] at hlk
            exact W.objInit hx hb hown (hts _ (am_lw_ok hlk.1.1)) (hts _ (am_lw_ok hlk.1.2)) (hts _ (am_lw_ok hlk.2)) rfl hsz rfl hdc (by omega) (by show 2 * 0 + am_sz r + 12 ≤ _; omega) (hk _ _ _ _ _ (am_z0 _ _) (am_z0 _ _) hl hw hS)
          · rename_i q; cases q
          · rename_i q; cases q
          · rename_i q; cases q
          · cases hlk
        · cases h
      · cases h
    · split at h
      · split at h
        · obtain ⟨_, _, h⟩ := Option.bind_eq_some_iff.mp h; simp at h
        · cases h
      · cases h
    · split at h
      · split at h
        · simp at h
        · cases h
      · cases h
    · cases h
  · -- invokestatic
    rename_i x
    obtain rfl := hln rfl
    split at h
    · split at h
      · split at h
        · rename_i hz8
          obtain rfl := am_nx_inj h
          have hlk : am_lkS y x _ = true := hlk
          unfold am_lkS at hlk
          split at hlk
          · rename_i q9 q8 q7 q6 r9
            simp only [Bool.and_eq_true] at hlk
            exact va_mmax hx hb hsz.symm hown (hts _ (am_lw_ok hlk.1.1.1)) (hts _ (am_lw_ok hlk.1.1.2)) (hts _ (am_lw_ok hlk.1.2)) (hts _ (am_lw_ok hlk.2)) (by omega) (by show am_sz _ + 13 ≤ _; omega) (by dsimp only at hR; omega) (by dsimp only at hR; omega) hdc (hk _ _ _ _ _ (am_z0 _ _) (am_z0 _ _) hl hw hS)
          · rename_i q; simp at q
          · rename_i q; simp at q
          · rename_i q; simp at q
          · rename_i q; simp at q
          · rename_i q; simp at q
          · cases hlk
        · cases h
      · cases h
    · split at h
      · split at h
        · rename_i hz8
          obtain rfl := am_nx_inj h
          have hlk : am_lkS y x _ = true := hlk
          unfold am_lkS at hlk
          split at hlk
          · rename_i q; simp at q
          · rename_i q9 q8 q7 q6 r9
            simp only [Bool.and_eq_true] at hlk
            exact va_mmin hx hb hsz.symm hown (hts _ (am_lw_ok hlk.1.1.1)) (hts _ (am_lw_ok hlk.1.1.2)) (hts _ (am_lw_ok hlk.1.2)) (hts _ (am_lw_ok hlk.2)) (by omega) (by show am_sz _ + 13 ≤ _; omega) (by dsimp only at hR; omega) (by dsimp only at hR; omega) hdc (hk _ _ _ _ _ (am_z0 _ _) (am_z0 _ _) hl hw hS)
          · rename_i q; simp at q
          · rename_i q; simp at q
          · rename_i q; simp at q
          · rename_i q; simp at q
          · cases hlk
        · cases h
      · cases h
    · split at h
      · split at h
        · rename_i hz8
          obtain rfl := am_nx_inj h
          have hlk : am_lkS y x _ = true := hlk
          unfold am_lkS at hlk
          split at hlk
          · rename_i q; simp at q
          · rename_i q; simp at q
          · rename_i q9 q8 q7 q6 r9
            simp only [Bool.and_eq_true] at hlk
            exact va_mabs hx hb hsz.symm hown (hts _ (am_lw_ok hlk.1.1.1)) (hts _ (am_lw_ok hlk.1.1.2)) (hts _ (am_lw_ok hlk.1.2)) (hts _ (am_lw_ok hlk.2)) (by omega) (by show am_sz _ + 13 ≤ _; omega) (by dsimp only at hR; omega) (by dsimp only at hR; omega) hdc (hk _ _ _ _ _ (am_z0 _ _) (am_z0 _ _) hl hw hS)
          · rename_i q; simp at q
          · rename_i q; simp at q
          · rename_i q; simp at q
          · cases hlk
        · cases h
      · cases h
    · split at h
      · split at h
        · rename_i hz8
          obtain ⟨w1, h1, h⟩ := Option.bind_eq_some_iff.mp h
          obtain rfl := am_nx_inj h
          have hge : w1.2 = w.2 := am_cy_ge h1
          have hlk : am_lkS y x _ = true := hlk
          unfold am_lkS at hlk
          split at hlk
          · rename_i q; simp at q
          · rename_i q; simp at q
          · rename_i q; simp at q
          · rename_i q9 q8 q7 q6 r9
            simp only [Bool.and_eq_true] at hlk
            exact am_h_cy C1 hsz.symm hdc hlk hz8 h1 hw hS (fun H2 l2 hw2 hS2 => hk _ _ _ _ _ (by show _ = _ + (w1.2.1 - w.2.1); rw [hge]; exact am_z0 _ _) (by show _ = _ + (w1.2.2.1 - w.2.2.1); rw [hge]; exact am_z0 _ _) hl hw2 hS2)
          · rename_i q; simp at q
          · rename_i q; simp at q
          · cases hlk
        · cases h
      · cases h
    · split at h
      · simp at h
      · cases h
    · cases h
  · -- ireturn
    split at h
    · split at h
      · split at h
        · simp at h
        · cases h
      · cases h
    · cases h
  · -- lreturn
    split at h
    · simp at h
    · cases h
  · -- dreturn
    split at h
    · simp at h
    · cases h
  · -- areturn
    split at h
    · simp at h
    · cases h
  · -- return_
    split at h
    · simp at h
    · cases h
  · cases h
end AMG
end
section
section VXIA
variable {p : Program} {l : Launch} {e : Env} {R : Room} {s : State} {m : MethodId} {args : Array Value} {below : List Frame} {meth : Method} {c : Code} {T : State} {locs : List Loc} {cells slots : Nat}
theorem vx_callI (X : Stand p l e R s m args below meth c T locs cells slots) (hexec : p.tables.exec = Jvm.exec) {own : String} {index : Nat} {y : MethodName} {bytes : ByteArray} {maxL : Nat}
    (hown : s.vm.findClass own = some m.cls) (hy1 : y.name = "<init>") (hlink : (Cond.methodLink own index y).before args s = true) (hinst : (Cond.instanceMethod y).before args s = true)
    (hcode : (Cond.code y bytes maxL none).before args s = true) (hy : y.cls ≠ "java/lang/invoke/MethodHandle" ∧ y.cls ≠ "java/lang/invoke/VarHandle")
    {W9 : Nat} {Pre : Pt → Array Value → Prop} {Post : Pt → Array Value → Option Value → Pt → Prop} {PostX : Pt → Array Value → Addr → Pt → Prop} (hK : vx_Back l R p e below s args y 3 W9 Pre Post PostX)
    {g : JFrame} (hg : g.method = m) (hsize : g.locals.size = c.maxLocals) {a : Addr} {argsL rest : List Value} (hlen : ∀ sig, parseMethodDescriptor y.desc = some sig → argsL.length = sig.parameters.length)
    (hstack : g.stack = argsL.reverse ++ .ref a :: rest) (hW : 2 * g.monitorRoom + (rest.map fun v => v.category).sum ≤ W9) (hdg : decode c.code g.pc = .ok (.invokespecial index, 3))
    (hpre : ∀ vm₁, s.WarmedH vm₁ → Pre ⟨T.setVm vm₁, locs, cells, slots⟩ (Value.ref a :: argsL).toArray) :
    (∃ (v : Option Value) (vm₁ : Vm) (B : Pt), s.WarmedH vm₁ ∧ Stand p l e R s m args below meth c B.U B.locs B.cells B.slots ∧ Post ⟨T.setVm vm₁, locs, cells, slots⟩ (Value.ref a :: argsL).toArray v B ∧
      ∀ target, Steps p.tables e below (B.U.setTop { g with pc := g.pc + 3, stack := v.toList ++ rest }) target → Steps p.tables e below (T.setTop g) target) ∨
    (∃ (q : Addr) (vm₁ : Vm) (B : Pt), s.WarmedH vm₁ ∧ Stand p l e R s m args below meth c B.U B.locs B.cells B.slots ∧ PostX ⟨T.setVm vm₁, locs, cells, slots⟩ (Value.ref a :: argsL).toArray q B ∧
      Steps p.tables e below (T.setTop g) ((B.U.setTop { g with stack := rest }).pushFrame (.throwing q))) := by
  subst hg
  have hpl : e.platform.magicAccessors = ({} : Platform).magicAccessors := by rw [X.admits.platform]
  obtain ⟨mk, methM, cM, kP, vm₁, hnamed, hmethM, hcodeM, -, hlocalsM, -, hkP, -, hW₁, hstep₁⟩ := Steps.initColdArgs (e := e) X.here hexec X.warmed hpl hown hy1 hy hlink hinst hcode (f := g) rfl hlen hstack hdg
  have X₁ := X.noted hW₁
  rcases hK g.method meth c ⟨T.setVm vm₁, locs, cells, slots⟩ { g with stack := rest } (.invokespecial index) mk (Value.ref a :: argsL).toArray X₁ rfl hsize hdg hW (X₁.named hnamed) (hpre vm₁ X₁.warmed) with ⟨v, B, X', hpost, hsteps⟩ | ⟨q, B, X', hpost, hsteps⟩
  · exact Or.inl ⟨v, vm₁, B, X₁.warmed, X', hpost, fun target h => hstep₁ _ fun acts => by rw [doInvoke_state]; exact hsteps.trans h⟩
  · exact Or.inr ⟨q, vm₁, B, X₁.warmed, X', hpost, hstep₁ _ fun acts => by rw [doInvoke_state]; exact hsteps⟩
end VXIA
section VXIB
variable {p : Program} {l : Launch} {e : Env} {R : Room} {s : State} {m : MethodId} {args : Array Value} {below : List Frame} {meth : Method} {c : Code} {H : Heap} {locs : List Loc} {cells slots : Nat}
variable {y : MethodName} {bytes cc : ByteArray} {maxL nL mc ms n index : Nat} {ret : Option FieldType} {ws : List Cond} {rm : Room} {Pc : Array Value → State → Prop} {Qc : Array Value → State → Outcome → State → Prop} {XC : String → State → State → Prop} {free : Addr → Prop} {Ts : List Cond} {own C : String} {b : Addr} {As rest : List Value} {g : JFrame}
theorem vx_runI (S : CallFix p m c cc nL s args Ts own) (hM : vx_Met l y ws rm Pc Qc XC mc ms free) (cw : CallB R s args own index y bytes maxL none ws rm mc ms n ∧ y.name = "<init>" ∧ (Cond.instanceMethod y).before args s = true) (hp : PreS s H Pc (.ref b :: As))
    (hg : g.method = m) (hn : As.length = n) (hsize : g.locals.size = nL) (hstack : g.stack = As.reverse ++ .ref b :: rest) (hW : 2 * g.monitorRoom + (rest.map fun v => v.category).sum ≤ 8) (hdg : decode cc g.pc = .ok (.invokespecial index, 3)) (hf : cells + mc ≤ R.cells ∧ slots + ms ≤ R.slots) :
    vx_Run p l e R s m args below meth c H locs cells slots mc ms g rest (Qc (Value.ref b :: As).toArray) XC free := by
  have hK : vx_Back l R p e below s args y 3 8 (PreOf R mc ms Pc) (PostOf Qc mc ms free) (vx_Post XC mc ms free) := vx_callBack cw.1 hM hp.1
  obtain ⟨⟨-, -, -, -, -, -, hcode, -, hy, hlen, hl⟩, hy1, hin⟩ := cw
  obtain ⟨hx, hb, hml, ho, -⟩ := S
  have hPc := hp.2
  intro T hT X
  rcases vx_callI X hx (bytes := bytes) (maxL := maxL) ho hy1 hl hin hcode hy hK hg (hsize.trans hml.symm) (a := b) (argsL := As) (rest := rest) (fun sig h => hn.trans (hlen sig h)) hstack hW (by rw [hb]; exact hdg)
    (fun vm₁ hW₁ => ⟨hf.1, hf.2, hPc (T.setVm vm₁) hT hW₁⟩) with ⟨v, vm₁, ⟨U', l2, c2, s2⟩, hW₁, X', ⟨g', mk, t, L, e1, e2, hq, h1, hL, h2, h3⟩, st⟩ | ⟨q, vm₁, ⟨U', l2, c2, s2⟩, hW₁, X', ⟨g', mk, t, L, E, ce, e1, e2, hq, hce, hcv, hcl, h1, hL, h2, h3⟩, st⟩
  · dsimp only [Pt.U, Pt.locs, Pt.cells, Pt.slots] at X' e1 e2 h1 h2 h3 st
    subst h1; subst h2; subst h3
    exact Or.inl ⟨v, (T.setVm vm₁).calling g' mk (Value.ref b :: As).toArray, t, U', L, hT, X', hL, e1, e2, hq, st⟩
  · dsimp only [Pt.U, Pt.locs, Pt.cells, Pt.slots] at X' e1 e2 h1 h2 h3 st hcl
    subst h1; subst h2; subst h3
    exact Or.inr ⟨q, (T.setVm vm₁).calling g' mk (Value.ref b :: As).toArray, t, U', L, E, ce, hT, X', hL, e1, e2, hq, hce, hcv, vx_cls hW₁ hcl, st⟩
end VXIB
/-! ===== END ===== -/
/-! ===== BEGIN a private constructor of a nest mate that throws ===== -/
section VXIC
variable {p : Program} {l : Launch} {e : Env} {R : Room} {s : State} {m : MethodId} {args : Array Value} {below : List Frame} {meth : Method} {c : Code} {T : State} {locs : List Loc} {cells slots : Nat}
theorem vx_callIN (X : Stand p l e R s m args below meth c T locs cells slots) (hexec : p.tables.exec = Jvm.exec) {own : String} {index : Nat} {host : String} {y : MethodName} {bytes : ByteArray} {maxL : Nat}
    (hown : s.vm.findClass own = some m.cls) (hy1 : y.name = "<init>") (hlink : (Cond.methodLinkNest own index y host).before args s = true) (hinst : (Cond.instanceMethod y).before args s = true)
    (hcode : (Cond.code y bytes maxL none).before args s = true) (hy : y.cls ≠ "java/lang/invoke/MethodHandle" ∧ y.cls ≠ "java/lang/invoke/VarHandle")
    {W9 : Nat} {Pre : Pt → Array Value → Prop} {Post : Pt → Array Value → Option Value → Pt → Prop} {PostX : Pt → Array Value → Addr → Pt → Prop} (hK : vx_Back l R p e below s args y 3 W9 Pre Post PostX)
    {g : JFrame} (hg : g.method = m) (hsize : g.locals.size = c.maxLocals) {a : Addr} {argsL rest : List Value} (hlen : ∀ sig, parseMethodDescriptor y.desc = some sig → argsL.length = sig.parameters.length)
    (hstack : g.stack = argsL.reverse ++ .ref a :: rest) (hW : 2 * g.monitorRoom + (rest.map fun v => v.category).sum ≤ W9) (hdg : decode c.code g.pc = .ok (.invokespecial index, 3))
    (hpre : ∀ vm₁, s.WarmedH vm₁ → Pre ⟨T.setVm vm₁, locs, cells, slots⟩ (Value.ref a :: argsL).toArray) :
    (∃ (v : Option Value) (vm₁ : Vm) (B : Pt), s.WarmedH vm₁ ∧ Stand p l e R s m args below meth c B.U B.locs B.cells B.slots ∧ Post ⟨T.setVm vm₁, locs, cells, slots⟩ (Value.ref a :: argsL).toArray v B ∧
      ∀ target, Steps p.tables e below (B.U.setTop { g with pc := g.pc + 3, stack := v.toList ++ rest }) target → Steps p.tables e below (T.setTop g) target) ∨
    (∃ (q : Addr) (vm₁ : Vm) (B : Pt), s.WarmedH vm₁ ∧ Stand p l e R s m args below meth c B.U B.locs B.cells B.slots ∧ PostX ⟨T.setVm vm₁, locs, cells, slots⟩ (Value.ref a :: argsL).toArray q B ∧
      Steps p.tables e below (T.setTop g) ((B.U.setTop { g with stack := rest }).pushFrame (.throwing q))) := by
  subst hg
  have hpl : e.platform.magicAccessors = ({} : Platform).magicAccessors := by rw [X.admits.platform]
  obtain ⟨mk, methM, cM, kP, vm₁, hnamed, hmethM, hcodeM, -, hlocalsM, -, hkP, -, hW₁, hstep₁⟩ := Steps.initColdArgsNest (e := e) X.here hexec X.warmed hpl hown hy1 hy hlink hinst hcode (f := g) rfl hlen hstack hdg
  have X₁ := X.noted hW₁
  rcases hK g.method meth c ⟨T.setVm vm₁, locs, cells, slots⟩ { g with stack := rest } (.invokespecial index) mk (Value.ref a :: argsL).toArray X₁ rfl hsize hdg hW (X₁.named hnamed) (hpre vm₁ X₁.warmed) with ⟨v, B, X', hpost, hsteps⟩ | ⟨q, B, X', hpost, hsteps⟩
  · exact Or.inl ⟨v, vm₁, B, X₁.warmed, X', hpost, fun target h => hstep₁ _ fun acts => by rw [doInvoke_state]; exact hsteps.trans h⟩
  · exact Or.inr ⟨q, vm₁, B, X₁.warmed, X', hpost, hstep₁ _ fun acts => by rw [doInvoke_state]; exact hsteps⟩
end VXIC
section VXID
variable {p : Program} {l : Launch} {e : Env} {R : Room} {s : State} {m : MethodId} {args : Array Value} {below : List Frame} {meth : Method} {c : Code} {H : Heap} {locs : List Loc} {cells slots : Nat}
theorem vx_runIN {y : MethodName} {bytes cc : ByteArray} {maxL nL mc ms n index : Nat} {ws : List Cond} {rm : Room} {Pc : Array Value → State → Prop} {Qc : Array Value → State → Outcome → State → Prop} {XC : String → State → State → Prop} {free : Addr → Prop} {Ts : List Cond} {own host : String} {b : Addr} {As rest : List Value} {g : JFrame}
    (S : CallFix p m c cc nL s args Ts own) (hM : vx_Met l y ws rm Pc Qc XC mc ms free) (cw : va_CN R s args own index y host bytes maxL none ws rm mc ms n ∧ y.name = "<init>" ∧ (Cond.instanceMethod y).before args s = true) (hp : PreS s H Pc (.ref b :: As))
    (hg : g.method = m) (hn : As.length = n) (hsize : g.locals.size = nL) (hstack : g.stack = As.reverse ++ .ref b :: rest) (hW : 2 * g.monitorRoom + (rest.map fun v => v.category).sum ≤ 8) (hdg : decode cc g.pc = .ok (.invokespecial index, 3)) (hf : cells + mc ≤ R.cells ∧ slots + ms ≤ R.slots) :
    vx_Run p l e R s m args below meth c H locs cells slots mc ms g rest (Qc (Value.ref b :: As).toArray) XC free := by
  obtain ⟨⟨⟨hrc, hrs, hfr, hlo, hws, hcw⟩, hcode, hini, hy, hlen, hl⟩, hx1, hx2⟩ := cw
  have hK : vx_Back l R p e below s args y 3 8 (PreOf R mc ms Pc) (PostOf Qc mc ms free) (vx_Post XC mc ms free) := vx_back (bytes := bytes) (maxL := maxL) (ret := none) hM hp.1 hrc hrs hfr hlo hws hcw (fun a' U hW => word_at hW (Or.inl (by first | rfl | simp [Cond.onTables, Cond.keeps, Cond.steady])) hini)
  obtain ⟨hx, hb, hml, ho, -⟩ := S
  have hPc := hp.2
  intro T hT X
  rcases vx_callIN X hx (bytes := bytes) (maxL := maxL) ho hx1 hl hx2 hcode hy hK hg (hsize.trans hml.symm) (a := b) (argsL := As) (rest := rest) (fun sig h => hn.trans (hlen sig h)) hstack hW (by rw [hb]; exact hdg)
    (fun vm₁ hW₁ => ⟨hf.1, hf.2, hPc (T.setVm vm₁) hT hW₁⟩) with ⟨v, vm₁, ⟨U', l2, c2, s2⟩, hW₁, X', ⟨g', mk, t, L, e1, e2, hq, h1, hL, h2, h3⟩, st⟩ | ⟨q, vm₁, ⟨U', l2, c2, s2⟩, hW₁, X', ⟨g', mk, t, L, E, ce, e1, e2, hq, hce, hcv, hcl, h1, hL, h2, h3⟩, st⟩
  · dsimp only [Pt.U, Pt.locs, Pt.cells, Pt.slots] at X' e1 e2 h1 h2 h3 st
    subst h1; subst h2; subst h3
    exact Or.inl ⟨v, (T.setVm vm₁).calling g' mk (Value.ref b :: As).toArray, t, U', L, hT, X', hL, e1, e2, hq, st⟩
  · dsimp only [Pt.U, Pt.locs, Pt.cells, Pt.slots] at X' e1 e2 h1 h2 h3 st hcl
    subst h1; subst h2; subst h3
    exact Or.inr ⟨q, (T.setVm vm₁).calling g' mk (Value.ref b :: As).toArray, t, U', L, E, ce, hT, X', hL, e1, e2, hq, hce, hcv, vx_cls hW₁ hcl, st⟩
end VXID
/-! ===== END ===== -/
/-! ===== BEGIN a method of a class above, found by the receiver, that may throw (follows va_callVU, va_runU of this kit) ===== -/
section
variable {p : Program} {l : Launch} {e : Env} {R : Room} {s : State} {m : MethodId} {args : Array Value} {below : List Frame} {meth : Method} {c : Code} {H : Heap} {locs : List Loc} {cells slots : Nat}
theorem vx_callVU {T : State} {locs : List Loc} {cells slots : Nat} (X : Stand p l e R s m args below meth c T locs cells slots) (hexec : p.tables.exec = Jvm.exec) {own C owner : String} {index : Nat} {x y : MethodName} {bytes : ByteArray} {maxL : Nat} {ret : Option FieldType}
    (hown : s.vm.findClass own = some m.cls) (hlink : (Cond.methodLink own index x).before args s = true) (hsame : (Cond.sameMethod x.cls owner x.name x.desc).before args s = true)
    (hd0 : va_Decl s ⟨owner, x.name, x.desc⟩) (howner : owner ≠ "java/lang/invoke/MethodHandle" ∧ owner ≠ "java/lang/invoke/VarHandle")
    (hsel : (Cond.selects C x y).before args s = true) (hinst : (Cond.instanceMethod y).before args s = true) (hcode : (Cond.code y bytes maxL ret).before args s = true)
    {W : Nat} {Pre : Pt → Array Value → Prop} {Post : Pt → Array Value → Option Value → Pt → Prop} {PostX : Pt → Array Value → Addr → Pt → Prop} (hK : vx_Back l R p e below s args y 3 W Pre Post PostX)
    {b : Addr} {cellB : Cell} (hcell : T.heap[b]? = some cellB) (hobj : cellB.vm.isStatics = false) (hcls : s.vm.findClass C = some cellB.cls)
    {g : JFrame} (hg : g.method = m) (hsize : g.locals.size = c.maxLocals) {argsL rest : List Value} (hlen : ∀ sig, parseMethodDescriptor x.desc = some sig → argsL.length = sig.parameters.length)
    (hstack : g.stack = argsL.reverse ++ .ref b :: rest) (hW : 2 * g.monitorRoom + (rest.map fun v => v.category).sum ≤ W) (hdg : decode c.code g.pc = .ok (.invokevirtual index, 3))
    (hpre : ∀ vm₁, s.WarmedH vm₁ → Pre ⟨T.setVm vm₁, locs, cells, slots⟩ (Value.ref b :: argsL).toArray) :
    (∃ (v : Option Value) (vm₁ : Vm) (B : Pt), s.WarmedH vm₁ ∧ Stand p l e R s m args below meth c B.U B.locs B.cells B.slots ∧ Post ⟨T.setVm vm₁, locs, cells, slots⟩ (Value.ref b :: argsL).toArray v B ∧
      ∀ target, Steps p.tables e below (B.U.setTop { g with pc := g.pc + 3, stack := v.toList ++ rest }) target → Steps p.tables e below (T.setTop g) target) ∨
    (∃ (q : Addr) (vm₁ : Vm) (B : Pt), s.WarmedH vm₁ ∧ Stand p l e R s m args below meth c B.U B.locs B.cells B.slots ∧ PostX ⟨T.setVm vm₁, locs, cells, slots⟩ (Value.ref b :: argsL).toArray q B ∧
      Steps p.tables e below (T.setTop g) ((B.U.setTop { g with stack := rest }).pushFrame (.throwing q))) := by
  obtain ⟨r0, r, hn, hrm, hstR, hsigR⟩ := hd0
  obtain ⟨cn, ck, r1, hcn, hck, hni, hf, hn1⟩ := Cond.sameMethod_found hsame
  cases hn.symm.trans hn1
  obtain ⟨mk, methM, hnamed, hmethM, -, habM⟩ := Cond.instanceMethod_spec hinst
  obtain ⟨c2, r2, m2, q1, q2, q3, q4, kP, hkP, hkPi⟩ := Cond.selects_spec hsel
  cases hcls.symm.trans q1
  cases hf.symm.trans q2
  cases hnamed.symm.trans q3
  have hselP : selectMethod e.platform s.vm cellB.cls r0 = .method mk := by rw [Launch.admits_selectMethod X.admits]; exact q4
  obtain ⟨vm₁, X₁, hstep₁⟩ := X.invokevirtualUp hexec hown hlink hsame howner hn hrm hstR (a := b) (cell := cellB) hcell
    (fun z h => by rw [h] at hobj; cases hobj) hselP hmethM habM hkP hkPi (g := g) hg (argsL := argsL) (rest := rest) (hlen _ hsigR) hstack hdg
  rcases hK m meth c ⟨T.setVm vm₁, locs, cells, slots⟩ { g with stack := rest } (.invokevirtual index) mk (Value.ref b :: argsL).toArray X₁ hg hsize hdg hW (X₁.named hnamed) (hpre vm₁ X₁.warmed) with ⟨v, B, X', hpost, hsteps⟩ | ⟨q, B, X', hpost, hsteps⟩
  · exact Or.inl ⟨v, vm₁, B, X₁.warmed, X', hpost, fun target h => hstep₁ _ fun acts => by rw [doInvoke_state]; exact hsteps.trans h⟩
  · exact Or.inr ⟨q, vm₁, B, X₁.warmed, X', hpost, hstep₁ _ fun acts => by rw [doInvoke_state]; exact hsteps⟩
theorem vx_runU {x y : MethodName} {bytes cc : ByteArray} {maxL nL mc ms n index : Nat} {ret : Option FieldType} {ws : List Cond} {rm : Room} {Pc : Array Value → State → Prop} {Qc : Array Value → State → Outcome → State → Prop} {XC : String → State → State → Prop} {free : Addr → Prop} {Ts : List Cond} {own C owner : String} {b : Addr} {As rest : List Value} {g : JFrame}
    (S : CallFix p m c cc nL s args Ts own) (hM : vx_Met l y ws rm Pc Qc XC mc ms free) (cw : va_CU R s args own C owner index x y bytes maxL ret ws rm mc ms n) (hp : PreV s H C b Pc As)
    (hg : g.method = m) (hn : As.length = n) (hsize : g.locals.size = nL) (hstack : g.stack = As.reverse ++ .ref b :: rest) (hW : 2 * g.monitorRoom + (rest.map fun v => v.category).sum ≤ 8) (hdg : decode cc g.pc = .ok (.invokevirtual index, 3)) (hf : cells + mc ≤ R.cells ∧ slots + ms ≤ R.slots) :
    vx_Run p l e R s m args below meth c H locs cells slots mc ms g rest (Qc (Value.ref b :: As).toArray) XC free := by
  obtain ⟨hrc, hrs, hfr, hlo, hws, hcw⟩ := cw.back
  have hini := cw.init
  have hK : vx_Back l R p e below s args y 3 8 (PreOf R mc ms Pc) (PostOf Qc mc ms free) (vx_Post XC mc ms free) := vx_back (bytes := bytes) (maxL := maxL) (ret := ret) hM hp.1 hrc hrs hfr hlo hws hcw (fun a' U hW => word_at hW (Or.inl (by first | rfl | simp [Cond.onTables, Cond.keeps, Cond.steady])) hini)
  obtain ⟨hx, hb, hml, ho, -⟩ := S
  obtain ⟨-, ⟨cellB, hcB, hoB, hclB⟩, hPc⟩ := hp
  intro T hT X
  rcases vx_callVU X hx (C := C) (owner := owner) (bytes := bytes) (maxL := maxL) (ret := ret) ho cw.link cw.same cw.decl cw.notMH cw.sel cw.inst cw.code hK (by rw [hT]; exact hcB) hoB hclB hg (hsize.trans hml.symm) (argsL := As) (rest := rest) (fun sig h => hn.trans (cw.len sig h)) hstack hW (by rw [hb]; exact hdg)
    (fun vm₁ hW₁ => ⟨hf.1, hf.2, hPc (T.setVm vm₁) hT hW₁⟩) with ⟨v, vm₁, ⟨U', l2, c2, s2⟩, hW₁, X', ⟨g', mk, t, L, e1, e2, hq, h1, hL, h2, h3⟩, st⟩ | ⟨q, vm₁, ⟨U', l2, c2, s2⟩, hW₁, X', ⟨g', mk, t, L, E, ce, e1, e2, hq, hce, hcv, hcl, h1, hL, h2, h3⟩, st⟩
  · dsimp only [Pt.U, Pt.locs, Pt.cells, Pt.slots] at X' e1 e2 h1 h2 h3 st
    subst h1; subst h2; subst h3
    exact Or.inl ⟨v, (T.setVm vm₁).calling g' mk (Value.ref b :: As).toArray, t, U', L, hT, X', hL, e1, e2, hq, st⟩
  · dsimp only [Pt.U, Pt.locs, Pt.cells, Pt.slots] at X' e1 e2 h1 h2 h3 st hcl
    subst h1; subst h2; subst h3
    exact Or.inr ⟨q, (T.setVm vm₁).calling g' mk (Value.ref b :: As).toArray, t, U', L, E, ce, hT, X', hL, e1, e2, hq, hce, hcv, vx_cls hW₁ hcl, st⟩
end
/-! ===== END ===== -/
/-! ===== BEGIN super.m(..) that may throw (follows va_callSU, va_runSU) ===== -/
section
variable {p : Program} {l : Launch} {e : Env} {R : Room} {s : State} {m : MethodId} {args : Array Value} {below : List Frame} {meth : Method} {c : Code} {H : Heap} {locs : List Loc} {cells slots : Nat}
theorem vx_callSU {T : State} {locs : List Loc} {cells slots : Nat} (X : Stand p l e R s m args below meth c T locs cells slots) (hexec : p.tables.exec = Jvm.exec) {own : String} {index : Nat} {y : MethodName} {bytes : ByteArray} {maxL : Nat} {ret : Option FieldType}
    (hown : s.vm.findClass own = some m.cls) (hlink : (Cond.methodLink own index y).before args s = true) (hsame : (Cond.sameMethod y.cls y.cls y.name y.desc).before args s = true) (hsup : (Cond.superclass own y.cls).before args s = true)
    (hinst : (Cond.instanceMethod y).before args s = true) (hcode : (Cond.code y bytes maxL ret).before args s = true) (hno : y.name ≠ "<init>")
    {W : Nat} {Pre : Pt → Array Value → Prop} {Post : Pt → Array Value → Option Value → Pt → Prop} {PostX : Pt → Array Value → Addr → Pt → Prop} (hK : vx_Back l R p e below s args y 3 W Pre Post PostX)
    {b : Addr} {cellB : Cell} {kB : Class} (hcell : T.heap[b]? = some cellB) (hobj : cellB.vm.isStatics = false) (hkB : s.vm.classes[cellB.cls]? = some kB)
    {g : JFrame} (hg : g.method = m) (hsize : g.locals.size = c.maxLocals) {argsL rest : List Value} (hlen : ∀ sig, parseMethodDescriptor y.desc = some sig → argsL.length = sig.parameters.length)
    (hstack : g.stack = argsL.reverse ++ .ref b :: rest) (hW : 2 * g.monitorRoom + (rest.map fun v => v.category).sum ≤ W) (hdg : decode c.code g.pc = .ok (.invokespecial index, 3))
    (hpre : ∀ vm₁, s.WarmedH vm₁ → Pre ⟨T.setVm vm₁, locs, cells, slots⟩ (Value.ref b :: argsL).toArray) :
    (∃ (v : Option Value) (vm₁ : Vm) (B : Pt), s.WarmedH vm₁ ∧ Stand p l e R s m args below meth c B.U B.locs B.cells B.slots ∧ Post ⟨T.setVm vm₁, locs, cells, slots⟩ (Value.ref b :: argsL).toArray v B ∧
      ∀ target, Steps p.tables e below (B.U.setTop { g with pc := g.pc + 3, stack := v.toList ++ rest }) target → Steps p.tables e below (T.setTop g) target) ∨
    (∃ (q : Addr) (vm₁ : Vm) (B : Pt), s.WarmedH vm₁ ∧ Stand p l e R s m args below meth c B.U B.locs B.cells B.slots ∧ PostX ⟨T.setVm vm₁, locs, cells, slots⟩ (Value.ref b :: argsL).toArray q B ∧
      Steps p.tables e below (T.setTop g) ((B.U.setTop { g with stack := rest }).pushFrame (.throwing q))) := by
  obtain ⟨mk, methM, hnamed, hmethM, hstM, habM⟩ := Cond.instanceMethod_spec hinst
  obtain ⟨methM', cM, hmethM', -, -, -, -, -, -, hsigM⟩ := Cond.code_spec hnamed hcode
  cases hmethM.symm.trans hmethM'
  obtain ⟨ps, dk, kp, hps, hdk, hkp, hsuper, -, -, hnid⟩ := Cond.superclass_spec hown hsup
  have hn : s.methodNamed? ⟨y.cls, y.name, y.desc⟩ = some mk := hnamed
  have hpm : ps = mk.cls := Option.some.inj (hps.symm.trans (findClass_of_methodNamed hnamed))
  have hsub : s.vm.isSubclass ps mk.cls = true := by rw [hpm]; simp [Vm.isSubclass, Vm.isSubclassAux]
  obtain ⟨vm₁, X₁, hstep₁⟩ := X.invokespecialUp hexec hown hlink hsame hn hmethM hstM habM hno hdk hnid hps hsuper hsub (a := b) (cell := cellB) hcell
    (fun z h => by rw [h] at hobj; cases hobj) hkB (g := g) hg (argsL := argsL) (rest := rest) (hlen _ hsigM) hstack hdg
  rcases hK m meth c ⟨T.setVm vm₁, locs, cells, slots⟩ { g with stack := rest } (.invokespecial index) mk (Value.ref b :: argsL).toArray X₁ hg hsize hdg hW (X₁.named hnamed) (hpre vm₁ X₁.warmed) with ⟨v, B, X', hpost, hsteps⟩ | ⟨q, B, X', hpost, hsteps⟩
  · exact Or.inl ⟨v, vm₁, B, X₁.warmed, X', hpost, fun target h => hstep₁ _ (by rw [doInvoke_state]; exact hsteps.trans h)⟩
  · exact Or.inr ⟨q, vm₁, B, X₁.warmed, X', hpost, hstep₁ _ (by rw [doInvoke_state]; exact hsteps)⟩
theorem vx_runSU {y : MethodName} {bytes cc : ByteArray} {maxL nL mc ms n index : Nat} {ret : Option FieldType} {ws : List Cond} {rm : Room} {Pc : Array Value → State → Prop} {Qc : Array Value → State → Outcome → State → Prop} {XC : String → State → State → Prop} {free : Addr → Prop} {Ts : List Cond} {own C : String} {cC : ClassId} {b : Addr} {As rest : List Value} {g : JFrame}
    (hat : ClassAt s C cC) (S : CallFix p m c cc nL s args Ts own) (hM : vx_Met l y ws rm Pc Qc XC mc ms free) (cw : va_CS R s args own index y bytes maxL ret ws rm mc ms n) (hp : PreV s H C b Pc As)
    (hg : g.method = m) (hn : As.length = n) (hsize : g.locals.size = nL) (hstack : g.stack = As.reverse ++ .ref b :: rest) (hW : 2 * g.monitorRoom + (rest.map fun v => v.category).sum ≤ 8) (hdg : decode cc g.pc = .ok (.invokespecial index, 3)) (hf : cells + mc ≤ R.cells ∧ slots + ms ≤ R.slots) :
    vx_Run p l e R s m args below meth c H locs cells slots mc ms g rest (Qc (Value.ref b :: As).toArray) XC free := by
  obtain ⟨⟨hrc, hrs, hfr, hlo, hws, hcw⟩, hl1, hl2, hl3, hl4, hini, hcode, hno, hlen⟩ := cw
  have hK : vx_Back l R p e below s args y 3 8 (PreOf R mc ms Pc) (PostOf Qc mc ms free) (vx_Post XC mc ms free) := vx_back (bytes := bytes) (maxL := maxL) (ret := ret) hM hp.1 hrc hrs hfr hlo hws hcw (fun a' U hW => word_at hW (Or.inl (by first | rfl | simp [Cond.onTables, Cond.keeps, Cond.steady])) hini)
  obtain ⟨hx, hb, hml, ho, -⟩ := S
  obtain ⟨-, ⟨cellB, hcB, hoB, hclB⟩, hPc⟩ := hp
  obtain ⟨hfc, kB, hkB, -⟩ := hat
  cases hfc.symm.trans hclB
  intro T hT X
  rcases vx_callSU X hx (bytes := bytes) (maxL := maxL) (ret := ret) ho hl1 hl2 hl3 hl4 hcode hno hK (by rw [hT]; exact hcB) hoB hkB hg (hsize.trans hml.symm) (argsL := As) (rest := rest) (fun sig h => hn.trans (hlen sig h)) hstack hW (by rw [hb]; exact hdg)
    (fun vm₁ hW₁ => ⟨hf.1, hf.2, hPc (T.setVm vm₁) hT hW₁⟩) with ⟨v, vm₁, ⟨U', l2, c2, s2⟩, hW₁, X', ⟨g', mk, t, L, e1, e2, hq, h1, hL, h2, h3⟩, st⟩ | ⟨q, vm₁, ⟨U', l2, c2, s2⟩, hW₁, X', ⟨g', mk, t, L, E, ce, e1, e2, hq, hce, hcv, hcl, h1, hL, h2, h3⟩, st⟩
  · dsimp only [Pt.U, Pt.locs, Pt.cells, Pt.slots] at X' e1 e2 h1 h2 h3 st
    subst h1; subst h2; subst h3
    exact Or.inl ⟨v, (T.setVm vm₁).calling g' mk (Value.ref b :: As).toArray, t, U', L, hT, X', hL, e1, e2, hq, st⟩
  · dsimp only [Pt.U, Pt.locs, Pt.cells, Pt.slots] at X' e1 e2 h1 h2 h3 st hcl
    subst h1; subst h2; subst h3
    exact Or.inr ⟨q, (T.setVm vm₁).calling g' mk (Value.ref b :: As).toArray, t, U', L, E, ce, hT, X', hL, e1, e2, hq, hce, hcv, vx_cls hW₁ hcl, st⟩
end
/-! ===== END ===== -/
/-! ===== BEGIN a private method of a nest mate that may throw (follows va_callVN, va_callSN, va_runVN, va_runSN) ===== -/
section
variable {p : Program} {l : Launch} {e : Env} {R : Room} {s : State} {m : MethodId} {args : Array Value} {below : List Frame} {meth : Method} {c : Code} {H : Heap} {locs : List Loc} {cells slots : Nat}
variable {T : State}
theorem vx_callVN (X : Stand p l e R s m args below meth c T locs cells slots) (hexec : p.tables.exec = Jvm.exec) {own C : String} {index : Nat} {host : String} {y : MethodName} {bytes : ByteArray} {maxL : Nat} {ret : Option FieldType}
    (hown : s.vm.findClass own = some m.cls) (hlink : (Cond.methodLinkNest own index y host).before args s = true) (hinst : (Cond.instanceMethod y).before args s = true) (hsel : (Cond.selects C y y).before args s = true)
    (hcode : (Cond.code y bytes maxL ret).before args s = true) (hy : y.cls ≠ "java/lang/invoke/MethodHandle" ∧ y.cls ≠ "java/lang/invoke/VarHandle")
    {W : Nat} {Pre : Pt → Array Value → Prop} {Post : Pt → Array Value → Option Value → Pt → Prop} {PostX : Pt → Array Value → Addr → Pt → Prop} (hK : vx_Back l R p e below s args y 3 W Pre Post PostX)
    {b : Addr} {cellB : Cell} (hcell : T.heap[b]? = some cellB) (hobj : cellB.vm.isStatics = false) (hcls : s.vm.findClass C = some cellB.cls)
    {g : JFrame} (hg : g.method = m) (hsize : g.locals.size = c.maxLocals) {argsL rest : List Value} (hlen : ∀ sig, parseMethodDescriptor y.desc = some sig → argsL.length = sig.parameters.length)
    (hstack : g.stack = argsL.reverse ++ .ref b :: rest) (hW : 2 * g.monitorRoom + (rest.map fun v => v.category).sum ≤ W) (hdg : decode c.code g.pc = .ok (.invokevirtual index, 3))
    (hpre : ∀ vm₁, s.WarmedH vm₁ → Pre ⟨T.setVm vm₁, locs, cells, slots⟩ (Value.ref b :: argsL).toArray) :
    (∃ (v : Option Value) (vm₁ : Vm) (B : Pt), s.WarmedH vm₁ ∧ Stand p l e R s m args below meth c B.U B.locs B.cells B.slots ∧ Post ⟨T.setVm vm₁, locs, cells, slots⟩ (Value.ref b :: argsL).toArray v B ∧
      ∀ target, Steps p.tables e below (B.U.setTop { g with pc := g.pc + 3, stack := v.toList ++ rest }) target → Steps p.tables e below (T.setTop g) target) ∨
    (∃ (q : Addr) (vm₁ : Vm) (B : Pt), s.WarmedH vm₁ ∧ Stand p l e R s m args below meth c B.U B.locs B.cells B.slots ∧ PostX ⟨T.setVm vm₁, locs, cells, slots⟩ (Value.ref b :: argsL).toArray q B ∧
      Steps p.tables e below (T.setTop g) ((B.U.setTop { g with stack := rest }).pushFrame (.throwing q))) := by
  obtain ⟨mk, methM, hnamed, hmethM, hstM, habM⟩ := Cond.instanceMethod_spec hinst
  obtain ⟨methM', cM, hmethM', -, -, -, -, -, -, hsigM⟩ := Cond.code_spec hnamed hcode
  cases hmethM.symm.trans hmethM'
  obtain ⟨c2, r2, m2, q1, q2, q3, q4, kP, hkP, hkPi⟩ := Cond.selects_spec hsel
  cases hcls.symm.trans q1
  cases (State.methodFound?_of_named hnamed hy).symm.trans q2
  cases hnamed.symm.trans q3
  have hselP : selectMethod e.platform s.vm cellB.cls mk = .method mk := by rw [Launch.admits_selectMethod X.admits]; exact q4
  obtain ⟨vm₁, X₁, hstep₁⟩ := X.invokevirtualNest hexec hown hlink hnamed hmethM hstM hkP hkPi hy (a := b) (cell := cellB) hcell
    (fun z h => by rw [h] at hobj; cases hobj) hselP hmethM habM hkP hkPi (g := g) hg (argsL := argsL) (rest := rest) (hlen _ hsigM) hstack hdg
  rcases hK m meth c ⟨T.setVm vm₁, locs, cells, slots⟩ { g with stack := rest } (.invokevirtual index) mk (Value.ref b :: argsL).toArray X₁ hg hsize hdg hW (X₁.named hnamed) (hpre vm₁ X₁.warmed) with ⟨v, B, X', hpost, hsteps⟩ | ⟨q, B, X', hpost, hsteps⟩
  · exact Or.inl ⟨v, vm₁, B, X₁.warmed, X', hpost, fun target h => hstep₁ _ fun acts => by rw [doInvoke_state]; exact hsteps.trans h⟩
  · exact Or.inr ⟨q, vm₁, B, X₁.warmed, X', hpost, hstep₁ _ fun acts => by rw [doInvoke_state]; exact hsteps⟩
theorem vx_callSN (X : Stand p l e R s m args below meth c T locs cells slots) (hexec : p.tables.exec = Jvm.exec) {own : String} {index : Nat} {host : String} {y : MethodName} {bytes : ByteArray} {maxL : Nat} {ret : Option FieldType}
    (hown : s.vm.findClass own = some m.cls) (hlink : (Cond.methodLinkNest own index y host).before args s = true) (hstat : (Cond.static y).before args s = true) (hinit : (Cond.initialized y.cls).before args s = true)
    (hcode : (Cond.code y bytes maxL ret).before args s = true) (hy : y.cls ≠ "java/lang/invoke/MethodHandle" ∧ y.cls ≠ "java/lang/invoke/VarHandle")
    {W : Nat} {Pre : Pt → Array Value → Prop} {Post : Pt → Array Value → Option Value → Pt → Prop} {PostX : Pt → Array Value → Addr → Pt → Prop} (hK : vx_Back l R p e below s args y 3 W Pre Post PostX)
    {g : JFrame} (hg : g.method = m) (hsize : g.locals.size = c.maxLocals) {argsL rest : List Value} (hlen : ∀ sig, parseMethodDescriptor y.desc = some sig → argsL.length = sig.parameters.length)
    (hstack : g.stack = argsL.reverse ++ rest) (hW : 2 * g.monitorRoom + (rest.map fun v => v.category).sum ≤ W) (hdg : decode c.code g.pc = .ok (.invokestatic index, 3))
    (hpre : ∀ vm₁, s.WarmedH vm₁ → Pre ⟨T.setVm vm₁, locs, cells, slots⟩ argsL.toArray) :
    (∃ (v : Option Value) (vm₁ : Vm) (B : Pt), s.WarmedH vm₁ ∧ Stand p l e R s m args below meth c B.U B.locs B.cells B.slots ∧ Post ⟨T.setVm vm₁, locs, cells, slots⟩ argsL.toArray v B ∧
      ∀ target, Steps p.tables e below (B.U.setTop { g with pc := g.pc + 3, stack := v.toList ++ rest }) target → Steps p.tables e below (T.setTop g) target) ∨
    (∃ (q : Addr) (vm₁ : Vm) (B : Pt), s.WarmedH vm₁ ∧ Stand p l e R s m args below meth c B.U B.locs B.cells B.slots ∧ PostX ⟨T.setVm vm₁, locs, cells, slots⟩ argsL.toArray q B ∧
      Steps p.tables e below (T.setTop g) ((B.U.setTop { g with stack := rest }).pushFrame (.throwing q))) := by
  obtain ⟨mk, hnamed⟩ := Cond.code_named hcode
  obtain ⟨methM, cM, hmethM, -, -, -, -, -, -, hsigM⟩ := Cond.code_spec hnamed hcode
  have hstatic : methM.isStatic = true := Cond.static_spec hnamed hmethM hstat
  obtain ⟨kP, hkP, -⟩ := className_of_methodNamed hnamed
  have hinitP : kP.init = .initialized := Cond.initialized_spec (findClass_of_methodNamed hnamed) hkP hinit
  obtain ⟨vm₁, X₁, hstep₁⟩ := X.invokestaticNest hexec hown hlink hnamed hmethM hstatic hkP hinitP hy (g := g) hg (argsL := argsL) (rest := rest) (hlen _ hsigM) hstack hdg
  rcases hK m meth c ⟨T.setVm vm₁, locs, cells, slots⟩ { g with stack := rest } (.invokestatic index) mk argsL.toArray X₁ hg hsize hdg hW (X₁.named hnamed) (hpre vm₁ X₁.warmed) with ⟨v, B, X', hpost, hsteps⟩ | ⟨q, B, X', hpost, hsteps⟩
  · exact Or.inl ⟨v, vm₁, B, X₁.warmed, X', hpost, fun target h => hstep₁ _ fun acts => by rw [doInvoke_state]; exact hsteps.trans h⟩
  · exact Or.inr ⟨q, vm₁, B, X₁.warmed, X', hpost, hstep₁ _ fun acts => by rw [doInvoke_state]; exact hsteps⟩
theorem vx_runVN {y : MethodName} {bytes cc : ByteArray} {maxL nL mc ms n index : Nat} {ret : Option FieldType} {ws : List Cond} {rm : Room} {Pc : Array Value → State → Prop} {Qc : Array Value → State → Outcome → State → Prop} {XC : String → State → State → Prop} {free : Addr → Prop} {Ts : List Cond} {own C host : String} {b : Addr} {As rest : List Value} {g : JFrame}
    (S : CallFix p m c cc nL s args Ts own) (hM : vx_Met l y ws rm Pc Qc XC mc ms free) (cw : va_CN R s args own index y host bytes maxL ret ws rm mc ms n ∧ (Cond.instanceMethod y).before args s = true ∧ (Cond.selects C y y).before args s = true) (hp : PreV s H C b Pc As)
    (hg : g.method = m) (hn : As.length = n) (hsize : g.locals.size = nL) (hstack : g.stack = As.reverse ++ .ref b :: rest) (hW : 2 * g.monitorRoom + (rest.map fun v => v.category).sum ≤ 8) (hdg : decode cc g.pc = .ok (.invokevirtual index, 3)) (hf : cells + mc ≤ R.cells ∧ slots + ms ≤ R.slots) :
    vx_Run p l e R s m args below meth c H locs cells slots mc ms g rest (Qc (Value.ref b :: As).toArray) XC free := by
  obtain ⟨⟨⟨hrc, hrs, hfr, hlo, hws, hcw⟩, hcode, hini, hy, hlen, hl⟩, hx1, hx2⟩ := cw
  have hK : vx_Back l R p e below s args y 3 8 (PreOf R mc ms Pc) (PostOf Qc mc ms free) (vx_Post XC mc ms free) := vx_back (bytes := bytes) (maxL := maxL) (ret := ret) hM hp.1 hrc hrs hfr hlo hws hcw (fun a' U hW => word_at hW (Or.inl (by first | rfl | simp [Cond.onTables, Cond.keeps, Cond.steady])) hini)
  obtain ⟨hx, hb, hml, ho, -⟩ := S
  obtain ⟨-, ⟨cellB, hcB, hoB, hclB⟩, hPc⟩ := hp
  intro T hT X
  rcases vx_callVN X hx (C := C) (bytes := bytes) (maxL := maxL) (ret := ret) ho hl hx1 hx2 hcode hy hK (by rw [hT]; exact hcB) hoB hclB hg (hsize.trans hml.symm) (argsL := As) (rest := rest) (fun sig h => hn.trans (hlen sig h)) hstack hW (by rw [hb]; exact hdg)
    (fun vm₁ hW₁ => ⟨hf.1, hf.2, hPc (T.setVm vm₁) hT hW₁⟩) with ⟨v, vm₁, ⟨U', l2, c2, s2⟩, hW₁, X', ⟨g', mk, t, L, e1, e2, hq, h1, hL, h2, h3⟩, st⟩ | ⟨q, vm₁, ⟨U', l2, c2, s2⟩, hW₁, X', ⟨g', mk, t, L, E, ce, e1, e2, hq, hce, hcv, hcl, h1, hL, h2, h3⟩, st⟩
  · dsimp only [Pt.U, Pt.locs, Pt.cells, Pt.slots] at X' e1 e2 h1 h2 h3 st
    subst h1; subst h2; subst h3
    exact Or.inl ⟨v, (T.setVm vm₁).calling g' mk (Value.ref b :: As).toArray, t, U', L, hT, X', hL, e1, e2, hq, st⟩
  · dsimp only [Pt.U, Pt.locs, Pt.cells, Pt.slots] at X' e1 e2 h1 h2 h3 st hcl
    subst h1; subst h2; subst h3
    exact Or.inr ⟨q, (T.setVm vm₁).calling g' mk (Value.ref b :: As).toArray, t, U', L, E, ce, hT, X', hL, e1, e2, hq, hce, hcv, vx_cls hW₁ hcl, st⟩
theorem vx_runSN {y : MethodName} {bytes cc : ByteArray} {maxL nL mc ms n index : Nat} {ret : Option FieldType} {ws : List Cond} {rm : Room} {Pc : Array Value → State → Prop} {Qc : Array Value → State → Outcome → State → Prop} {XC : String → State → State → Prop} {free : Addr → Prop} {Ts : List Cond} {own host : String} {As rest : List Value} {g : JFrame}
    (S : CallFix p m c cc nL s args Ts own) (hM : vx_Met l y ws rm Pc Qc XC mc ms free) (cw : va_CN R s args own index y host bytes maxL ret ws rm mc ms n ∧ (Cond.static y).before args s = true ∧ True) (hp : PreS s H Pc As)
    (hg : g.method = m) (hn : As.length = n) (hsize : g.locals.size = nL) (hstack : g.stack = As.reverse ++ rest) (hW : 2 * g.monitorRoom + (rest.map fun v => v.category).sum ≤ 8) (hdg : decode cc g.pc = .ok (.invokestatic index, 3)) (hf : cells + mc ≤ R.cells ∧ slots + ms ≤ R.slots) :
    vx_Run p l e R s m args below meth c H locs cells slots mc ms g rest (Qc As.toArray) XC free := by
  obtain ⟨⟨⟨hrc, hrs, hfr, hlo, hws, hcw⟩, hcode, hini, hy, hlen, hl⟩, hx1, hx2⟩ := cw
  have hK : vx_Back l R p e below s args y 3 8 (PreOf R mc ms Pc) (PostOf Qc mc ms free) (vx_Post XC mc ms free) := vx_back (bytes := bytes) (maxL := maxL) (ret := ret) hM hp.1 hrc hrs hfr hlo hws hcw (fun a' U hW => word_at hW (Or.inl (by first | rfl | simp [Cond.onTables, Cond.keeps, Cond.steady])) hini)
  obtain ⟨hx, hb, hml, ho, -⟩ := S
  have hPc := hp.2
  intro T hT X
  rcases vx_callSN X hx (bytes := bytes) (maxL := maxL) (ret := ret) ho hl hx1 hini hcode hy hK hg (hsize.trans hml.symm) (argsL := As) (rest := rest) (fun sig h => hn.trans (hlen sig h)) hstack hW (by rw [hb]; exact hdg)
    (fun vm₁ hW₁ => ⟨hf.1, hf.2, hPc (T.setVm vm₁) hT hW₁⟩) with ⟨v, vm₁, ⟨U', l2, c2, s2⟩, hW₁, X', ⟨g', mk, t, L, e1, e2, hq, h1, hL, h2, h3⟩, st⟩ | ⟨q, vm₁, ⟨U', l2, c2, s2⟩, hW₁, X', ⟨g', mk, t, L, E, ce, e1, e2, hq, hce, hcv, hcl, h1, hL, h2, h3⟩, st⟩
  · dsimp only [Pt.U, Pt.locs, Pt.cells, Pt.slots] at X' e1 e2 h1 h2 h3 st
    subst h1; subst h2; subst h3
    exact Or.inl ⟨v, (T.setVm vm₁).calling g' mk As.toArray, t, U', L, hT, X', hL, e1, e2, hq, st⟩
  · dsimp only [Pt.U, Pt.locs, Pt.cells, Pt.slots] at X' e1 e2 h1 h2 h3 st hcl
    subst h1; subst h2; subst h3
    exact Or.inr ⟨q, (T.setVm vm₁).calling g' mk As.toArray, t, U', L, E, ce, hT, X', hL, e1, e2, hq, hce, hcv, vx_cls hW₁ hcl, st⟩
end
section
variable {p : Program} {l : Launch} {e : Env} {R : Room} {s : State} {m : MethodId} {args : Array Value} {below : List Frame} {meth : Method} {c : Code} {H : Heap} {locs : List Loc} {cells slots : Nat} {Q : State → Prop}
variable {mc ms : Nat} {free : Addr → Prop} {A0 A1 : Nat → Prop} {H0 : Heap} {a : Array Value} {pc : Nat} {ls : Array Slot} {st0 rest : List Value}
def vx_Run5 (p : Program) (l : Launch) (e : Env) (R : Room) (s : State) (m : MethodId) (args : Array Value) (below : List Frame) (meth : Method) (c : Code) (H : Heap) (locs : List Loc) (cells slots mc ms : Nat) (g : JFrame) (rest : List Value) (Qa : State → Outcome → State → Prop) (XC : String → State → State → Prop) (free : Addr → Prop) : Prop :=
  ∀ T : State, T.heap = H → Stand p l e R s m args below meth c T locs cells slots →
    (∃ (v : Option Value) (st₀ t T' : State) (L : List Loc), st₀.heap = H ∧ Stand p l e R s m args below meth c T' (locs ++ L) (cells + mc) (slots + ms) ∧ (∀ q ∈ L, free q.base) ∧ T'.heap = t.heap ∧ T'.vm = t.vm ∧ Qa st₀ (.returned v) t ∧
      Goes p e below T g T' { g with pc := g.pc + 5, stack := v.toList ++ rest }) ∨
    (∃ (q : Addr) (st₀ t T' : State) (L : List Loc) (E : String) (ce : Cell), st₀.heap = H ∧ Stand p l e R s m args below meth c T' (locs ++ L) (cells + mc) (slots + ms) ∧ (∀ z ∈ L, free z.base) ∧ T'.heap = t.heap ∧ T'.vm = t.vm ∧ XC E st₀ t ∧ t.heap[q]? = some ce ∧ ce.vm = .none ∧ s.vm.findClass E = some ce.cls ∧
      Steps p.tables e below (T.setTop g) ((T'.setTop { g with stack := rest }).pushFrame (.throwing q)))
theorem vx_callIF {T : State} (X : Stand p l e R s m args below meth c T locs cells slots) (hexec : p.tables.exec = Jvm.exec) {own C : String} {index count : Nat} {x y : MethodName} {bytes : ByteArray} {maxL : Nat} {ret : Option FieldType}
    (hown : s.vm.findClass own = some m.cls) (hlink : (Cond.methodLink own index x).before args s = true) (hdecl : (Cond.declares x).before args s = true) (hface : (Cond.interfaceMethod x.cls x.cls x.name x.desc).before args s = true)
    (hsel : (Cond.selects C x y).before args s = true) (hinst : (Cond.instanceMethod y).before args s = true) (hpub : (Cond.publicMethod y).before args s = true) (hunh : (Cond.unhidden C x.name x.desc).before args s = true)
    (hcast : (Cond.castable C x.cls).before args s = true) (hcode : (Cond.code y bytes maxL ret).before args s = true) (hx : x.cls ≠ "java/lang/invoke/MethodHandle" ∧ x.cls ≠ "java/lang/invoke/VarHandle")
    {W9 : Nat} {Pre : Pt → Array Value → Prop} {Post : Pt → Array Value → Option Value → Pt → Prop} {PostX : Pt → Array Value → Addr → Pt → Prop} (hK : vx_Back l R p e below s args y 5 W9 Pre Post PostX)
    {b : Addr} {cellB : Cell} {kB : Class} (hcell : T.heap[b]? = some cellB) (hobj : cellB.vm.isStatics = false) (hcls : s.vm.findClass C = some cellB.cls) (hkB : s.vm.classes[cellB.cls]? = some kB)
    {g : JFrame} (hg : g.method = m) (hsize : g.locals.size = c.maxLocals) {argsL rest : List Value} (hlen : ∀ sig, parseMethodDescriptor x.desc = some sig → argsL.length = sig.parameters.length)
    (hstack : g.stack = argsL.reverse ++ .ref b :: rest) (hW : 2 * g.monitorRoom + (rest.map fun v => v.category).sum ≤ W9) (hdg : decode c.code g.pc = .ok (.invokeinterface index count, 5))
    (hpre : ∀ vm₁, s.WarmedH vm₁ → Pre ⟨T.setVm vm₁, locs, cells, slots⟩ (Value.ref b :: argsL).toArray) :
    (∃ (v : Option Value) (vm₁ : Vm) (B : Pt), s.WarmedH vm₁ ∧ Stand p l e R s m args below meth c B.U B.locs B.cells B.slots ∧ Post ⟨T.setVm vm₁, locs, cells, slots⟩ (Value.ref b :: argsL).toArray v B ∧
      ∀ target, Steps p.tables e below (B.U.setTop { g with pc := g.pc + 5, stack := v.toList ++ rest }) target → Steps p.tables e below (T.setTop g) target) ∨
    (∃ (q : Addr) (vm₁ : Vm) (B : Pt), s.WarmedH vm₁ ∧ Stand p l e R s m args below meth c B.U B.locs B.cells B.slots ∧ PostX ⟨T.setVm vm₁, locs, cells, slots⟩ (Value.ref b :: argsL).toArray q B ∧
      Steps p.tables e below (T.setTop g) ((B.U.setTop { g with stack := rest }).pushFrame (.throwing q))) := by
  obtain ⟨r0, r, hn, hrm, hstR, hsigR⟩ := Cond.declares_spec hdecl
  obtain ⟨cL, kL, r1, hcL, hkL, hiL, hfoundL, hn1⟩ := Cond.interfaceMethod_spec hface
  cases hn.symm.trans hn1
  have hr0cls : r0.cls = cL := Option.some.inj ((findClass_of_methodNamed hn).symm.trans hcL)
  obtain ⟨hnameR, hdescR⟩ := name_of_methodNamed hn hrm
  obtain ⟨mk, methM, hnamed, hmethM, -, habM⟩ := Cond.instanceMethod_spec hinst
  obtain ⟨c2, r2, m2, q1, q2, q3, q4, -⟩ := Cond.selects_spec hsel
  cases hcls.symm.trans q1
  cases hfoundL.symm.trans q2
  cases hnamed.symm.trans q3
  have hselP : selectMethod e.platform s.vm cellB.cls r0 = .method mk := by rw [Launch.admits_selectMethod X.admits]; exact q4
  have hpubM : hasFlag methM.accessFlags Acc.public_ = true := Cond.publicMethod_spec hnamed hmethM hpub
  have hway : ((cellB.cls :: s.vm.superclasses cellB.cls).any fun k => (declaredIn s.vm r.name r.desc k).any fun (_, z) => z.isPrivate || z.isStatic) = false := by
    rw [hnameR, hdescR]; exact Cond.unhidden_spec hcls hunh
  obtain ⟨c3, t3, w1, w2, w3⟩ := Cond.castable_spec hcast
  cases hcls.symm.trans w1
  cases hcL.symm.trans w2
  obtain ⟨vm₁, X₁, hstep₁⟩ := X.invokeinterface hexec hown hlink hn hrm hstR (by rw [hr0cls]; exact hkL) hiL hx (a := b) (cell := cellB) (kcell := kB) hcell
    (fun z h => by rw [h] at hobj; cases hobj) hkB (by rw [hr0cls]; exact w3) hselP hmethM hway hpubM habM (g := g) hg (argsL := argsL) (rest := rest) (hlen _ hsigR) hstack hdg
  rcases hK m meth c ⟨T.setVm vm₁, locs, cells, slots⟩ { g with stack := rest } (.invokeinterface index count) mk (Value.ref b :: argsL).toArray X₁ hg hsize hdg hW (X₁.named hnamed) (hpre vm₁ X₁.warmed) with ⟨v, B, X', hpost, hsteps⟩ | ⟨q, B, X', hpost, hsteps⟩
  · exact Or.inl ⟨v, vm₁, B, X₁.warmed, X', hpost, fun target h => hstep₁ _ fun acts => by rw [doInvoke_state]; exact hsteps.trans h⟩
  · exact Or.inr ⟨q, vm₁, B, X₁.warmed, X', hpost, hstep₁ _ fun acts => by rw [doInvoke_state]; exact hsteps⟩
theorem vx_runF {x y : MethodName} {bytes cc : ByteArray} {maxL nL mc ms n index count : Nat} {ret : Option FieldType} {ws : List Cond} {rm : Room} {Pc : Array Value → State → Prop} {Qc : Array Value → State → Outcome → State → Prop} {XC : String → State → State → Prop} {free : Addr → Prop} {Ts : List Cond} {own C : String} {cC : ClassId} {b : Addr} {As rest : List Value} {g : JFrame}
    (hat : ClassAt s C cC) (S : CallFix p m c cc nL s args Ts own) (hM : vx_Met l y ws rm Pc Qc XC mc ms free) (cw : va_CI R s args own C index x y bytes maxL ret ws rm mc ms n) (hp : PreV s H C b Pc As)
    (hg : g.method = m) (hn : As.length = n) (hsize : g.locals.size = nL) (hstack : g.stack = As.reverse ++ .ref b :: rest) (hW : 2 * g.monitorRoom + (rest.map fun v => v.category).sum ≤ 8) (hdg : decode cc g.pc = .ok (.invokeinterface index count, 5)) (hf : cells + mc ≤ R.cells ∧ slots + ms ≤ R.slots) :
    vx_Run5 p l e R s m args below meth c H locs cells slots mc ms g rest (Qc (Value.ref b :: As).toArray) XC free := by
  obtain ⟨hrc, hrs, hfr, hlo, hws, hcw⟩ := cw.back
  have hini := cw.init
  have hK : vx_Back l R p e below s args y 5 8 (PreOf R mc ms Pc) (PostOf Qc mc ms free) (vx_Post XC mc ms free) := vx_back (bytes := bytes) (maxL := maxL) (ret := ret) hM hp.1 hrc hrs hfr hlo hws hcw (fun a' U hW => word_at hW (Or.inl (by first | rfl | simp [Cond.onTables, Cond.keeps, Cond.steady])) hini)
  obtain ⟨hx, hb, hml, ho, -⟩ := S
  obtain ⟨-, ⟨cellB, hcB, hoB, hclB⟩, hPc⟩ := hp
  obtain ⟨hfc, kB, hkB, -⟩ := hat
  cases hfc.symm.trans hclB
  intro T hT X
  rcases vx_callIF X hx (C := C) (bytes := bytes) (maxL := maxL) (ret := ret) ho cw.link cw.decl cw.face cw.sel cw.inst cw.pub cw.unh cw.cast cw.code cw.notMH hK (by rw [hT]; exact hcB) hoB hclB hkB hg (hsize.trans hml.symm) (argsL := As) (rest := rest) (fun sig h => hn.trans (cw.len sig h)) hstack hW (by rw [hb]; exact hdg)
    (fun vm₁ hW₁ => ⟨hf.1, hf.2, hPc (T.setVm vm₁) hT hW₁⟩) with ⟨v, vm₁, ⟨U', l2, c2, s2⟩, hW₁, X', ⟨g', mk, t, L, e1, e2, hq, h1, hL, h2, h3⟩, st⟩ | ⟨q, vm₁, ⟨U', l2, c2, s2⟩, hW₁, X', ⟨g', mk, t, L, E, ce, e1, e2, hq, hce, hcv, hcl, h1, hL, h2, h3⟩, st⟩
  · dsimp only [Pt.U, Pt.locs, Pt.cells, Pt.slots] at X' e1 e2 h1 h2 h3 st
    subst h1; subst h2; subst h3
    exact Or.inl ⟨v, (T.setVm vm₁).calling g' mk (Value.ref b :: As).toArray, t, U', L, hT, X', hL, e1, e2, hq, st⟩
  · dsimp only [Pt.U, Pt.locs, Pt.cells, Pt.slots] at X' e1 e2 h1 h2 h3 st hcl
    subst h1; subst h2; subst h3
    exact Or.inr ⟨q, (T.setVm vm₁).calling g' mk (Value.ref b :: As).toArray, t, U', L, E, ce, hT, X', hL, e1, e2, hq, hce, hcv, vx_cls hW₁ hcl, st⟩
end
end
section
/-! throw new E(text): as vx_throwS, vx_throwSW (EXCEPTIONS.to-paste), but saying that one cell came, no more -/
section AMT
variable {p : Program} {l : Launch} {e : Env} {R : Room} {s : State} {m : MethodId} {args : Array Value} {below : List Frame} {meth : Method} {c : Code} {H : Heap} {locs : List Loc} {cells slots : Nat} {Q : State → Prop}
variable {mc ms : Nat} {free : Addr → Prop} {A0 A1 : Nat → Prop} {H0 : Heap} {a : Array Value} {ls : Array Slot} {st0 rest : List Value}
variable {Qc : Array Value → State → Outcome → State → Prop} {XC : String → State → State → Prop}
theorem am_throwS {cc : ByteArray} {pc : Nat} (hexec : p.tables.exec = Jvm.exec) (hb : c.code = cc) (hl : l.stackTraces = false) {own cls text : String} {names : List String} {ik is ic mc ms sa : Nat} {A : Nat → Prop}
    (hown : s.vm.findClass own = some m.cls) (hcls : Bundle.fit cls = true) (hnames : ∀ n ∈ names, Bundle.fit n = true)
    (hk : (Cond.classLink own ik cls).before args s = true) (hini : (Cond.initialized cls).before args s = true) (hstr : vk_R own is text sa s) (hat : ∀ w ∈ vx_atS own ic cls names, w.before args s = true)
    (hgood : ∀ w ∈ Cond.classLink own ik cls :: Cond.initialized cls :: vx_atS own ic cls names, vx_ot w = true)
    (hU : vx_Zq Bundle.tN "UNASSIGNED_STACK" Bundle.steD A s s.heap) (hN : vx_Zq Bundle.tN "SUPPRESSED_SENTINEL" Bundle.listD A s s.heap) (hS : va_S A s.heap H locs) (hsize : ls.size = c.maxLocals)
    (d0 : decode cc pc = .ok (.new ik, 3)) (d3 : decode cc (pc + 3) = .ok (.dup, 1)) (d4 : decode cc (pc + 4) = .ok (.ldc is, 2)) (d6 : decode cc (pc + 6) = .ok (.invokespecial ic, 3)) (d9 : decode cc (pc + 9) = .ok (.athrow, 1))
    (hout : ∀ x ∈ c.exceptionTable.toList, covers x (pc + 9) = false)
    (hRframes : names.length + 3 < R.frames) (hRlocals : (rest.map fun v => v.category).sum + (13 * (names.length + 1) + 43) ≤ R.locals) (hRcells : cells + 1 ≤ R.cells) (hRslots : slots + 6 ≤ R.slots) (hlocks : meth.locks = false)
    (hx : ∀ t : State, s.vm.Alike t.vm → t.heap.size = H.size + 1 → (∀ q : Nat, q < H.size → t.heap[q]? = H[q]?) → XC cls s t)
    (hf : ∀ z ∈ locs, free z.base) (hc : cells + 1 ≤ mc) (hs : slots + 6 ≤ ms) :
    W p l e R s m args below meth c H locs cells slots (vx_MQ below Qc XC args s mc ms free) (F0 m pc ls rest) := by
  intro T hT X
  have htr : e.platform.stackTraces = false := (show e.platform.stackTraces = l.stackTraces by rw [X.admits.platform]).trans hl
  have Y := vx_rebase X (R' := { frames := R.frames, locals := R.locals, cells := 1, slots := 6 }) (Nat.le_refl _) (Nat.le_refl _) hRcells hRslots
  obtain ⟨s', hA⟩ : ∃ z, z = (T.setVm s.vm).setFrames (.invoking m args :: below) := ⟨_, rfl⟩
  rw [← hA] at Y
  have hvm : s'.vm = s.vm := by rw [hA]; rfl
  have hhp : s'.heap = H := by rw [hA]; exact hT
  have hW0 : s.WarmedH s'.vm := by rw [hvm]; exact State.WarmedH.refl s
  have hat' : ∀ w ∈ vx_atS own ic cls names, w.before args s' = true := fun w hw => vx_ot_at hW0 hvm.symm (hgood w (List.mem_cons_of_mem _ (List.mem_cons_of_mem _ hw))) (hat w hw)
  have hk' : (Cond.classLink own ik cls).before args s' = true := vx_ot_at hW0 hvm.symm (hgood _ List.mem_cons_self) hk
  have hini' : (Cond.initialized cls).before args s' = true := vx_ot_at hW0 hvm.symm (hgood _ (List.mem_cons_of_mem _ List.mem_cons_self)) hini
  have hU' : vx_Zq Bundle.tN "UNASSIGNED_STACK" Bundle.steD A s' s'.heap := by rw [hhp]; exact vx_Zq.moved hW0.alike (hU.kept hS.2.1)
  have hN' : vx_Zq Bundle.tN "SUPPRESSED_SENTINEL" Bundle.listD A s' s'.heap := by rw [hhp]; exact vx_Zq.moved hW0.alike (hN.kept hS.2.1)
  have h : ∀ w ∈ Bundle.ownAtoms own ic cls names, w.before args s' = true := vx_own hat' (vx_isRefq hU'.1) (vx_isRefq hN'.1) hU'.2.word hN'.2.word
  have hown' : s'.vm.findClass own = some m.cls := by rw [hvm]; exact hown
  have hins : (Cond.instantiable cls 6).before args s' = true := h _ (by simp [Bundle.ownAtoms])
  obtain ⟨vm₁, cX, kX, hfX, hkX, -, -, X₁, st1⟩ := Y.newCold hexec (own := own) (C := cls) (index := ik) (n := 6) hown' hk' hins hini'
    (g := F0 m pc ls rest) rfl (by rw [hb]; exact d0) (Nat.le_refl _) (Nat.le_refl _)
  generalize hT1 : (T.setVm vm₁).pushCell { cls := cX, slots := kX.instanceTypes.map defaultValue, vm := .none } = T1 at X₁ st1
  have hcat : (Value.ref T.heap.size).category = 1 := rfl
  have hcellA : T1.heap[T.heap.size]? = some (freshCell cX kX) := by rw [← hT1]; exact State.heap_pushCell_size _ _
  have d3' : decode c.code (pc + 3) = .ok (.dup, 1) := by rw [hb]; exact d3
  have d4' : decode c.code (pc + 4) = .ok (.ldc is, 2) := by rw [hb]; exact d4
  have hstr' : vk_R own is text sa s' := vk_R.warm hW0 hstr
  obtain ⟨U, hsteps, hrun, hend, hW, hsame, ce, hce, hO⟩ := X₁.ctorThrowS hexec htr (own := own) (cls := cls) (names := names) (ic := ic) hown' hcls hnames h (fun x hx => nomatch hx) hfX hkX hcellA (by rw [hhp, hT]; exact Nat.le_refl _) (msg := .ref sa) rfl
    (g := { method := m, pc := pc + 6, locals := ls, stack := .ref sa :: .ref T.heap.size :: .ref T.heap.size :: rest, locked := none }) rfl hsize rfl rfl (rest := rest) rfl
    (by rw [hb]; exact d6) (by rw [hb]; exact d9) hout hRframes (by simp only [List.map_cons, List.sum_cons, hcat]; omega) hlocks
  obtain ⟨f1, f2⟩ := vx_frame hsame
  rw [hhp] at f1 f2
  have f0 : U.heap.size = H.size + 1 := by
    obtain ⟨-, -, z2, -⟩ := hsame
    have z2 : U.heap.size ≤ s'.heap.size + (0 + 1) := z2
    rw [hhp] at z2
    have z1 := (Array.getElem?_eq_some_iff.mp hce).1
    rw [hT] at z1
    omega
  have hWs : s.WarmedH U.vm := State.WarmedH.trans hW0 hW
  have hcl : s.vm.findClass cls = some ce.cls := by
    have h9 := hO.cls
    rw [hvm] at h9
    exact h9
  have hall : s.sameButNew ({ U with vm := s.vm } : State) locs mc ms := by
    subst hA
    obtain ⟨e1, e2⟩ := hsame
    rw [State.setFrames_setFrames] at e1
    have h2 : (T.setVm s.vm).sameButNew ({ U with vm := s.vm } : State) [] (0 + 1) (0 + 6) := ⟨e1, e2⟩
    have h3 := X.same.trans h2
    rw [List.append_nil] at h3
    exact h3.mono hc hs
  refine ⟨U, ?_, .threw T.heap.size, hrun, hend, Or.inr ⟨T.heap.size, rfl, cls, ce, locs, hx U hWs.alike f0 (fun q hq => f2 q hq (fun z hz => nomatch hz)), hce, hO.vm, hcl, hWs, hall, hf⟩⟩
  refine st1 _ ?_
  show Steps p.tables e below (T1.setTop { method := m, pc := pc + 3, locals := ls, stack := .ref T.heap.size :: rest, locked := none }) _
  jvm_step X₁.here [X₁.here.top, hexec, d3', Value.category]
  exact X₁.ldcString hexec (own := own) (text := text) (index := is) (a := sa) hown' hstr'.1 hstr'.2
    (g := { method := m, pc := pc + 4, locals := ls, stack := .ref T.heap.size :: .ref T.heap.size :: rest, locked := none }) rfl d4' _ hsteps
theorem am_throwSW {cc : ByteArray} {pc : Nat} (hexec : p.tables.exec = Jvm.exec) (hb : c.code = cc) (hl : l.stackTraces = false) {own cls text : String} {names : List String} {ik is ic mc ms sa : Nat} {A : Nat → Prop}
    (hown : s.vm.findClass own = some m.cls) (hcls : Bundle.fit cls = true) (hnames : ∀ n ∈ names, Bundle.fit n = true)
    (hk : (Cond.classLink own ik cls).before args s = true) (hini : (Cond.initialized cls).before args s = true) (hstr : vk_R own is text sa s) (hat : ∀ w ∈ vx_atS own ic cls names, w.before args s = true)
    (hgood : ∀ w ∈ Cond.classLink own ik cls :: Cond.initialized cls :: vx_atS own ic cls names, vx_ot w = true)
    (hU : vx_Zq Bundle.tN "UNASSIGNED_STACK" Bundle.steD A s s.heap) (hN : vx_Zq Bundle.tN "SUPPRESSED_SENTINEL" Bundle.listD A s s.heap) (hS : va_S A s.heap H locs) (hsize : ls.size = c.maxLocals)
    (d0 : decode cc pc = .ok (.new ik, 3)) (d3 : decode cc (pc + 3) = .ok (.dup, 1)) (d4 : decode cc (pc + 4) = .ok (.ldc_w is, 3)) (d7 : decode cc (pc + 7) = .ok (.invokespecial ic, 3)) (d10 : decode cc (pc + 10) = .ok (.athrow, 1))
    (hout : ∀ x ∈ c.exceptionTable.toList, covers x (pc + 10) = false)
    (hRframes : names.length + 3 < R.frames) (hRlocals : (rest.map fun v => v.category).sum + (13 * (names.length + 1) + 43) ≤ R.locals) (hRcells : cells + 1 ≤ R.cells) (hRslots : slots + 6 ≤ R.slots) (hlocks : meth.locks = false)
    (hx : ∀ t : State, s.vm.Alike t.vm → t.heap.size = H.size + 1 → (∀ q : Nat, q < H.size → t.heap[q]? = H[q]?) → XC cls s t)
    (hf : ∀ z ∈ locs, free z.base) (hc : cells + 1 ≤ mc) (hs : slots + 6 ≤ ms) :
    W p l e R s m args below meth c H locs cells slots (vx_MQ below Qc XC args s mc ms free) (F0 m pc ls rest) := by
  intro T hT X
  have htr : e.platform.stackTraces = false := (show e.platform.stackTraces = l.stackTraces by rw [X.admits.platform]).trans hl
  have Y := vx_rebase X (R' := { frames := R.frames, locals := R.locals, cells := 1, slots := 6 }) (Nat.le_refl _) (Nat.le_refl _) hRcells hRslots
  obtain ⟨s', hA⟩ : ∃ z, z = (T.setVm s.vm).setFrames (.invoking m args :: below) := ⟨_, rfl⟩
  rw [← hA] at Y
  have hvm : s'.vm = s.vm := by rw [hA]; rfl
  have hhp : s'.heap = H := by rw [hA]; exact hT
  have hW0 : s.WarmedH s'.vm := by rw [hvm]; exact State.WarmedH.refl s
  have hat' : ∀ w ∈ vx_atS own ic cls names, w.before args s' = true := fun w hw => vx_ot_at hW0 hvm.symm (hgood w (List.mem_cons_of_mem _ (List.mem_cons_of_mem _ hw))) (hat w hw)
  have hk' : (Cond.classLink own ik cls).before args s' = true := vx_ot_at hW0 hvm.symm (hgood _ List.mem_cons_self) hk
  have hini' : (Cond.initialized cls).before args s' = true := vx_ot_at hW0 hvm.symm (hgood _ (List.mem_cons_of_mem _ List.mem_cons_self)) hini
  have hU' : vx_Zq Bundle.tN "UNASSIGNED_STACK" Bundle.steD A s' s'.heap := by rw [hhp]; exact vx_Zq.moved hW0.alike (hU.kept hS.2.1)
  have hN' : vx_Zq Bundle.tN "SUPPRESSED_SENTINEL" Bundle.listD A s' s'.heap := by rw [hhp]; exact vx_Zq.moved hW0.alike (hN.kept hS.2.1)
  have h : ∀ w ∈ Bundle.ownAtoms own ic cls names, w.before args s' = true := vx_own hat' (vx_isRefq hU'.1) (vx_isRefq hN'.1) hU'.2.word hN'.2.word
  have hown' : s'.vm.findClass own = some m.cls := by rw [hvm]; exact hown
  have hins : (Cond.instantiable cls 6).before args s' = true := h _ (by simp [Bundle.ownAtoms])
  obtain ⟨vm₁, cX, kX, hfX, hkX, -, -, X₁, st1⟩ := Y.newCold hexec (own := own) (C := cls) (index := ik) (n := 6) hown' hk' hins hini'
    (g := F0 m pc ls rest) rfl (by rw [hb]; exact d0) (Nat.le_refl _) (Nat.le_refl _)
  generalize hT1 : (T.setVm vm₁).pushCell { cls := cX, slots := kX.instanceTypes.map defaultValue, vm := .none } = T1 at X₁ st1
  have hcat : (Value.ref T.heap.size).category = 1 := rfl
  have hcellA : T1.heap[T.heap.size]? = some (freshCell cX kX) := by rw [← hT1]; exact State.heap_pushCell_size _ _
  have d3' : decode c.code (pc + 3) = .ok (.dup, 1) := by rw [hb]; exact d3
  have d4' : decode c.code (pc + 4) = .ok (.ldc_w is, 3) := by rw [hb]; exact d4
  have hstr' : vk_R own is text sa s' := vk_R.warm hW0 hstr
  obtain ⟨U, hsteps, hrun, hend, hW, hsame, ce, hce, hO⟩ := X₁.ctorThrowS hexec htr (own := own) (cls := cls) (names := names) (ic := ic) hown' hcls hnames h (fun x hx => nomatch hx) hfX hkX hcellA (by rw [hhp, hT]; exact Nat.le_refl _) (msg := .ref sa) rfl
    (g := { method := m, pc := pc + 7, locals := ls, stack := .ref sa :: .ref T.heap.size :: .ref T.heap.size :: rest, locked := none }) rfl hsize rfl rfl (rest := rest) rfl
    (by rw [hb]; exact d7) (by rw [hb]; exact d10) hout hRframes (by simp only [List.map_cons, List.sum_cons, hcat]; omega) hlocks
  obtain ⟨f1, f2⟩ := vx_frame hsame
  rw [hhp] at f1 f2
  have f0 : U.heap.size = H.size + 1 := by
    obtain ⟨-, -, z2, -⟩ := hsame
    have z2 : U.heap.size ≤ s'.heap.size + (0 + 1) := z2
    rw [hhp] at z2
    have z1 := (Array.getElem?_eq_some_iff.mp hce).1
    rw [hT] at z1
    omega
  have hWs : s.WarmedH U.vm := State.WarmedH.trans hW0 hW
  have hcl : s.vm.findClass cls = some ce.cls := by
    have h9 := hO.cls
    rw [hvm] at h9
    exact h9
  have hall : s.sameButNew ({ U with vm := s.vm } : State) locs mc ms := by
    subst hA
    obtain ⟨e1, e2⟩ := hsame
    rw [State.setFrames_setFrames] at e1
    have h2 : (T.setVm s.vm).sameButNew ({ U with vm := s.vm } : State) [] (0 + 1) (0 + 6) := ⟨e1, e2⟩
    have h3 := X.same.trans h2
    rw [List.append_nil] at h3
    exact h3.mono hc hs
  refine ⟨U, ?_, .threw T.heap.size, hrun, hend, Or.inr ⟨T.heap.size, rfl, cls, ce, locs, hx U hWs.alike f0 (fun q hq => f2 q hq (fun z hz => nomatch hz)), hce, hO.vm, hcl, hWs, hall, hf⟩⟩
  refine st1 _ ?_
  show Steps p.tables e below (T1.setTop { method := m, pc := pc + 3, locals := ls, stack := .ref T.heap.size :: rest, locked := none }) _
  jvm_step X₁.here [X₁.here.top, hexec, d3', Value.category]
  exact X₁.ldcStringW hexec (own := own) (text := text) (index := is) (a := sa) hown' hstr'.1 hstr'.2
    (g := { method := m, pc := pc + 4, locals := ls, stack := .ref T.heap.size :: .ref T.heap.size :: rest, locked := none }) rfl d4' _ hsteps
end AMT
end
