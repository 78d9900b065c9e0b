/-! ONE STEP: every instruction that goes on, over the machine (arms laid by wip/gen/go.py). Mine. -/
def am_al : Nat → am_Lc → List (Nat × Value)
  | _, [] => []
  | i, some v :: t => (i, v) :: am_al (i + 1) t
  | i, none :: t => am_al (i + 1) t
theorem am_al_mem : ∀ (ls : am_Lc) (i j : Nat) (v : Value), (j, v) ∈ am_al i ls ↔ i ≤ j ∧ ls[j - i]? = some (some v)
  | [], i, j, v => by simp [am_al]
  | some u :: t, i, j, v => by
    rw [am_al, List.mem_cons, am_al_mem t (i + 1) j v]
    constructor
    · rintro (h | ⟨h1, h2⟩)
      · cases h; simp
      · refine ⟨by omega, ?_⟩
        rw [show j - i = (j - (i + 1)) + 1 by omega]
        simpa using h2
    · rintro ⟨h1, h2⟩
      by_cases hj : j = i
      · subst hj
        simp at h2
        exact Or.inl (by rw [h2])
      · refine Or.inr ⟨by omega, ?_⟩
        rw [show j - i = (j - (i + 1)) + 1 by omega] at h2
        simpa using h2
  | none :: t, i, j, v => by
    rw [am_al, am_al_mem t (i + 1) j v]
    constructor
    · rintro ⟨h1, h2⟩
      refine ⟨by omega, ?_⟩
      rw [show j - i = (j - (i + 1)) + 1 by omega]
      simpa using h2
    · rintro ⟨h1, h2⟩
      by_cases hj : j = i
      · subst hj
        simp at h2
      · refine ⟨by omega, ?_⟩
        rw [show j - i = (j - (i + 1)) + 1 by omega] at h2
        simpa using h2
/-- the machine's locals hold the abstract ones -/
def am_LH (lsA : Array Slot) (nL : Nat) (ls : am_Lc) : Prop := ls.length = nL ∧ lv_has lsA nL (am_al 0 ls)
theorem am_LH.at {lsA : Array Slot} {nL : Nat} {ls : am_Lc} (h : am_LH lsA nL ls) {i : Nat} {v : Value} (hi : am_at ls i = some v) : lsA[i]? = some (.val v) := by
  have h1 : ls[i]? = some (some v) := by
    unfold am_at at hi
    split at hi
    · rename_i u hu; rw [hu]; rw [Option.some.inj hi]
    · cases hi
  exact h.2.2.2 (i, v) ((am_al_mem ls 0 i v).mpr ⟨Nat.zero_le _, by simpa using h1⟩)
theorem am_c2_cat (v : Value) : am_c2 v = true ↔ v.category = 2 := by cases v <;> simp [am_c2, Value.category]
theorem am_c2_one {v : Value} (h : ¬ am_c2 v = true) : v.category = 1 := by
  rcases lv_cat v with h1 | h1
  · exact h1
  · exact absurd ((am_c2_cat v).mpr h1) h
theorem am_LH.s1 {nL : Nat} {ls l' : am_Lc} (hl : ls.length = nL) {i : Nat} {v : Value} (h : am_s1 ls i v = some l') : i < nL ∧ ∀ lsA' : Array Slot, lv_has lsA' nL ((i, v) :: (am_al 0 ls).filter (fun q => !(q.1 == i) && !(q.1 + 1 == i && q.2.category == 2))) → am_LH lsA' nL l' := by
  unfold am_s1 at h
  split at h
  · rename_i hc
    obtain ⟨hi, hc1⟩ := hc
    obtain rfl := Option.some.inj h
    refine ⟨by omega, fun lsA' hh => ⟨by simp [hl], hh.1, hh.2.1, fun q hq => ?_⟩⟩
    obtain ⟨j, u⟩ := q
    obtain ⟨-, h2⟩ := (am_al_mem _ 0 j u).mp hq
    rw [Nat.sub_zero] at h2
    by_cases hj : j = i
    · subst hj
      rw [List.getElem?_set_self hi] at h2
      cases h2
      exact hh.2.2 _ List.mem_cons_self
    · rw [List.getElem?_set_ne (fun e => hj e.symm)] at h2
      refine hh.2.2 (j, u) (List.mem_cons_of_mem _ (List.mem_filter.mpr ⟨(am_al_mem ls 0 j u).mpr ⟨Nat.zero_le _, by simpa using h2⟩, ?_⟩))
      have hne : (j == i) = false := by simp [hj]
      cases i with
      | zero => simp [hne]
      | succ i =>
        by_cases hji : j = i
        · subst hji
          have hc1 : (match ls[j]? with | some (some v) => !(am_c2 v) | _ => true) = true := hc1
          rw [h2] at hc1
          have h3 : am_c2 u = false := by simpa using hc1
          have h4 : ¬ u.category = 2 := fun e => by rw [(am_c2_cat u).mpr e] at h3; cases h3
          simp [h4]
        · simp [hne, hji]
  · cases h
theorem am_LH.s2 {nL : Nat} {ls l' : am_Lc} (hl : ls.length = nL) {i : Nat} {v : Value} (h : am_s2 ls i v = some l') : i + 1 < nL ∧ ∀ lsA' : Array Slot, lv_has lsA' nL ((i, v) :: (am_al 0 ls).filter (fun q => !(q.1 == i) && (!(q.1 == i + 1) && !(q.1 + 1 == i && q.2.category == 2)))) → am_LH lsA' nL l' := by
  unfold am_s2 at h
  split at h
  · rename_i hc
    obtain ⟨hi, hc1⟩ := hc
    obtain rfl := Option.some.inj h
    refine ⟨by omega, fun lsA' hh => ⟨by simp [hl], hh.1, hh.2.1, fun q hq => ?_⟩⟩
    obtain ⟨j, u⟩ := q
    obtain ⟨-, h2⟩ := (am_al_mem _ 0 j u).mp hq
    rw [Nat.sub_zero] at h2
    by_cases hj1 : j = i + 1
    · subst hj1
      rw [List.getElem?_set_self (by simp; omega)] at h2
      cases h2
    rw [List.getElem?_set_ne (fun e => hj1 e.symm)] at h2
    by_cases hj : j = i
    · subst hj
      rw [List.getElem?_set_self (by omega)] at h2
      cases h2
      exact hh.2.2 _ List.mem_cons_self
    · rw [List.getElem?_set_ne (fun e => hj e.symm)] at h2
      refine hh.2.2 (j, u) (List.mem_cons_of_mem _ (List.mem_filter.mpr ⟨(am_al_mem ls 0 j u).mpr ⟨Nat.zero_le _, by simpa using h2⟩, ?_⟩))
      have hne : (j == i) = false := by simp [hj]
      have hne1 : (j == i + 1) = false := by simp [hj1]
      cases i with
      | zero => simp [hne, hj1]
      | succ i =>
        by_cases hji : j = i
        · subst hji
          have hc1 : (match ls[j]? with | some (some v) => !(am_c2 v) | _ => true) = true := hc1
          rw [h2] at hc1
          have h3 : am_c2 u = false := by simpa using hc1
          have h4 : ¬ u.category = 2 := fun e => by rw [(am_c2_cat u).mpr e] at h3; cases h3
          simp [h4, hj1]
        · simp [hne, hne1, hji]
  · cases h
theorem am_LH.kill {lsA : Array Slot} {nL : Nat} : ∀ (d : List Nat) {ls : am_Lc}, am_LH lsA nL ls → am_LH lsA nL (am_kill d ls)
  | [], _, h => h
  | i :: t, ls, h => by
    refine am_LH.kill t ⟨by simp [h.1], h.2.1, h.2.2.1, fun q hq => ?_⟩
    obtain ⟨j, u⟩ := q
    obtain ⟨-, h2⟩ := (am_al_mem _ 0 j u).mp hq
    rw [Nat.sub_zero] at h2
    refine h.2.2.2 (j, u) ((am_al_mem ls 0 j u).mpr ⟨Nat.zero_le _, ?_⟩)
    rw [Nat.sub_zero]
    by_cases hj : i = j
    · subst hj
      by_cases hl : i < ls.length
      · rw [List.getElem?_set_self hl] at h2; cases h2
      · rw [List.getElem?_eq_none (by simp; omega)] at h2; cases h2
    · rw [List.getElem?_set_ne hj] at h2; exact h2
theorem am_nx_inj {pc : Nat} {ls : am_Lc} {st : List Value} {w : am_Wd} {a : Nat × am_Lc × List Value × am_Wd} (h : am_nx pc ls st w = some (.inl a)) : a = (pc, ls, st, w) := by
  unfold am_nx at h
  exact (Sum.inl.inj (Option.some.inj h)).symm
theorem am_tg_inj {pc t : Nat} {o : Int} (h : am_tg pc o = some t) : (pc : Int) + o = (t : Int) := by
  unfold am_tg at h
  split at h
  · rename_i k hk; cases h; exact hk
  · cases h
theorem am_br_inj {c : Bool} {pc : Nat} {o : Int} {ls : am_Lc} {st : List Value} {w : am_Wd} {a : Nat × am_Lc × List Value × am_Wd} (hj : 0 ≤ (pc : Int) + o) (h : am_br c pc o ls st w = some (.inl a)) : ∃ t : Nat, (pc : Int) + o = (t : Int) ∧ a = (if c = true then t else pc + 3, ls, st, w) := by
  have ht : (pc : Int) + o = (((pc : Int) + o).toNat : Int) := (Int.toNat_of_nonneg hj).symm
  refine ⟨_, ht, ?_⟩
  unfold am_br at h
  split at h
  · rename_i hc
    obtain ⟨t, h1, h2⟩ := Option.bind_eq_some_iff.mp h
    have h3 := am_tg_inj h1
    rw [am_nx_inj h2, if_pos hc]
    have : t = ((pc : Int) + o).toNat := by omega
    rw [this]
  · rename_i hc
    rw [am_nx_inj h, if_neg hc]
theorem am_z0 (n k : Nat) : n = n + (k - k) := by simp
theorem am_sw_lk (x : Int32) (d : Int) : ∀ l : List (Int × Int), Op.lookupswitch.offset l d x.toInt = am_sw x d l
  | [] => rfl
  | (a, o) :: r => by
    rw [Op.lookupswitch.offset_cons, am_sw]
    by_cases h : a = x.toInt
    · rw [if_pos h, if_pos h.symm]
    · rw [if_neg h, if_neg (fun q => h q.symm)]; exact am_sw_lk x d r
theorem am_sw_tb (x : Int32) (d : Int) : ∀ (l : List Int) (lo : Int) (k : Nat), (x.toInt < lo + k ∨ lo + k + l.length ≤ x.toInt → am_sw x d ((l.zipIdx k).map fun q => (lo + (q.2 : Int), q.1)) = d) ∧ (¬ x.toInt < lo + k → x.toInt < lo + k + l.length → ∃ o, l[(x.toInt - (lo + k)).toNat]? = some o ∧ am_sw x d ((l.zipIdx k).map fun q => (lo + (q.2 : Int), q.1)) = o)
  | [], lo, k => ⟨fun _ => rfl, fun h1 h2 => by simp at h2; omega⟩
  | a :: r, lo, k => by
    obtain ⟨h1, h2⟩ := am_sw_tb x d r lo (k + 1)
    rw [List.zipIdx_cons, List.map_cons, am_sw]
    have e1 : ((k + 1 : Nat) : Int) = (k : Int) + 1 := by omega
    rw [e1] at h1 h2
    refine ⟨fun h => ?_, fun ha hb => ?_⟩
    · simp only [List.length_cons] at h
      rw [if_neg (by show ¬ x.toInt = lo + (k : Int); omega)]
      exact h1 (by omega)
    · simp only [List.length_cons] at hb
      by_cases hx : x.toInt = lo + (k : Int)
      · rw [if_pos hx]
        refine ⟨a, ?_, rfl⟩
        rw [hx, Int.sub_self]
        rfl
      · rw [if_neg hx]
        obtain ⟨o, ho, hs⟩ := h2 (by omega) (by omega)
        refine ⟨o, ?_, hs⟩
        rw [show (x.toInt - (lo + (k : Int))).toNat = (x.toInt - (lo + ((k : Int) + 1))).toNat + 1 by omega]
        simpa using ho
theorem am_kt_ok {w : am_Wd} {a t : Nat} {u : Unit} (h : am_kt w a t = some u) : ∃ (t1 : Nat) (x : vp_A), w.1 a = some (.inl (t1, x)) ∧ t1 = t := by
  unfold am_kt at h
  split at h
  · rename_i t1 x he
    split at h
    · rename_i hc; exact ⟨t1, x, he, hc⟩
    · cases h
  · cases h
theorem am_K_nm {D : va_G} {dA : Nat → ClassId} {s : State} (hK : va_K D am_cl (am_tys dA) s) {t : Nat} (ht : t < 7) : s.vm.findClass ("[" ++ (am_tyl t).toString) = some (dA t) := by
  have h := (hK.2 t _ (am_tys_at dA ht)).2
  rcases (show t = 0 ∨ t = 1 ∨ t = 2 ∨ t = 3 ∨ t = 4 ∨ t = 5 ∨ t = 6 by omega) with rfl | rfl | rfl | rfl | rfl | rfl | rfl
  · exact h
  · exact h
  · exact h
  · exact h
  · obtain ⟨_, _, -, -, -, h⟩ := h; exact h
  · obtain ⟨_, _, -, -, -, h⟩ := h; exact h
  · exact h
theorem am_pf_ge {w w1 : am_Wd} {a ci k : Nat} {v : Value} (h : am_pf w a ci k v = some w1) : w1.2 = w.2 := by
  unfold am_pf at h
  split at h
  · split at h
    · cases h; rfl
    · cases h
  · cases h
theorem am_wi_ge {t : Nat} {w w1 : am_Wd} {a : Nat} {i x : Int32} (h : am_wi t w a i x = some w1) : w1.2 = w.2 := by
  unfold am_wi at h
  split at h
  · split at h
    · split at h
      · cases h
      · cases h; rfl
    · cases h
  · cases h
theorem am_cy_ge {w w1 : am_Wd} {a0 a : Nat} {sp dp n : Int32} (h : am_cy w a0 sp a dp n = some w1) : w1.2 = w.2 := by
  unfold am_cy at h
  split at h
  · split at h
    · cases h; rfl
    · cases h
  · cases h
theorem am_wl_ge {w w1 : am_Wd} {a : Nat} {i : Int32} {x : Int64} (h : am_wl w a i x = some w1) : w1.2 = w.2 := by
  unfold am_wl at h
  split at h
  · split at h
    · split at h
      · cases h
      · cases h; rfl
    · cases h
  · cases h
theorem am_wq_ge {t ci : Nat} {w w1 : am_Wd} {a b : Nat} {i : Int32} (h : am_wq t ci w a i b = some w1) : w1.2 = w.2 := by
  unfold am_wq at h
  split at h
  · split at h
    · split at h
      · cases h
      · obtain ⟨_, _, h⟩ := Option.bind_eq_some_iff.mp h
        cases h; rfl
    · cases h
  · cases h
section AMG
variable {p : Program} {l : Launch} {e : Env} {R : Room} {s : State} {m : MethodId} {args : Array Value} {below : List Frame} {meth : Method} {c : Code} {H : Heap} {locs : List Loc} {cells slots : Nat} {Q : State → Prop}
variable {pc : Nat} {lsA : Array Slot} {D : va_G} {dA : Nat → ClassId} {base : Nat} {sg : am_Sg} {y : Nat}
set_option maxHeartbeats 8000000 in
set_option maxRecDepth 100000 in
theorem am_go (C0 : am_Cx p l R s m args meth c D dA base sg y) {i : Instr} {len : Nat} {an : List Nat} (hdc : decode (am_by y) pc = .ok (i, len)) (hln : am_isw i = false → len = am_il i) (hlj : am_lj y pc i an = true) (hlk : am_lk y i an = true) {ls : am_Lc} {st : List Value} {w : am_Wd} {a : Nat × am_Lc × List Value × am_Wd} (h : am_stp pc i an ls st w = some (.inl a))
    (hl : am_LH lsA (am_ml y) ls) (hw : am_WR D dA base sg w H) (hS : va_S (am_A base) s.heap H locs)
    (hR : cells + (a.2.2.2.2.1 - w.2.1) ≤ R.cells ∧ slots + (a.2.2.2.2.2.1 - w.2.2.1) ≤ R.slots)
    (hk : ∀ (H' : Heap) (locs' : List Loc) (lsA' : Array Slot) (c' s' : Nat), c' = cells + (a.2.2.2.2.1 - w.2.1) → s' = slots + (a.2.2.2.2.2.1 - w.2.2.1) → am_LH lsA' (am_ml y) a.2.1 → am_WR D dA base sg a.2.2.2 H' → va_S (am_A base) s.heap H' locs' → W p l e R s m args below meth c H' locs' c' s' Q (F0 m a.1 lsA' a.2.2.1)) :
    W p l e R s m args below meth c H locs cells slots Q (F0 m pc lsA st) := by
  have C1 := C0
  obtain ⟨hx, hb, hml, hown, hts, hlocks, hini, hrt, htab, hst, ⟨hK, hnl, hZ1, hZ2, hstr, hO1, hO2, hO3, hbs, hsts, hsti, hxt⟩, hRf, hRl⟩ := C0
  have hsz : lsA.size = c.maxLocals := by rw [hml]; exact hl.2.1
  unfold am_stp at h
  split at h
  · -- iconst
    rename_i n
    obtain rfl := hln rfl
    obtain rfl := am_nx_inj h
    exact lv_iconst hx hb hdc rfl (hk _ _ _ _ _ (am_z0 _ _) (am_z0 _ _) hl hw hS)
  · -- bipush
    rename_i n
    obtain rfl := hln rfl
    obtain rfl := am_nx_inj h
    exact lv_bipush hx hb hdc rfl (hk _ _ _ _ _ (am_z0 _ _) (am_z0 _ _) hl hw hS)
  · -- sipush
    rename_i n
    obtain rfl := hln rfl
    obtain rfl := am_nx_inj h
    exact lv_sipush hx hb hdc rfl (hk _ _ _ _ _ (am_z0 _ _) (am_z0 _ _) hl hw hS)
  · -- lconst
    rename_i n
    obtain rfl := hln rfl
    obtain rfl := am_nx_inj h
    exact lv_lconst hx hb hdc rfl (hk _ _ _ _ _ (am_z0 _ _) (am_z0 _ _) hl hw hS)
  · -- dconst
    rename_i n
    obtain rfl := hln rfl
    split at h
    · rename_i hn
      subst hn
      obtain rfl := am_nx_inj h
      exact lv_dconst0 hx hb hdc (hk _ _ _ _ _ (am_z0 _ _) (am_z0 _ _) hl hw hS)
    · cases h
  · -- aconst_null
    obtain rfl := hln rfl
    obtain rfl := am_nx_inj h
    exact lv_null hx hb hdc (hk _ _ _ _ _ (am_z0 _ _) (am_z0 _ _) hl hw hS)
  · -- ldc
    rename_i x
    obtain rfl := hln rfl
    split at h
    · rename_i n r
      obtain rfl := am_nx_inj h
      cases r with
      | nil => simp [am_lk] at hlk
      | cons q9 r9 =>
        exact lv_ldc hx hb hown (hts _ (am_lw_ok (show am_lw (.constant (am_ow y) x (Int32.ofNat n)) q9 = true from hlk))) hdc (hk _ _ _ _ _ (am_z0 _ _) (am_z0 _ _) hl hw hS)
    · rename_i k r
      obtain rfl := am_nx_inj h
      have hlk : (am_strs.any (fun q => decide (q.1 = am_ow y ∧ q.2.1 = x ∧ q.2.2.2 = k))) = true := hlk
      obtain ⟨q, hq, h1⟩ := List.any_eq_true.mp hlk
      simp only [decide_eq_true_eq] at h1
      obtain ⟨e1, e2, e3⟩ := h1
      obtain ⟨a0, f1, f2⟩ := hstr q hq
      rw [e1, e2] at f2
      rw [e3] at f1
      have hsg : w.2.2.2 k = some a0 := by rw [hw.2.1]; exact f1
      have hk9 := hk _ _ _ _ _ (am_z0 _ _) (am_z0 _ _) hl hw hS
      dsimp only at hk9
      rw [hsg] at hk9
      exact va_ldcS hx hb hown f2 hdc hk9
    · cases h
  · -- ldc_w
    rename_i x
    obtain rfl := hln rfl
    split at h
    · rename_i n r
      obtain rfl := am_nx_inj h
      cases r with
      | nil => simp [am_lk] at hlk
      | cons q9 r9 =>
        exact lv_ldcw hx hb hown (hts _ (am_lw_ok (show am_lw (.constant (am_ow y) x (Int32.ofNat n)) q9 = true from hlk))) hdc (hk _ _ _ _ _ (am_z0 _ _) (am_z0 _ _) hl hw hS)
    · rename_i k r
      obtain rfl := am_nx_inj h
      have hlk : (am_strs.any (fun q => decide (q.1 = am_ow y ∧ q.2.1 = x ∧ q.2.2.2 = k))) = true := hlk
      obtain ⟨q, hq, h1⟩ := List.any_eq_true.mp hlk
      simp only [decide_eq_true_eq] at h1
      obtain ⟨e1, e2, e3⟩ := h1
      obtain ⟨a0, f1, f2⟩ := hstr q hq
      rw [e1, e2] at f2
      rw [e3] at f1
      have hsg : w.2.2.2 k = some a0 := by rw [hw.2.1]; exact f1
      have hk9 := hk _ _ _ _ _ (am_z0 _ _) (am_z0 _ _) hl hw hS
      dsimp only at hk9
      rw [hsg] at hk9
      exact am_ldcSW hx hb hown f2 hdc hk9
    · cases h
  · -- ldc2_w
    rename_i x
    obtain rfl := hln rfl
    split at h
    · rename_i n r
      obtain rfl := am_nx_inj h
      cases r with
      | nil => simp [am_lk] at hlk
      | cons q9 r9 =>
        exact lv_ldc2 hx hb hown (hts _ (am_lw_ok (show am_lw (.constantLong (am_ow y) x (Int64.ofNat n)) q9 = true from hlk))) hdc (hk _ _ _ _ _ (am_z0 _ _) (am_z0 _ _) hl hw hS)
    · rename_i n r
      obtain rfl := am_nx_inj h
      cases r with
      | nil => simp [am_lk] at hlk
      | cons q9 r9 =>
        exact lv_ldc2d hx hb hown (hts _ (am_lw_ok (show am_lw (.constantDouble (am_ow y) x (UInt64.ofNat n)) q9 = true from hlk))) hdc (hk _ _ _ _ _ (am_z0 _ _) (am_z0 _ _) hl hw hS)
    · cases h
  · -- iload
    rename_i k
    obtain rfl := hln rfl
    split at h
    · rename_i x hx1
      obtain rfl := am_nx_inj h
      exact lv_iload hx hb hdc (hl.at hx1) (hk _ _ _ _ _ (am_z0 _ _) (am_z0 _ _) hl hw hS)
    · cases h
  · -- iload_n
    rename_i k
    obtain rfl := hln rfl
    split at h
    · rename_i x hx1
      obtain rfl := am_nx_inj h
      exact lv_iload_n hx hb hdc rfl (hl.at hx1) (hk _ _ _ _ _ (am_z0 _ _) (am_z0 _ _) hl hw hS)
    · cases h
  · -- lload
    rename_i k
    obtain rfl := hln rfl
    split at h
    · rename_i x hx1
      obtain rfl := am_nx_inj h
      exact lv_lload hx hb hdc (hl.at hx1) (hk _ _ _ _ _ (am_z0 _ _) (am_z0 _ _) hl hw hS)
    · cases h
  · -- lload_n
    rename_i k
    obtain rfl := hln rfl
    split at h
    · rename_i x hx1
      obtain rfl := am_nx_inj h
      exact lv_lload_n hx hb hdc rfl (hl.at hx1) (hk _ _ _ _ _ (am_z0 _ _) (am_z0 _ _) hl hw hS)
    · cases h
  · -- dload
    rename_i k
    obtain rfl := hln rfl
    split at h
    · rename_i x hx1
      obtain rfl := am_nx_inj h
      exact lv_dload hx hb hdc (hl.at hx1) (hk _ _ _ _ _ (am_z0 _ _) (am_z0 _ _) hl hw hS)
    · cases h
  · -- aload
    rename_i k
    obtain rfl := hln rfl
    split at h
    · rename_i x hx1
      obtain rfl := am_nx_inj h
      exact lv_aload hx hb hdc (hl.at hx1) (hk _ _ _ _ _ (am_z0 _ _) (am_z0 _ _) hl hw hS)
    · rename_i hx1
      obtain rfl := am_nx_inj h
      exact lv_aloadN hx hb hdc (hl.at hx1) (hk _ _ _ _ _ (am_z0 _ _) (am_z0 _ _) hl hw hS)
    · cases h
  · -- aload_n
    rename_i k
    obtain rfl := hln rfl
    split at h
    · rename_i x hx1
      obtain rfl := am_nx_inj h
      exact lv_aload_n hx hb hdc rfl (hl.at hx1) (hk _ _ _ _ _ (am_z0 _ _) (am_z0 _ _) hl hw hS)
    · rename_i hx1
      obtain rfl := am_nx_inj h
      exact lv_aload_nN hx hb hdc rfl (hl.at hx1) (hk _ _ _ _ _ (am_z0 _ _) (am_z0 _ _) hl hw hS)
    · cases h
  · -- istore
    rename_i k
    obtain rfl := hln rfl
    split at h
    · rename_i x r
      obtain ⟨l1, h1, h⟩ := Option.bind_eq_some_iff.mp h
      obtain rfl := am_nx_inj h
      obtain ⟨hn, h2⟩ := am_LH.s1 hl.1 h1
      exact lv_istore hx hb hdc hl.2 hn rfl (fun ls1 hh => hk _ _ _ _ _ (am_z0 _ _) (am_z0 _ _) (h2 _ hh) hw hS)
    · cases h
  · -- istore_n
    rename_i k
    obtain rfl := hln rfl
    split at h
    · rename_i x r
      obtain ⟨l1, h1, h⟩ := Option.bind_eq_some_iff.mp h
      obtain rfl := am_nx_inj h
      obtain ⟨hn, h2⟩ := am_LH.s1 hl.1 h1
      exact lv_istore_n hx hb hdc rfl hl.2 hn rfl (fun ls1 hh => hk _ _ _ _ _ (am_z0 _ _) (am_z0 _ _) (h2 _ hh) hw hS)
    · cases h
  · -- lstore
    rename_i k
    obtain rfl := hln rfl
    split at h
    · rename_i x r
      obtain ⟨l1, h1, h⟩ := Option.bind_eq_some_iff.mp h
      obtain rfl := am_nx_inj h
      obtain ⟨hn, h2⟩ := am_LH.s2 hl.1 h1
      exact lv_lstore hx hb hdc hl.2 hn rfl (fun ls1 hh => hk _ _ _ _ _ (am_z0 _ _) (am_z0 _ _) (h2 _ hh) hw hS)
    · cases h
  · -- lstore_n
    rename_i k
    obtain rfl := hln rfl
    split at h
    · rename_i x r
      obtain ⟨l1, h1, h⟩ := Option.bind_eq_some_iff.mp h
      obtain rfl := am_nx_inj h
      obtain ⟨hn, h2⟩ := am_LH.s2 hl.1 h1
      exact lv_lstore_n hx hb hdc rfl hl.2 hn rfl (fun ls1 hh => hk _ _ _ _ _ (am_z0 _ _) (am_z0 _ _) (h2 _ hh) hw hS)
    · cases h
  · -- dstore
    rename_i k
    obtain rfl := hln rfl
    split at h
    · rename_i x r
      obtain ⟨l1, h1, h⟩ := Option.bind_eq_some_iff.mp h
      obtain rfl := am_nx_inj h
      obtain ⟨hn, h2⟩ := am_LH.s2 hl.1 h1
      exact lv_dstore hx hb hdc hl.2 hn rfl (fun ls1 hh => hk _ _ _ _ _ (am_z0 _ _) (am_z0 _ _) (h2 _ hh) hw hS)
    · cases h
  · -- astore
    rename_i k
    obtain rfl := hln rfl
    split at h
    · rename_i x r
      obtain ⟨l1, h1, h⟩ := Option.bind_eq_some_iff.mp h
      obtain rfl := am_nx_inj h
      obtain ⟨hn, h2⟩ := am_LH.s1 hl.1 h1
      exact lv_astore hx hb hdc hl.2 hn rfl (fun ls1 hh => hk _ _ _ _ _ (am_z0 _ _) (am_z0 _ _) (h2 _ hh) hw hS)
    · rename_i r
      obtain ⟨l1, h1, h⟩ := Option.bind_eq_some_iff.mp h
      obtain rfl := am_nx_inj h
      obtain ⟨hn, h2⟩ := am_LH.s1 hl.1 h1
      exact lv_astoreN hx hb hdc hl.2 hn rfl (fun ls1 hh => hk _ _ _ _ _ (am_z0 _ _) (am_z0 _ _) (h2 _ hh) hw hS)
    · cases h
  · -- astore_n
    rename_i k
    obtain rfl := hln rfl
    split at h
    · rename_i x r
      obtain ⟨l1, h1, h⟩ := Option.bind_eq_some_iff.mp h
      obtain rfl := am_nx_inj h
      obtain ⟨hn, h2⟩ := am_LH.s1 hl.1 h1
      exact lv_astore_n hx hb hdc rfl hl.2 hn rfl (fun ls1 hh => hk _ _ _ _ _ (am_z0 _ _) (am_z0 _ _) (h2 _ hh) hw hS)
    · rename_i r
      obtain ⟨l1, h1, h⟩ := Option.bind_eq_some_iff.mp h
      obtain rfl := am_nx_inj h
      obtain ⟨hn, h2⟩ := am_LH.s1 hl.1 h1
      exact lv_astore_nN hx hb hdc rfl hl.2 hn rfl (fun ls1 hh => hk _ _ _ _ _ (am_z0 _ _) (am_z0 _ _) (h2 _ hh) hw hS)
    · cases h
  · -- iinc
    rename_i k n
    obtain rfl := hln rfl
    split at h
    · rename_i x hx1
      obtain ⟨l1, h1, h⟩ := Option.bind_eq_some_iff.mp h
      obtain rfl := am_nx_inj h
      obtain ⟨hn, h2⟩ := am_LH.s1 hl.1 h1
      have hm : (k, Value.int x) ∈ am_al 0 ls := (am_al_mem ls 0 k _).mpr ⟨Nat.zero_le _, by
        unfold am_at at hx1
        split at hx1
        · rename_i u hu; rw [Nat.sub_zero, hu]; rw [Option.some.inj hx1]
        · cases hx1⟩
      obtain ⟨j, hj⟩ := List.getElem?_of_mem hm
      exact lv_iinc hx hb hdc hl.2 hj rfl hn rfl (fun ls1 hh => hk _ _ _ _ _ (am_z0 _ _) (am_z0 _ _) (h2 _ hh) hw hS)
    · cases h
  · -- iadd
    obtain rfl := hln rfl
    split at h
    · obtain rfl := am_nx_inj h
      exact lv_iadd hx hb hdc (hk _ _ _ _ _ (am_z0 _ _) (am_z0 _ _) hl hw hS)
    · cases h
  · -- isub
    obtain rfl := hln rfl
    split at h
    · obtain rfl := am_nx_inj h
      exact lv_isub hx hb hdc (hk _ _ _ _ _ (am_z0 _ _) (am_z0 _ _) hl hw hS)
    · cases h
  · -- imul
    obtain rfl := hln rfl
    split at h
    · obtain rfl := am_nx_inj h
      exact lv_imul hx hb hdc (hk _ _ _ _ _ (am_z0 _ _) (am_z0 _ _) hl hw hS)
    · cases h
  · -- idiv
    obtain rfl := hln rfl
    split at h
    · split at h
      · cases h
      · rename_i hne
        obtain rfl := am_nx_inj h
        exact lv_idiv hx hb hdc hne (hk _ _ _ _ _ (am_z0 _ _) (am_z0 _ _) hl hw hS)
    · cases h
  · -- irem
    obtain rfl := hln rfl
    split at h
    · split at h
      · cases h
      · rename_i hne
        obtain rfl := am_nx_inj h
        exact lv_irem hx hb hdc hne (hk _ _ _ _ _ (am_z0 _ _) (am_z0 _ _) hl hw hS)
    · cases h
  · -- ineg
    obtain rfl := hln rfl
    split at h
    · obtain rfl := am_nx_inj h
      exact lv_ineg hx hb hdc (hk _ _ _ _ _ (am_z0 _ _) (am_z0 _ _) hl hw hS)
    · cases h
  · -- iand
    obtain rfl := hln rfl
    split at h
    · obtain rfl := am_nx_inj h
      exact lv_iand hx hb hdc (hk _ _ _ _ _ (am_z0 _ _) (am_z0 _ _) hl hw hS)
    · cases h
  · -- ior
    obtain rfl := hln rfl
    split at h
    · obtain rfl := am_nx_inj h
      exact lv_ior hx hb hdc (hk _ _ _ _ _ (am_z0 _ _) (am_z0 _ _) hl hw hS)
    · cases h
  · -- ixor
    obtain rfl := hln rfl
    split at h
    · obtain rfl := am_nx_inj h
      exact lv_ixor hx hb hdc (hk _ _ _ _ _ (am_z0 _ _) (am_z0 _ _) hl hw hS)
    · cases h
  · -- ishl
    obtain rfl := hln rfl
    split at h
    · obtain rfl := am_nx_inj h
      exact lv_ishl hx hb hdc (hk _ _ _ _ _ (am_z0 _ _) (am_z0 _ _) hl hw hS)
    · cases h
  · -- ishr
    obtain rfl := hln rfl
    split at h
    · obtain rfl := am_nx_inj h
      exact lv_ishr hx hb hdc (hk _ _ _ _ _ (am_z0 _ _) (am_z0 _ _) hl hw hS)
    · cases h
  · -- iushr
    obtain rfl := hln rfl
    split at h
    · obtain rfl := am_nx_inj h
      exact lv_iushr hx hb hdc rfl (hk _ _ _ _ _ (am_z0 _ _) (am_z0 _ _) hl hw hS)
    · cases h
  · -- ladd
    obtain rfl := hln rfl
    split at h
    · obtain rfl := am_nx_inj h
      exact lv_ladd hx hb hdc (hk _ _ _ _ _ (am_z0 _ _) (am_z0 _ _) hl hw hS)
    · cases h
  · -- lsub
    obtain rfl := hln rfl
    split at h
    · obtain rfl := am_nx_inj h
      exact lv_lsub hx hb hdc (hk _ _ _ _ _ (am_z0 _ _) (am_z0 _ _) hl hw hS)
    · cases h
  · -- lmul
    obtain rfl := hln rfl
    split at h
    · obtain rfl := am_nx_inj h
      exact lv_lmul hx hb hdc (hk _ _ _ _ _ (am_z0 _ _) (am_z0 _ _) hl hw hS)
    · cases h
  · -- land
    obtain rfl := hln rfl
    split at h
    · obtain rfl := am_nx_inj h
      exact lv_land hx hb hdc (hk _ _ _ _ _ (am_z0 _ _) (am_z0 _ _) hl hw hS)
    · cases h
  · -- lor
    obtain rfl := hln rfl
    split at h
    · obtain rfl := am_nx_inj h
      exact lv_lor hx hb hdc (hk _ _ _ _ _ (am_z0 _ _) (am_z0 _ _) hl hw hS)
    · cases h
  · -- lxor
    obtain rfl := hln rfl
    split at h
    · obtain rfl := am_nx_inj h
      exact lv_lxor hx hb hdc (hk _ _ _ _ _ (am_z0 _ _) (am_z0 _ _) hl hw hS)
    · cases h
  · -- lshl
    obtain rfl := hln rfl
    split at h
    · obtain rfl := am_nx_inj h
      exact lv_lshl hx hb hdc rfl (hk _ _ _ _ _ (am_z0 _ _) (am_z0 _ _) hl hw hS)
    · cases h
  · -- lushr
    obtain rfl := hln rfl
    split at h
    · obtain rfl := am_nx_inj h
      exact lv_lushr hx hb hdc rfl (hk _ _ _ _ _ (am_z0 _ _) (am_z0 _ _) hl hw hS)
    · cases h
  · -- lcmp
    obtain rfl := hln rfl
    split at h
    · obtain rfl := am_nx_inj h
      exact W.lcmp hx hb hdc (hk _ _ _ _ _ (am_z0 _ _) (am_z0 _ _) hl hw hS)
    · cases h
  · -- i2l
    obtain rfl := hln rfl
    split at h
    · obtain rfl := am_nx_inj h
      exact lv_i2l hx hb hdc rfl (hk _ _ _ _ _ (am_z0 _ _) (am_z0 _ _) hl hw hS)
    · cases h
  · -- l2i
    obtain rfl := hln rfl
    split at h
    · obtain rfl := am_nx_inj h
      exact lv_l2i hx hb hdc rfl (hk _ _ _ _ _ (am_z0 _ _) (am_z0 _ _) hl hw hS)
    · cases h
  · -- i2b
    obtain rfl := hln rfl
    split at h
    · obtain rfl := am_nx_inj h
      exact lv_i2b hx hb hdc rfl (hk _ _ _ _ _ (am_z0 _ _) (am_z0 _ _) hl hw hS)
    · cases h
  · -- i2c
    obtain rfl := hln rfl
    split at h
    · obtain rfl := am_nx_inj h
      exact lv_i2c hx hb hdc rfl (hk _ _ _ _ _ (am_z0 _ _) (am_z0 _ _) hl hw hS)
    · cases h
  · -- i2d
    obtain rfl := hln rfl
    split at h
    · obtain rfl := am_nx_inj h
      exact lv_i2d hx hb hdc (hk _ _ _ _ _ (am_z0 _ _) (am_z0 _ _) hl hw hS)
    · cases h
  · -- d2l
    obtain rfl := hln rfl
    split at h
    · obtain rfl := am_nx_inj h
      exact lv_d2l hx hb hdc (hk _ _ _ _ _ (am_z0 _ _) (am_z0 _ _) hl hw hS)
    · cases h
  · -- ddiv
    obtain rfl := hln rfl
    split at h
    · split at h
      · rename_i hne
        obtain rfl := am_nx_inj h
        exact lv_ddiv hx hb hdc hne (hk _ _ _ _ _ (am_z0 _ _) (am_z0 _ _) hl hw hS)
      · cases h
    · cases h
  · -- dmul
    obtain rfl := hln rfl
    split at h
    · split at h
      · rename_i hne
        obtain rfl := am_nx_inj h
        exact lv_dmul hx hb hdc hne (hk _ _ _ _ _ (am_z0 _ _) (am_z0 _ _) hl hw hS)
      · cases h
    · cases h
  · -- dcmp
    rename_i o
    obtain rfl := hln rfl
    split at h
    · obtain rfl := am_nx_inj h
      exact lv_dcmp hx hb hdc (hk _ _ _ _ _ (am_z0 _ _) (am_z0 _ _) hl hw hS)
    · cases h
  · -- dup
    obtain rfl := hln rfl
    split at h
    · split at h
      · cases h
      · rename_i hv
        obtain rfl := am_nx_inj h
        exact lv_dup hx hb hdc (am_c2_one hv) (hk _ _ _ _ _ (am_z0 _ _) (am_z0 _ _) hl hw hS)
    · cases h
  · -- dup_x1
    obtain rfl := hln rfl
    split at h
    · split at h
      · cases h
      · rename_i hv
        obtain rfl := am_nx_inj h
        exact lv_dup_x1 hx hb hdc (am_c2_one (fun q => hv (Or.inl q))) (am_c2_one (fun q => hv (Or.inr q))) (hk _ _ _ _ _ (am_z0 _ _) (am_z0 _ _) hl hw hS)
    · cases h
  · -- dup2
    obtain rfl := hln rfl
    split at h
    · split at h
      · rename_i hv
        obtain rfl := am_nx_inj h
        exact lv_dup2_2 hx hb hdc ((am_c2_cat _).mp hv) (hk _ _ _ _ _ (am_z0 _ _) (am_z0 _ _) hl hw hS)
      · split at h
        · cases h
        · rename_i hv hu
          obtain rfl := am_nx_inj h
          exact lv_dup2_11 hx hb hdc (am_c2_one hv) (am_c2_one hu) (hk _ _ _ _ _ (am_z0 _ _) (am_z0 _ _) hl hw hS)
    · cases h
  · -- pop
    obtain rfl := hln rfl
    split at h
    · split at h
      · cases h
      · rename_i hv
        obtain rfl := am_nx_inj h
        exact lv_pop hx hb hdc (am_c2_one hv) (hk _ _ _ _ _ (am_z0 _ _) (am_z0 _ _) hl hw hS)
    · cases h
  · -- pop2
    obtain rfl := hln rfl
    split at h
    · split at h
      · rename_i hv
        obtain rfl := am_nx_inj h
        exact lv_pop2_2 hx hb hdc ((am_c2_cat _).mp hv) (hk _ _ _ _ _ (am_z0 _ _) (am_z0 _ _) hl hw hS)
      · cases h
    · cases h
  · -- goto
    rename_i o
    obtain rfl := hln rfl
    obtain ⟨t, h1, h⟩ := Option.bind_eq_some_iff.mp h
    obtain rfl := am_nx_inj h
    exact lv_goto hx hb hdc (am_tg_inj h1) (hk _ _ _ _ _ (am_z0 _ _) (am_z0 _ _) hl hw hS)
  · -- ifCond
    rename_i cc o
    obtain rfl := hln rfl
    split at h
    · rename_i x r
      obtain ⟨t, ht, rfl⟩ := am_br_inj (by simpa [am_lj] using hlj) h
      cases cc
      · refine lv_if_eq hx hb hdc ht (fun hc => ?_) (fun hc => ?_)
        · have hk1 := hk _ _ _ _ _ (am_z0 _ _) (am_z0 _ _) hl hw hS
          dsimp only at hk1
          rw [if_pos (by simp [am_cd, hc])] at hk1
          exact hk1
        · have hk1 := hk _ _ _ _ _ (am_z0 _ _) (am_z0 _ _) hl hw hS
          dsimp only at hk1
          rw [if_neg (by simpa [am_cd] using hc)] at hk1
          exact hk1
      · refine lv_if_ne hx hb hdc ht (fun hc => ?_) (fun hc => ?_)
        · have hk1 := hk _ _ _ _ _ (am_z0 _ _) (am_z0 _ _) hl hw hS
          dsimp only at hk1
          rw [if_pos (by simp [am_cd, hc])] at hk1
          exact hk1
        · have hk1 := hk _ _ _ _ _ (am_z0 _ _) (am_z0 _ _) hl hw hS
          dsimp only at hk1
          rw [if_neg (by simpa [am_cd] using hc)] at hk1
          exact hk1
      · refine lv_if_lt hx hb hdc ht (fun hc => ?_) (fun hc => ?_)
        · have hk1 := hk _ _ _ _ _ (am_z0 _ _) (am_z0 _ _) hl hw hS
          dsimp only at hk1
          rw [if_pos (by simp [am_cd, hc])] at hk1
          exact hk1
        · have hk1 := hk _ _ _ _ _ (am_z0 _ _) (am_z0 _ _) hl hw hS
          dsimp only at hk1
          rw [if_neg (by simpa [am_cd] using hc)] at hk1
          exact hk1
      · refine lv_if_ge hx hb hdc ht (fun hc => ?_) (fun hc => ?_)
        · have hk1 := hk _ _ _ _ _ (am_z0 _ _) (am_z0 _ _) hl hw hS
          dsimp only at hk1
          rw [if_pos (by simp [am_cd, hc])] at hk1
          exact hk1
        · have hk1 := hk _ _ _ _ _ (am_z0 _ _) (am_z0 _ _) hl hw hS
          dsimp only at hk1
          rw [if_neg (by simpa [am_cd] using hc)] at hk1
          exact hk1
      · refine lv_if_gt hx hb hdc ht (fun hc => ?_) (fun hc => ?_)
        · have hk1 := hk _ _ _ _ _ (am_z0 _ _) (am_z0 _ _) hl hw hS
          dsimp only at hk1
          rw [if_pos (by simp [am_cd, hc])] at hk1
          exact hk1
        · have hk1 := hk _ _ _ _ _ (am_z0 _ _) (am_z0 _ _) hl hw hS
          dsimp only at hk1
          rw [if_neg (by simpa [am_cd] using hc)] at hk1
          exact hk1
      · refine lv_if_le hx hb hdc ht (fun hc => ?_) (fun hc => ?_)
        · have hk1 := hk _ _ _ _ _ (am_z0 _ _) (am_z0 _ _) hl hw hS
          dsimp only at hk1
          rw [if_pos (by simp [am_cd, hc])] at hk1
          exact hk1
        · have hk1 := hk _ _ _ _ _ (am_z0 _ _) (am_z0 _ _) hl hw hS
          dsimp only at hk1
          rw [if_neg (by simpa [am_cd] using hc)] at hk1
          exact hk1
    · cases h
  · -- if_icmp
    rename_i cc o
    obtain rfl := hln rfl
    split at h
    · rename_i y1 x r
      obtain ⟨t, ht, rfl⟩ := am_br_inj (by simpa [am_lj] using hlj) h
      cases cc
      · refine lv_icmp_eq hx hb hdc ht (fun hc => ?_) (fun hc => ?_)
        · have hk1 := hk _ _ _ _ _ (am_z0 _ _) (am_z0 _ _) hl hw hS
          dsimp only at hk1
          rw [if_pos (by simp [am_cd, hc])] at hk1
          exact hk1
        · have hk1 := hk _ _ _ _ _ (am_z0 _ _) (am_z0 _ _) hl hw hS
          dsimp only at hk1
          rw [if_neg (by simpa [am_cd] using hc)] at hk1
          exact hk1
      · refine lv_icmp_ne hx hb hdc ht (fun hc => ?_) (fun hc => ?_)
        · have hk1 := hk _ _ _ _ _ (am_z0 _ _) (am_z0 _ _) hl hw hS
          dsimp only at hk1
          rw [if_pos (by simp [am_cd, hc])] at hk1
          exact hk1
        · have hk1 := hk _ _ _ _ _ (am_z0 _ _) (am_z0 _ _) hl hw hS
          dsimp only at hk1
          rw [if_neg (by simpa [am_cd] using hc)] at hk1
          exact hk1
      · refine lv_icmp_lt hx hb hdc ht (fun hc => ?_) (fun hc => ?_)
        · have hk1 := hk _ _ _ _ _ (am_z0 _ _) (am_z0 _ _) hl hw hS
          dsimp only at hk1
          rw [if_pos (by simp [am_cd, hc])] at hk1
          exact hk1
        · have hk1 := hk _ _ _ _ _ (am_z0 _ _) (am_z0 _ _) hl hw hS
          dsimp only at hk1
          rw [if_neg (by simpa [am_cd] using hc)] at hk1
          exact hk1
      · refine lv_icmp_ge hx hb hdc ht (fun hc => ?_) (fun hc => ?_)
        · have hk1 := hk _ _ _ _ _ (am_z0 _ _) (am_z0 _ _) hl hw hS
          dsimp only at hk1
          rw [if_pos (by simp [am_cd, hc])] at hk1
          exact hk1
        · have hk1 := hk _ _ _ _ _ (am_z0 _ _) (am_z0 _ _) hl hw hS
          dsimp only at hk1
          rw [if_neg (by simpa [am_cd] using hc)] at hk1
          exact hk1
      · refine lv_icmp_gt hx hb hdc ht (fun hc => ?_) (fun hc => ?_)
        · have hk1 := hk _ _ _ _ _ (am_z0 _ _) (am_z0 _ _) hl hw hS
          dsimp only at hk1
          rw [if_pos (by simp [am_cd, hc])] at hk1
          exact hk1
        · have hk1 := hk _ _ _ _ _ (am_z0 _ _) (am_z0 _ _) hl hw hS
          dsimp only at hk1
          rw [if_neg (by simpa [am_cd] using hc)] at hk1
          exact hk1
      · refine lv_icmp_le hx hb hdc ht (fun hc => ?_) (fun hc => ?_)
        · have hk1 := hk _ _ _ _ _ (am_z0 _ _) (am_z0 _ _) hl hw hS
          dsimp only at hk1
          rw [if_pos (by simp [am_cd, hc])] at hk1
          exact hk1
        · have hk1 := hk _ _ _ _ _ (am_z0 _ _) (am_z0 _ _) hl hw hS
          dsimp only at hk1
          rw [if_neg (by simpa [am_cd] using hc)] at hk1
          exact hk1
    · cases h
  · -- if_acmp
    rename_i cc o
    obtain rfl := hln rfl
    split at h
    · rename_i y1 x r
      obtain ⟨t, ht, rfl⟩ := am_br_inj (by simpa [am_lj] using hlj) h
      cases cc
      · refine lv_acmp_eq (rx := some x) (ry := some y1) hx hb hdc ht (fun hc => ?_) (fun hc => ?_)
        · have hk1 := hk _ _ _ _ _ (am_z0 _ _) (am_z0 _ _) hl hw hS
          dsimp only at hk1
          rw [if_pos (by simpa using hc)] at hk1
          exact hk1
        · have hk1 := hk _ _ _ _ _ (am_z0 _ _) (am_z0 _ _) hl hw hS
          dsimp only at hk1
          rw [if_neg (by simpa using hc)] at hk1
          exact hk1
      · refine lv_acmp_ne (rx := some x) (ry := some y1) hx hb hdc ht (fun hc => ?_) (fun hc => ?_)
        · have hk1 := hk _ _ _ _ _ (am_z0 _ _) (am_z0 _ _) hl hw hS
          dsimp only at hk1
          rw [if_pos (by simpa using hc)] at hk1
          exact hk1
        · have hk1 := hk _ _ _ _ _ (am_z0 _ _) (am_z0 _ _) hl hw hS
          dsimp only at hk1
          rw [if_neg (by simpa using hc)] at hk1
          exact hk1
    · cases h
  · -- ifnull
    rename_i o
    obtain rfl := hln rfl
    split at h
    · obtain rfl := am_nx_inj h
      exact lv_ifnull hx hb hdc (hk _ _ _ _ _ (am_z0 _ _) (am_z0 _ _) hl hw hS)
    · obtain ⟨t, h1, h⟩ := Option.bind_eq_some_iff.mp h
      obtain rfl := am_nx_inj h
      exact lv_ifnullN hx hb hdc (am_tg_inj h1) (hk _ _ _ _ _ (am_z0 _ _) (am_z0 _ _) hl hw hS)
    · cases h
  · -- ifnonnull
    rename_i o
    obtain rfl := hln rfl
    split at h
    · obtain ⟨t, h1, h⟩ := Option.bind_eq_some_iff.mp h
      obtain rfl := am_nx_inj h
      exact lv_ifnonnull hx hb hdc (am_tg_inj h1) (hk _ _ _ _ _ (am_z0 _ _) (am_z0 _ _) hl hw hS)
    · obtain rfl := am_nx_inj h
      exact lv_ifnonnullN hx hb hdc (hk _ _ _ _ _ (am_z0 _ _) (am_z0 _ _) hl hw hS)
    · cases h
  · -- lookupswitch
    rename_i d ps
    split at h
    · split at h
      · rename_i x r hp
        obtain ⟨t, h1, h⟩ := Option.bind_eq_some_iff.mp h
        obtain rfl := am_nx_inj h
        exact lv_lookup hx hb hdc hp (am_sw_lk _ _ _) (am_tg_inj h1) (hk _ _ _ _ _ (am_z0 _ _) (am_z0 _ _) hl hw hS)
      · cases h
    · cases h
  · -- tableswitch
    rename_i d lo hi os
    split at h
    · split at h
      · rename_i x r hp
        obtain ⟨t, h1, h⟩ := Option.bind_eq_some_iff.mp h
        obtain rfl := am_nx_inj h
        obtain ⟨g1, g2⟩ := am_sw_tb x d os.toList lo 0
        have hz : os.toList.length = os.size := Array.length_toList
        rw [hz] at g1 g2
        simp only [Int.natCast_zero, Int.add_zero, Int.ofNat_zero] at g1 g2
        by_cases ho : x.toInt < lo ∨ hi < x.toInt
        · rw [g1 (by omega)] at h1
          exact lv_tableOut hx hb hdc ho (am_tg_inj h1) (hk _ _ _ _ _ (am_z0 _ _) (am_z0 _ _) hl hw hS)
        · obtain ⟨off, ho1, ho2⟩ := g2 (by omega) (by omega)
          rw [ho2] at h1
          exact lv_tableIn hx hb hdc (fun q => ho (Or.inl q)) (fun q => ho (Or.inr q)) (by rw [← Array.getElem?_toList]; exact ho1) (am_tg_inj h1) (hk _ _ _ _ _ (am_z0 _ _) (am_z0 _ _) hl hw hS)
      · cases h
    · cases h
  · -- getfield
    rename_i x
    obtain rfl := hln rfl
    split at h
    · rename_i k0 ci k r0
      split at h
      · rename_i a0 r
        obtain ⟨v, h1, h⟩ := Option.bind_eq_some_iff.mp h
        obtain rfl := am_nx_inj h
        cases r0 with
        | nil => simp [am_lk] at hlk
        | cons q9 r9 =>
          exact am_h_get C1 (show am_lf (am_ow y) x ci k q9 r9 = true from hlk) hdc h1 hw hS (hk _ _ _ _ _ (am_z0 _ _) (am_z0 _ _) hl hw hS)
      · cases h
    · cases h
  · -- putfield
    rename_i x
    obtain rfl := hln rfl
    split at h
    · rename_i k0 ci k r0
      split at h
      · rename_i v a0 r
        split at h
        · rename_i hok
          obtain ⟨w1, h1, h⟩ := Option.bind_eq_some_iff.mp h
          obtain rfl := am_nx_inj h
          cases r0 with
          | nil => simp [am_lk] at hlk
          | cons q9 r9 =>
            have hlk : (am_lf (am_ow y) x ci k q9 r9 && am_lp y ci k x q9 && decide (ci < 12)) = true := hlk
            simp only [Bool.and_eq_true] at hlk
            have hge : w1.2 = w.2 := am_pf_ge h1
            exact am_h_put C1 hlk.1.1 hlk.1.2 hdc hok h1 hw hS (fun H2 l2 hw2 hS2 => hk _ _ _ _ _ (by show _ = _ + (w1.2.1 - w.2.1); rw [hge]; exact am_z0 _ _) (by show _ = _ + (w1.2.2.1 - w.2.2.1); rw [hge]; exact am_z0 _ _) hl hw2 hS2)
        · cases h
      · cases h
    · cases h
  · -- getstatic
    rename_i x
    obtain rfl := hln rfl
    split at h
    · rename_i n r
      obtain rfl := am_nx_inj h
      cases r with
      | nil => simp [am_lk] at hlk
      | cons q9 r9 =>
        have hlk : am_stati.any (fun z => decide (z.2.2.2 = n) && am_lw (.fieldLink (am_ow y) x z.1 z.2.1 z.2.2.1) q9) = true := hlk
        obtain ⟨z, hz, h1⟩ := List.any_eq_true.mp hlk
        simp only [Bool.and_eq_true, decide_eq_true_eq] at h1
        obtain ⟨rfl, h1⟩ := h1
        exact va_gets hx hb (hsti z hz) hS hown (hts _ (am_lw_ok h1)) (fun _ h9 => h9) hdc (hk _ _ _ _ _ (am_z0 _ _) (am_z0 _ _) hl hw hS)
    · rename_i k r
      obtain rfl := am_nx_inj h
      cases r with
      | nil => simp [am_lk] at hlk
      | cons q9 r9 =>
        have hlk : am_stats.any (fun z => decide (z.1 = k) && am_lw (.fieldLink (am_ow y) x z.2.1 z.2.2.1 z.2.2.2) q9) = true := hlk
        obtain ⟨z, hz, h1⟩ := List.any_eq_true.mp hlk
        simp only [Bool.and_eq_true, decide_eq_true_eq] at h1
        obtain ⟨rfl, h1⟩ := h1
        have hk9 := hk _ _ _ _ _ (am_z0 _ _) (am_z0 _ _) hl hw hS
        dsimp only at hk9
        rw [hw.2.1] at hk9
        exact va_gets hx hb (hsts z hz) hS hown (hts _ (am_lw_ok h1)) (fun _ h9 => h9) hdc hk9
    · cases h
  · -- iaload
    obtain rfl := hln rfl
    split at h
    · rename_i i a0 r
      obtain ⟨v, h1, h⟩ := Option.bind_eq_some_iff.mp h
      obtain rfl := am_nx_inj h
      exact am_h_ri C1 hdc h1 hw hS (hk _ _ _ _ _ (am_z0 _ _) (am_z0 _ _) hl hw hS)
    · cases h
  · -- baload
    obtain rfl := hln rfl
    split at h
    · rename_i t r0
      split at h
      · rename_i i a0 r
        obtain ⟨v, h1, h⟩ := Option.bind_eq_some_iff.mp h
        obtain rfl := am_nx_inj h
        have hlk : decide (t = 2 ∨ t = 3) = true := hlk
        exact am_h_rb C1 hdc (of_decide_eq_true hlk) h1 hw hS (hk _ _ _ _ _ (am_z0 _ _) (am_z0 _ _) hl hw hS)
      · cases h
    · cases h
  · -- laload
    obtain rfl := hln rfl
    split at h
    · rename_i i a0 r
      obtain ⟨v, h1, h⟩ := Option.bind_eq_some_iff.mp h
      obtain rfl := am_nx_inj h
      exact am_h_rl C1 hdc h1 hw (hk _ _ _ _ _ (am_z0 _ _) (am_z0 _ _) hl hw hS)
    · cases h
  · -- aaload
    obtain rfl := hln rfl
    split at h
    · rename_i i a0 r
      obtain ⟨v, h1, h⟩ := Option.bind_eq_some_iff.mp h
      obtain rfl := am_nx_inj h
      exact am_h_rq C1 hdc h1 hw (hk _ _ _ _ _ (am_z0 _ _) (am_z0 _ _) hl hw hS)
    · cases h
  · -- iastore
    obtain rfl := hln rfl
    split at h
    · rename_i x i a0 r
      obtain ⟨w1, h1, h⟩ := Option.bind_eq_some_iff.mp h
      obtain rfl := am_nx_inj h
      have hge : w1.2 = w.2 := am_wi_ge h1
      exact am_h_wi C1 hdc h1 hw hS (fun H2 l2 hw2 hS2 => hk _ _ _ _ _ (by show _ = _ + (w1.2.1 - w.2.1); rw [hge]; exact am_z0 _ _) (by show _ = _ + (w1.2.2.1 - w.2.2.1); rw [hge]; exact am_z0 _ _) hl hw2 hS2)
    · cases h
  · -- bastore
    obtain rfl := hln rfl
    split at h
    · rename_i t r0
      split at h
      · rename_i x i a0 r
        obtain ⟨w1, h1, h⟩ := Option.bind_eq_some_iff.mp h
        obtain rfl := am_nx_inj h
        have hge : w1.2 = w.2 := am_wi_ge h1
        have hlk : decide (t = 2 ∨ t = 3) = true := hlk
        exact am_h_wb C1 hdc (of_decide_eq_true hlk) h1 hw hS (fun H2 l2 hw2 hS2 => hk _ _ _ _ _ (by show _ = _ + (w1.2.1 - w.2.1); rw [hge]; exact am_z0 _ _) (by show _ = _ + (w1.2.2.1 - w.2.2.1); rw [hge]; exact am_z0 _ _) hl hw2 hS2)
      · cases h
    · cases h
  · -- lastore
    obtain rfl := hln rfl
    split at h
    · rename_i x i a0 r
      obtain ⟨w1, h1, h⟩ := Option.bind_eq_some_iff.mp h
      obtain rfl := am_nx_inj h
      have hge : w1.2 = w.2 := am_wl_ge h1
      exact am_h_wl C1 hdc h1 hw hS (fun H2 l2 hw2 hS2 => hk _ _ _ _ _ (by show _ = _ + (w1.2.1 - w.2.1); rw [hge]; exact am_z0 _ _) (by show _ = _ + (w1.2.2.1 - w.2.2.1); rw [hge]; exact am_z0 _ _) hl hw2 hS2)
    · cases h
  · -- aastore
    obtain rfl := hln rfl
    split at h
    · rename_i t ci r0
      split at h
      · rename_i b0 i a0 r
        obtain ⟨w1, h1, h⟩ := Option.bind_eq_some_iff.mp h
        obtain rfl := am_nx_inj h
        have hge : w1.2 = w.2 := am_wq_ge h1
        cases r0 with
        | nil => simp [am_lk] at hlk
        | cons q9 r9 =>
          have hlk : (match am_cl[ci]? with | some (C, _, _) => decide (t = 4 ∧ C = "Bumpward$Walker") || decide (t = 5 ∧ C = "BumpwardModel$Walker" ∧ q9 = q9) | none => false) = true := hlk
          split at hlk
          · rename_i C T N hcl
            simp only [Bool.or_eq_true, Bool.and_eq_true, decide_eq_true_eq] at hlk
            have hk2 := (fun H2 l2 hw2 hS2 => hk H2 l2 lsA cells slots (by show _ = _ + (w1.2.1 - w.2.1); rw [hge]; exact am_z0 _ _) (by show _ = _ + (w1.2.2.1 - w.2.2.1); rw [hge]; exact am_z0 _ _) hl hw2 hS2)
            rcases hlk with ⟨rfl, hC⟩ | ⟨rfl, hC, -⟩
            · exact am_h_wq C1 hdc (Or.inl rfl) hcl (E := "Bumpward$Walker") rfl (Or.inl hC) h1 hw hS hk2
            · exact am_h_wq C1 hdc (Or.inr rfl) hcl (E := "java/lang/Object") rfl (Or.inr (by rw [hC]; decide)) h1 hw hS hk2
          · cases hlk
      · cases h
    · cases h
  · -- arraylength
    obtain rfl := hln rfl
    split at h
    · rename_i a0 r
      obtain ⟨v, h1, h⟩ := Option.bind_eq_some_iff.mp h
      obtain rfl := am_nx_inj h
      exact am_h_len C1 hdc h1 hw hS (hk _ _ _ _ _ (am_z0 _ _) (am_z0 _ _) hl hw hS)
    · cases h
  · -- newarray
    rename_i at1
    obtain rfl := hln rfl
    split at h
    · rename_i t r0
      split at h
      · rename_i n r
        obtain ⟨w1, h1, h⟩ := Option.bind_eq_some_iff.mp h
        obtain rfl := am_nx_inj h
        cases r0 with
        | nil => simp [am_lk] at hlk
        | cons q9 r9 =>
          have hlk : (decide (newarray.typeOf at1 = am_tyl t ∧ t < 4) && am_lw (.arrayClass (am_tyl t)) q9) = true := hlk
          simp only [Bool.and_eq_true, decide_eq_true_eq] at hlk
          exact am_h_na C1 hdc hlk.1.1 hlk.1.2 (am_lw_ok hlk.2) h1 hw hS hR (fun H2 hw2 hS2 => hk _ _ _ _ _ rfl rfl hl hw2 hS2)
      · cases h
    · cases h
  · -- anewarray
    rename_i x
    obtain rfl := hln rfl
    split at h
    · rename_i t r0
      split at h
      · rename_i n r
        obtain ⟨w1, h1, h⟩ := Option.bind_eq_some_iff.mp h
        obtain rfl := am_nx_inj h
        cases r0 with
        | nil => simp [am_lk] at hlk
        | cons q9 r9 =>
          have hlk : ((decide (t = 4) && am_lw (.classLink (am_ow y) x "Bumpward$Walker") q9) || (decide (t = 5) && am_lw (.classLink (am_ow y) x "java/lang/Object") q9)) = true := hlk
          simp only [Bool.or_eq_true, Bool.and_eq_true, decide_eq_true_eq] at hlk
          rcases hlk with ⟨rfl, h2⟩ | ⟨rfl, h2⟩
          · exact am_h_nq C1 hdc (C := "Bumpward$Walker") rfl (Or.inl rfl) (am_lw_ok h2) hO1 h1 hw hS hR (fun H2 hw2 hS2 => hk _ _ _ _ _ rfl rfl hl hw2 hS2)
          · exact am_h_nq C1 hdc (C := "java/lang/Object") rfl (Or.inr rfl) (am_lw_ok h2) hO2 h1 hw hS hR (fun H2 hw2 hS2 => hk _ _ _ _ _ rfl rfl hl hw2 hS2)
      · cases h
    · cases h
  · -- multianewarray
    rename_i x d
    obtain rfl := hln rfl
    split at h
    · rename_i k n r
      obtain ⟨w1, h1, h⟩ := Option.bind_eq_some_iff.mp h
      obtain rfl := am_nx_inj h
      have hlk : am_lkM y x d an = true := hlk
      unfold am_lkM at hlk
      split at hlk
      · rename_i q9 q8 q7 r9
        simp only [Bool.and_eq_true, decide_eq_true_eq] at hlk
        obtain ⟨⟨rfl, h2⟩, h3⟩ := hlk
        exact am_h_mn C1 hdc (am_lw_ok h2) hO3 (am_lw_ok h3) h1 hw hS hR (fun H2 hw2 hS2 => hk _ _ _ _ _ rfl rfl hl hw2 hS2)
      · cases hlk
    · cases h
  · -- new
    rename_i x
    obtain rfl := hln rfl
    split at h
    · rename_i ci n r0
      obtain rfl := am_nx_inj h
      have hlN : am_lkN y x (0 :: ci :: n :: r0) = true := hlk
      clear hlk
      unfold am_lkN at hlN
      split at hlN
      · rename_i ci1 n1 q9 q8 q7 r9 q
        simp only [List.cons.injEq, true_and] at q
        obtain ⟨rfl, rfl, rfl⟩ := q
        split at hlN
        · rename_i C T N hcl
          simp only [Bool.and_eq_true, decide_eq_true_eq] at hlN
          obtain ⟨⟨⟨⟨rfl, h12⟩, h2⟩, h3⟩, h4⟩ := hlN
          have e1 : (am_nw w (.inr (ci, am_df ci n)) n).2.1 - w.2.1 = 1 := by show w.2.1 + 1 - w.2.1 = 1; omega
          have e2 : (am_nw w (.inr (ci, am_df ci n)) n).2.2.1 - w.2.2.1 = n := by show w.2.2.1 + n - w.2.2.1 = n; omega
          dsimp only at hR hk
          rw [e1, e2] at hR hk
          exact am_h_new C1 hdc hcl h12 (am_lw_ok h2) (am_lw_ok h3) (am_lw_ok h4) hw hS hR (fun H2 hw2 hS2 => hk _ _ _ _ _ rfl rfl hl hw2 hS2)
        · cases hlN
      · rename_i q; cases q
      · cases hlN
      · exfalso; simp_all
      · exfalso; simp_all
    · split at h
      · cases h
      · cases h
    · cases h
  · -- checkcast
    rename_i x
    obtain rfl := hln rfl
    split at h
    · rename_i ci r0
      split at h
      · rename_i a0 r
        obtain ⟨u, h1, h⟩ := Option.bind_eq_some_iff.mp h
        obtain rfl := am_nx_inj h
        cases r0 with
        | nil => simp [am_lk] at hlk
        | cons q9 r9 =>
          have hlk : (match am_cl[ci]? with | some (C, _, _) => am_lw (.classLink (am_ow y) x C) q9 | none => false) = true := hlk
          split at hlk
          · rename_i C T N hcl
            exact va_castE hx hb hown (hts _ (am_lw_ok hlk)) (am_kf_rv hK hbs hS hw hcl h1) hdc (hk _ _ _ _ _ (am_z0 _ _) (am_z0 _ _) hl hw hS)
          · cases hlk
      · cases h
    · rename_i t r0
      split at h
      · rename_i a0 r
        obtain ⟨u, h1, h⟩ := Option.bind_eq_some_iff.mp h
        obtain rfl := am_nx_inj h
        cases r0 with
        | nil => simp [am_lk] at hlk
        | cons q9 r9 =>
          have hlk : (decide (t < 7) && am_lw (.classLink (am_ow y) x ("[" ++ (am_tyl t).toString)) q9) = true := hlk
          simp only [Bool.and_eq_true, decide_eq_true_eq] at hlk
          obtain ⟨t1, x1, he, ht⟩ := am_kt_ok h1
          obtain ⟨wx, k0, hP, hk0⟩ := hw.rw he (by obtain ⟨x1a, x1b⟩ := x1; simp [am_ro, ht]; omega)
          have hk1 : wx[k0]? = some (a0, .inl (dA t, x1)) := by rw [hk0, ht]; simp [am_cv, Nat.mod_eq_of_lt (show t < 8 by omega)]
          exact va_castA hx hb hown (hts _ (am_lw_ok hlk.2)) hP k0 hk1 (am_K_nm hK hlk.1) hdc (hk _ _ _ _ _ (am_z0 _ _) (am_z0 _ _) hl hw hS)
      · cases h
    · cases h
  · -- instanceof
    rename_i x
    obtain rfl := hln rfl
    split at h
    · rename_i ci r0
      split at h
      · rename_i a0 r
        obtain ⟨u, h1, h⟩ := Option.bind_eq_some_iff.mp h
        obtain rfl := am_nx_inj h
        cases r0 with
        | nil => simp [am_lk] at hlk
        | cons q9 r9 =>
          have hlk : (match am_cl[ci]? with | some (C, _, _) => am_lw (.classLink (am_ow y) x C) q9 | none => false) = true := hlk
          split at hlk
          · rename_i C T N hcl
            exact va_instE hx hb hown (hts _ (am_lw_ok hlk)) (am_kf_rv hK hbs hS hw hcl h1) hdc (hk _ _ _ _ _ (am_z0 _ _) (am_z0 _ _) hl hw hS)
          · cases hlk
      · cases h
    · cases h
  · -- invokevirtual
    rename_i x
    obtain rfl := hln rfl
    split at h
    · rename_i r0
      split at h
      · rename_i a0 r
        split at h
        · rename_i hsz8
          split at h
          · rename_i t n x1 he
            split at h
            · rename_i ht
              obtain rfl := am_nx_inj h
              have hlk : am_lkV y x (1 :: r0) = true := hlk
              unfold am_lkV at hlk
              split at hlk
              · rename_i q9 q8 q7 q6 q5 q4 r9
                simp only [Bool.and_eq_true] at hlk
                have e1 : (am_nw w (.inl (1, n, .inr (.inl x1))) n).2.1 - w.2.1 = 1 := by show w.2.1 + 1 - w.2.1 = 1; omega
                have e2 : (am_nw w (.inl (1, n, .inr (.inl x1))) n).2.2.1 - w.2.2.1 = n := by show w.2.2.1 + n - w.2.2.1 = n; omega
                dsimp only at hR hk
                rw [e1, e2] at hR hk
                exact am_h_clone C1 hsz.symm hdc hlk hsz8 he ht hw hS hR (fun H2 hw2 hS2 => hk _ _ _ _ _ rfl rfl hl hw2 hS2)
              · rename_i q; cases q
              · rename_i q; cases q
              · rename_i q; cases q
              · rename_i q; cases q
              · cases hlk
            · cases h
          · cases h
        · cases h
      · cases h
    · split at h
      · split at h
        · obtain ⟨_, _, h⟩ := Option.bind_eq_some_iff.mp h; simp at h
        · cases h
      · cases h
    · cases h
  · -- invokeinterface
    split at h
    · split at h
      · split at h
        · obtain ⟨_, _, h⟩ := Option.bind_eq_some_iff.mp h; simp at h
        · cases h
      · cases h
    · cases h
  · -- invokespecial
    rename_i x
    obtain rfl := hln rfl
    split at h
    · rename_i r0
      split at h
      · rename_i a0 r
        split at h
        · rename_i hz8
          obtain rfl := am_nx_inj h
          have hlk : am_lkP y x (1 :: r0) = true := hlk
          unfold am_lkP at hlk
          split at hlk
          · rename_i q9 q8 q7 r9
            simp only [Bool.and_eq_true] at hlk
            exact W.objInit hx hb hown (hts _ (am_lw_ok hlk.1.1)) (hts _ (am_lw_ok hlk.1.2)) (hts _ (am_lw_ok hlk.2)) rfl hsz rfl hdc (by omega) (by show 2 * 0 + am_sz r + 12 ≤ _; omega) (hk _ _ _ _ _ (am_z0 _ _) (am_z0 _ _) hl hw hS)
          · rename_i q; cases q
          · rename_i q; cases q
          · rename_i q; cases q
          · cases hlk
        · cases h
      · cases h
    · split at h
      · split at h
        · obtain ⟨_, _, h⟩ := Option.bind_eq_some_iff.mp h; simp at h
        · cases h
      · cases h
    · split at h
      · split at h
        · simp at h
        · cases h
      · cases h
    · cases h
  · -- invokestatic
    rename_i x
    obtain rfl := hln rfl
    split at h
    · split at h
      · split at h
        · rename_i hz8
          obtain rfl := am_nx_inj h
          have hlk : am_lkS y x _ = true := hlk
          unfold am_lkS at hlk
          split at hlk
          · rename_i q9 q8 q7 q6 r9
            simp only [Bool.and_eq_true] at hlk
            exact va_mmax hx hb hsz.symm hown (hts _ (am_lw_ok hlk.1.1.1)) (hts _ (am_lw_ok hlk.1.1.2)) (hts _ (am_lw_ok hlk.1.2)) (hts _ (am_lw_ok hlk.2)) (by omega) (by show am_sz _ + 13 ≤ _; omega) (by dsimp only at hR; omega) (by dsimp only at hR; omega) hdc (hk _ _ _ _ _ (am_z0 _ _) (am_z0 _ _) hl hw hS)
          · rename_i q; simp at q
          · rename_i q; simp at q
          · rename_i q; simp at q
          · rename_i q; simp at q
          · rename_i q; simp at q
          · cases hlk
        · cases h
      · cases h
    · split at h
      · split at h
        · rename_i hz8
          obtain rfl := am_nx_inj h
          have hlk : am_lkS y x _ = true := hlk
          unfold am_lkS at hlk
          split at hlk
          · rename_i q; simp at q
          · rename_i q9 q8 q7 q6 r9
            simp only [Bool.and_eq_true] at hlk
            exact va_mmin hx hb hsz.symm hown (hts _ (am_lw_ok hlk.1.1.1)) (hts _ (am_lw_ok hlk.1.1.2)) (hts _ (am_lw_ok hlk.1.2)) (hts _ (am_lw_ok hlk.2)) (by omega) (by show am_sz _ + 13 ≤ _; omega) (by dsimp only at hR; omega) (by dsimp only at hR; omega) hdc (hk _ _ _ _ _ (am_z0 _ _) (am_z0 _ _) hl hw hS)
          · rename_i q; simp at q
          · rename_i q; simp at q
          · rename_i q; simp at q
          · rename_i q; simp at q
          · cases hlk
        · cases h
      · cases h
    · split at h
      · split at h
        · rename_i hz8
          obtain rfl := am_nx_inj h
          have hlk : am_lkS y x _ = true := hlk
          unfold am_lkS at hlk
          split at hlk
          · rename_i q; simp at q
          · rename_i q; simp at q
          · rename_i q9 q8 q7 q6 r9
            simp only [Bool.and_eq_true] at hlk
            exact va_mabs hx hb hsz.symm hown (hts _ (am_lw_ok hlk.1.1.1)) (hts _ (am_lw_ok hlk.1.1.2)) (hts _ (am_lw_ok hlk.1.2)) (hts _ (am_lw_ok hlk.2)) (by omega) (by show am_sz _ + 13 ≤ _; omega) (by dsimp only at hR; omega) (by dsimp only at hR; omega) hdc (hk _ _ _ _ _ (am_z0 _ _) (am_z0 _ _) hl hw hS)
          · rename_i q; simp at q
          · rename_i q; simp at q
          · rename_i q; simp at q
          · cases hlk
        · cases h
      · cases h
    · split at h
      · split at h
        · rename_i hz8
          obtain ⟨w1, h1, h⟩ := Option.bind_eq_some_iff.mp h
          obtain rfl := am_nx_inj h
          have hge : w1.2 = w.2 := am_cy_ge h1
          have hlk : am_lkS y x _ = true := hlk
          unfold am_lkS at hlk
          split at hlk
          · rename_i q; simp at q
          · rename_i q; simp at q
          · rename_i q; simp at q
          · rename_i q9 q8 q7 q6 r9
            simp only [Bool.and_eq_true] at hlk
            exact am_h_cy C1 hsz.symm hdc hlk hz8 h1 hw hS (fun H2 l2 hw2 hS2 => hk _ _ _ _ _ (by show _ = _ + (w1.2.1 - w.2.1); rw [hge]; exact am_z0 _ _) (by show _ = _ + (w1.2.2.1 - w.2.2.1); rw [hge]; exact am_z0 _ _) hl hw2 hS2)
          · rename_i q; simp at q
          · rename_i q; simp at q
          · cases hlk
        · cases h
      · cases h
    · split at h
      · simp at h
      · cases h
    · cases h
  · -- ireturn
    split at h
    · split at h
      · split at h
        · simp at h
        · cases h
      · cases h
    · cases h
  · -- lreturn
    split at h
    · simp at h
    · cases h
  · -- dreturn
    split at h
    · simp at h
    · cases h
  · -- areturn
    split at h
    · simp at h
    · cases h
  · -- return_
    split at h
    · simp at h
    · cases h
  · cases h
end AMG
