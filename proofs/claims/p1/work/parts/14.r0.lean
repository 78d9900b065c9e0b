/-! RULES: what a run is at each place of a method, as equations. Mine (the lemmas by hand; the rest laid by wip/gen/rules.py). -/
def bj_irem (x y : Int32) : Int32 := x - x / y * y
def bj_ishl (x y : Int32) : Int32 := x <<< (y &&& 31)
def bj_ishr (x y : Int32) : Int32 := x >>> (y &&& 31)
def bj_iushr (x y : Int32) : Int32 := (x.toUInt32 >>> (y.toUInt32 &&& Int32.toUInt32 31)).toInt32
def bj_lshl (x : Int64) (y : Int32) : Int64 := x <<< (y.toInt64 &&& 63)
def bj_lushr (x : Int64) (y : Int32) : Int64 := (x.toUInt64 >>> (y.toInt64.toUInt64 &&& Int64.toUInt64 63)).toInt64
def bj_i2c (x : Int32) : Int32 := (x.toUInt32 % 65536).toInt32
def bj_max (x y : Int32) : Int32 := if x < y then y else x
def bj_min (x y : Int32) : Int32 := if y < x then y else x
def bj_abs (x : Int32) : Int32 := if 0 ≤ x then x else 0 - x
/-- what comes behind a call, where nothing is caught -/
def bct (r : am_Out × am_Wd) (k : Option Value → am_Wd → am_Rs) : am_Rs := match r with
  | (.inl v, w) => k v w
  | (.inr E, w) => some (.inr E, w)
theorem bu {m pc : Nat} {i i' : Instr} {k k' : Nat} {an dd an' dd' : List Nat} {ls : am_Lc} {st : List Value} {w : am_Wd} {pc' : Nat} {ls' ls'' : am_Lc} {st' : List Value} (hf : am_fetch (am_mth m) pc = some (i, k, an, dd)) (hf' : am_fetch (am_mth m) pc' = some (i', k', an', dd')) (hs : am_stp pc i an ls st w = some (.inl (pc', ls', st', w))) (hk : am_kill dd' ls' = ls'') :
    am_run m pc ls st w = am_run m pc' ls'' st' w := by
  rw [am_e1 hf hs (am_ge_rf w)]
  unfold am_nrm am_dead
  rw [hf']
  dsimp only
  rw [hk]
theorem bn {m pc : Nat} {i i' : Instr} {k k' : Nat} {an dd an' dd' : List Nat} {ls : am_Lc} {st : List Value} {w w' : am_Wd} {pc' : Nat} {ls' ls'' : am_Lc} {st' : List Value} (hf : am_fetch (am_mth m) pc = some (i, k, an, dd)) (hf' : am_fetch (am_mth m) pc' = some (i', k', an', dd')) (hs : am_stp pc i an ls st w = some (.inl (pc', ls', st', w'))) (hk : am_kill dd' ls' = ls'') (hge : am_ge w w') :
    am_run m pc ls st w = am_run m pc' ls'' st' w' := by
  rw [am_e1 hf hs hge]
  unfold am_nrm am_dead
  rw [hf']
  dsimp only
  rw [hk]
theorem bdd {P : Prop} [h : Decidable P] {m pc : Nat} {i i' : Instr} {k k' : Nat} {an dd an' dd' : List Nat} {ls : am_Lc} {st : List Value} {w : am_Wd} {pc' : Nat} {ls' ls'' : am_Lc} {st' : List Value} (hf : am_fetch (am_mth m) pc = some (i, k, an, dd)) (hf' : am_fetch (am_mth m) pc' = some (i', k', an', dd')) (hs : P → am_stp pc i an ls st w = some (.inl (pc', ls', st', w))) (hk : am_kill dd' ls' = ls'') (hp : P) :
    am_run m pc ls st w = am_run m pc' ls'' st' w := bu hf hf' (hs hp) hk
theorem bnr {m pc : Nat} {i : Instr} {k : Nat} {an dd : List Nat} {ls ls' : am_Lc} (hf : am_fetch (am_mth m) pc = some (i, k, an, dd)) (hk : am_kill dd ls = ls') : am_nrm m pc ls = ls' := by
  unfold am_nrm am_dead
  rw [hf]
  exact hk
theorem bic {m pc t : Nat} {c : Jvm.ClassFile.Cond} {o : Int} {an dd : List Nat} {ls la lb : am_Lc} {st : List Value} {w : am_Wd} {i1 i2 : Instr} {k1 k2 : Nat} {a1 a2 d1 d2 : List Nat} {x y : Int32} {P : Prop} [hP : Decidable P] (hf : am_fetch (am_mth m) pc = some (.if_icmp c o, 3, an, dd)) (ht : am_tg pc o = some t) (f1 : am_fetch (am_mth m) t = some (i1, k1, a1, d1)) (f2 : am_fetch (am_mth m) (pc + 3) = some (i2, k2, a2, d2)) (h1 : am_kill d1 ls = la) (h2 : am_kill d2 ls = lb) (hc : am_cd c x y = decide P) :
    am_run m pc ls (.int y :: .int x :: st) w = if P then am_run m t la st w else am_run m (pc + 3) lb st w := by
  rw [← bnr f1 h1, ← bnr f2 h2]
  refine am_ec hf (fun h => ?_) (fun h => ?_)
  · show am_br (am_cd c x y) pc o ls st w = _
    rw [hc, decide_eq_true h]
    show (am_tg pc o).bind _ = _
    rw [ht]; rfl
  · show am_br (am_cd c x y) pc o ls st w = _
    rw [hc, decide_eq_false h]
    rfl
theorem bifc {m pc t : Nat} {c : Jvm.ClassFile.Cond} {o : Int} {an dd : List Nat} {ls la lb : am_Lc} {st : List Value} {w : am_Wd} {i1 i2 : Instr} {k1 k2 : Nat} {a1 a2 d1 d2 : List Nat} {x : Int32} {P : Prop} [hP : Decidable P] (hf : am_fetch (am_mth m) pc = some (.ifCond c o, 3, an, dd)) (ht : am_tg pc o = some t) (f1 : am_fetch (am_mth m) t = some (i1, k1, a1, d1)) (f2 : am_fetch (am_mth m) (pc + 3) = some (i2, k2, a2, d2)) (h1 : am_kill d1 ls = la) (h2 : am_kill d2 ls = lb) (hc : am_cd c x 0 = decide P) :
    am_run m pc ls (.int x :: st) w = if P then am_run m t la st w else am_run m (pc + 3) lb st w := by
  rw [← bnr f1 h1, ← bnr f2 h2]
  refine am_ec hf (fun h => ?_) (fun h => ?_)
  · show am_br (am_cd c x 0) pc o ls st w = _
    rw [hc, decide_eq_true h]
    show (am_tg pc o).bind _ = _
    rw [ht]; rfl
  · show am_br (am_cd c x 0) pc o ls st w = _
    rw [hc, decide_eq_false h]
    rfl
theorem bia {m pc t : Nat} {c : Jvm.ClassFile.ACond} {o : Int} {an dd : List Nat} {ls la lb : am_Lc} {st : List Value} {w : am_Wd} {i1 i2 : Instr} {k1 k2 : Nat} {a1 a2 d1 d2 : List Nat} {x y : Nat} {P : Prop} [hP : Decidable P] (hf : am_fetch (am_mth m) pc = some (.if_acmp c o, 3, an, dd)) (ht : am_tg pc o = some t) (f1 : am_fetch (am_mth m) t = some (i1, k1, a1, d1)) (f2 : am_fetch (am_mth m) (pc + 3) = some (i2, k2, a2, d2)) (h1 : am_kill d1 ls = la) (h2 : am_kill d2 ls = lb) (hc : (match c with | .eq => decide (x = y) | .ne => decide (¬ x = y)) = decide P) :
    am_run m pc ls (.ref y :: .ref x :: st) w = if P then am_run m t la st w else am_run m (pc + 3) lb st w := by
  rw [← bnr f1 h1, ← bnr f2 h2]
  have go : ∀ (q : Bool), am_stp pc (.if_acmp c o) an ls (.ref y :: .ref x :: st) w = am_br q pc o ls st w → q = decide P → am_run m pc ls (.ref y :: .ref x :: st) w = if P then am_run m t (am_nrm m t ls) st w else am_run m (pc + 3) (am_nrm m (pc + 3) ls) st w := by
    intro q e hq
    refine am_ec hf (fun h => ?_) (fun h => ?_)
    · rw [e, hq, decide_eq_true h]
      show (am_tg pc o).bind _ = _
      rw [ht]; rfl
    · rw [e, hq, decide_eq_false h]
      rfl
  cases c with
  | eq => exact go (decide (x = y)) rfl hc
  | ne => exact go (decide (¬ x = y)) rfl hc
theorem bsw {α : Type} {P : Prop} [Decidable P] {a b c : α} (h : P → a = b) (k : ¬ P → a = c) : a = if P then b else c := by
  by_cases q : P
  · rw [if_pos q]; exact h q
  · rw [if_neg q]; exact k q
def bns (x : Int32) (l : List (Int × Int)) : Prop := ∀ q ∈ l, ¬ x.toInt = q.1
theorem bnil {x : Int32} : bns x [] := fun _ h => nomatch h
theorem bcon {x y : Int32} {k o : Int} {l : List (Int × Int)} (h : y.toInt = k) (q : ¬ x = y) (r : bns x l) : bns x ((k, o) :: l) := List.forall_mem_cons.mpr ⟨fun e => q (Int32.toInt_inj.mp (e.trans h.symm)), r⟩
theorem bsw_d {x : Int32} {d : Int} : ∀ {l : List (Int × Int)}, bns x l → am_sw x d l = d
  | [], _ => rfl
  | q :: r, h => by
    unfold am_sw
    rw [if_neg (h q List.mem_cons_self)]
    exact bsw_d fun z hz => h z (List.mem_cons_of_mem _ hz)
theorem bsd {m pc t : Nat} {d lo hi : Int} {os : Array Int} {an dd : List Nat} {k : Nat} {ls la : am_Lc} {st : List Value} {w : am_Wd} {i1 : Instr} {k1 : Nat} {a1 d1 : List Nat} {x : Int32} {l : List (Int × Int)} (hf : am_fetch (am_mth m) pc = some (.tableswitch d lo hi os, k, an, dd)) (f1 : am_fetch (am_mth m) t = some (i1, k1, a1, d1)) (ht : am_tg pc d = some t) (hl : (os.toList.zipIdx.map fun q => (lo + q.2, q.1)) = l) (hx : bns x l) (h1 : am_kill d1 ls = la) (hh : hi = lo + os.size - 1 := by decide) :
    am_run m pc ls (.int x :: st) w = am_run m t la st w := by
  refine bu hf f1 ?_ h1
  show (if hi = lo + os.size - 1 then (am_tg pc (am_sw x d (os.toList.zipIdx.map fun q => (lo + q.2, q.1)))).bind fun t => am_nx t ls st w else none) = _
  rw [if_pos hh, hl, bsw_d hx, ht]
  rfl
theorem bsl {m pc t : Nat} {d : Int} {ps : Array (Int × Int)} {an dd : List Nat} {k : Nat} {ls la : am_Lc} {st : List Value} {w : am_Wd} {i1 : Instr} {k1 : Nat} {a1 d1 : List Nat} {x : Int32} {l : List (Int × Int)} (hf : am_fetch (am_mth m) pc = some (.lookupswitch d ps, k, an, dd)) (f1 : am_fetch (am_mth m) t = some (i1, k1, a1, d1)) (ht : am_tg pc d = some t) (hl : ps.toList = l) (hx : bns x l) (h1 : am_kill d1 ls = la) (hh : (ps.toList.zip (ps.toList.drop 1)).all (fun q => q.1.1 < q.2.1) = true := by decide) :
    am_run m pc ls (.int x :: st) w = am_run m t la st w := by
  refine bu hf f1 ?_ h1
  show (if (ps.toList.zip (ps.toList.drop 1)).all (fun q => q.1.1 < q.2.1) = true then (am_tg pc (am_sw x d ps.toList)).bind fun t => am_nx t ls st w else none) = _
  rw [if_pos hh, hl, bsw_d hx, ht]
  rfl
theorem bh {α : Type} {m pc : Nat} {i i' : Instr} {k k' : Nat} {an dd an' dd' : List Nat} {ls : am_Lc} {st : List Value} {w : am_Wd} {pc' : Nat} {ls' ls'' : am_Lc} {o : Option α} {F : α → List Value} {G : α → am_Wd} (hf : am_fetch (am_mth m) pc = some (i, k, an, dd)) (hf' : am_fetch (am_mth m) pc' = some (i', k', an', dd')) (hs : am_stp pc i an ls st w = o.bind (fun v => some (.inl (pc', ls', F v, G v)))) (hge : ∀ v, o = some v → am_ge w (G v)) (hk : am_kill dd' ls' = ls'') :
    am_run m pc ls st w = o.bind (fun v => am_run m pc' ls'' (F v) (G v)) := by
  rw [am_eb hf hs hge, bnr hf' hk]
theorem bge_pf {w : am_Wd} {a ci k : Nat} {v : Value} : ∀ w', am_pf w a ci k v = some w' → am_ge w w' := by
  intro w' h
  unfold am_pf at h
  split at h
  · split at h
    · cases h; exact am_ge_rf _
    · cases h
  · cases h
theorem bge_wi {w : am_Wd} {t a : Nat} {i x : Int32} : ∀ w', am_wi t w a i x = some w' → am_ge w w' := by
  intro w' h
  unfold am_wi at h
  split at h
  · split at h
    · split at h
      · cases h
      · cases h; exact am_ge_rf _
    · cases h
  · cases h
theorem bge_wl {w : am_Wd} {a : Nat} {i : Int32} {x : Int64} : ∀ w', am_wl w a i x = some w' → am_ge w w' := by
  intro w' h
  unfold am_wl at h
  split at h
  · split at h
    · split at h
      · cases h
      · cases h; exact am_ge_rf _
    · cases h
  · cases h
theorem bge_wq {w : am_Wd} {t ci a b : Nat} {i : Int32} : ∀ w', am_wq t ci w a i b = some w' → am_ge w w' := by
  intro w' h
  unfold am_wq at h
  split at h
  · split at h
    · split at h
      · cases h
      · obtain ⟨_, _, h⟩ := Option.bind_eq_some_iff.mp h
        cases h; exact am_ge_rf _
    · cases h
  · cases h
theorem bge_na {w : am_Wd} {t : Nat} {n : Int32} : ∀ w', am_na w t n = some w' → am_ge w w' := by
  intro w' h
  unfold am_na at h
  split at h
  · cases h
  · cases h; exact am_ge_nw _ _ _
theorem bge_mn {w : am_Wd} {n k : Int32} : ∀ w', am_mn w n k = some w' → am_ge w w' := by
  intro w' h
  unfold am_mn at h
  split at h
  · cases h
  · cases h; exact am_ge_tr (am_ge_nw _ _ _) (am_ge_rows _ _ _)
def bhh (m : Nat) : List (Nat × Nat × Nat × Nat) := (am_mt m).2.2.2.2.2
theorem bhd {m pc : Nat} (h : bhh m = []) (E : String) : am_hd m pc E = none := by
  unfold am_hd
  rw [show (am_mt m).2.2.2.2.2 = [] from h]
  rfl
theorem bkH {m pc : Nat} {i i' : Instr} {k k' : Nat} {an dd an' dd' : List Nat} {ls ls'' : am_Lc} {st : List Value} {w : am_Wd} {m' : Nat} {as : List Value} {pc' : Nat} {rest : List Value} (hf : am_fetch (am_mth m) pc = some (i, k, an, dd)) (hf' : am_fetch (am_mth m) pc' = some (i', k', an', dd')) (hs : am_stp pc i an ls st w = some (.inr (.inl (m', as, pc', rest)))) (hg : am_hg m' < am_hg m) (hl : (am_xp as).length ≤ am_ml m') (hk : am_kill dd' ls = ls'') :
    am_run m pc ls st w = (am_x m' as w).bind (fun r => am_af m pc r (fun v w' => am_run m pc' ls'' (v.toList ++ rest) w') (fun h w' => am_run m h (am_nrm m h ls) [] w')) := by
  rw [am_ek hf hs hg hl, bnr hf' hk]
theorem bkS {m pc : Nat} {i i' : Instr} {k k' : Nat} {an dd an' dd' : List Nat} {ls ls'' : am_Lc} {st : List Value} {w : am_Wd} {m' : Nat} {as : List Value} {pc' : Nat} {rest : List Value} (hf : am_fetch (am_mth m) pc = some (i, k, an, dd)) (hf' : am_fetch (am_mth m) pc' = some (i', k', an', dd')) (hs : am_stp pc i an ls st w = some (.inr (.inl (m', as, pc', rest)))) (hg : am_hg m' < am_hg m) (hl : (am_xp as).length ≤ am_ml m') (hk : am_kill dd' ls = ls'') (hh : ∀ E, am_hd m pc E = none) :
    am_run m pc ls st w = (am_x m' as w).bind (fun r => bct r (fun v w' => am_run m pc' ls'' (v.toList ++ rest) w')) := by
  rw [bkH hf hf' hs hg hl hk]
  congr 1
  funext r
  obtain ⟨o, w'⟩ := r
  cases o with
  | inl v => rfl
  | inr E =>
    show (match am_hd m pc E with | none => some (Sum.inr E, w') | some h => _) = _
    rw [hh E]
    rfl
theorem bkHV {m pc : Nat} {i i' : Instr} {k k' : Nat} {an dd an' dd' : List Nat} {ls ls'' : am_Lc} {st : List Value} {w : am_Wd} {m' : Nat} {as : List Value} {pc' : Nat} {rest : List Value} {o : Option Unit} (hf : am_fetch (am_mth m) pc = some (i, k, an, dd)) (hf' : am_fetch (am_mth m) pc' = some (i', k', an', dd')) (hs : am_stp pc i an ls st w = o.bind fun _ => some (.inr (.inl (m', as, pc', rest)))) (hg : am_hg m' < am_hg m) (hl : (am_xp as).length ≤ am_ml m') (hk : am_kill dd' ls = ls'') :
    am_run m pc ls st w = o.bind fun _ => (am_x m' as w).bind (fun r => am_af m pc r (fun v w' => am_run m pc' ls'' (v.toList ++ rest) w') (fun h w' => am_run m h (am_nrm m h ls) [] w')) := by
  cases o with
  | none => exact am_e0 hf hs
  | some u => exact bkH hf hf' hs hg hl hk
theorem bkV {m pc : Nat} {i i' : Instr} {k k' : Nat} {an dd an' dd' : List Nat} {ls ls'' : am_Lc} {st : List Value} {w : am_Wd} {m' : Nat} {as : List Value} {pc' : Nat} {rest : List Value} {o : Option Unit} (hf : am_fetch (am_mth m) pc = some (i, k, an, dd)) (hf' : am_fetch (am_mth m) pc' = some (i', k', an', dd')) (hs : am_stp pc i an ls st w = o.bind fun _ => some (.inr (.inl (m', as, pc', rest)))) (hg : am_hg m' < am_hg m) (hl : (am_xp as).length ≤ am_ml m') (hk : am_kill dd' ls = ls'') (hh : ∀ E, am_hd m pc E = none) :
    am_run m pc ls st w = o.bind fun _ => (am_x m' as w).bind (fun r => bct r (fun v w' => am_run m pc' ls'' (v.toList ++ rest) w')) := by
  cases o with
  | none => exact am_e0 hf hs
  | some u => exact bkS hf hf' hs hg hl hk hh
