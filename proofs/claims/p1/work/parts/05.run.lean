section
/-! RUNNING: am_runN n: at most n instructions deep; am_run: what it comes to. Mine. -/
def am_fetch : List am_Row → Nat → Option (Instr × Nat × List Nat × List Nat)
  | [], _ => none
  | r :: t, pc => bif Nat.beq r.1 pc then some r.2 else am_fetch t pc
def am_mth (m : Nat) : List am_Row := (am_progs.getD (m / 40) []).getD (m % 40) []
def am_mt (m : Nat) : MethodName × ByteArray × Nat × Option FieldType × Nat × List (Nat × Nat × Nat × Nat) := (am_metas.getD (m / 40) []).getD (m % 40) (⟨"", "", ""⟩, .mk #[], 0, none, 0, [])
def am_ml (m : Nat) : Nat := (am_mt m).2.2.1
def am_hg (m : Nat) : Nat := (am_mt m).2.2.2.2.1
def am_dead (m pc : Nat) : List Nat := match am_fetch (am_mth m) pc with
  | some q => q.2.2.2
  | none => []
def am_kill : List Nat → am_Lc → am_Lc
  | [], l => l
  | i :: t, l => am_kill t (l.set i none)
def am_nrm (m pc : Nat) (ls : am_Lc) : am_Lc := am_kill (am_dead m pc) ls
def am_xp : List Value → am_Lc
  | [] => []
  | v :: t => bif am_c2 v then some v :: none :: am_xp t else some v :: am_xp t
def am_ent (m : Nat) (as : List Value) : am_Lc := am_nrm m 0 (am_xp as ++ List.replicate (am_ml m - (am_xp as).length) none)
/-- the law's catches, by their entries of its pool -/
def am_ct (k : Nat) : String := if k = 19 then "java/lang/IndexOutOfBoundsException" else if k = 21 then "java/lang/IllegalArgumentException" else "java/lang/IllegalStateException"
def am_hs (pc : Nat) (E : String) : List (Nat × Nat × Nat × Nat) → Option Nat
  | [] => none
  | h :: t => if h.1 ≤ pc ∧ pc < h.2.1 ∧ am_ct h.2.2.2 = E then some h.2.2.1 else am_hs pc E t
/-- behind the handler's own store -/
def am_hd (m pc : Nat) (E : String) : Option Nat := (am_hs pc E (am_mt m).2.2.2.2.2).bind fun h => (am_fetch (am_mth m) h).map fun q => h + q.2.1
/-- cells and slots don't grow less -/
abbrev am_ge (w w' : am_Wd) : Prop := w.2.1 ≤ w'.2.1 ∧ w.2.2.1 ≤ w'.2.2.1
def am_runN : Nat → Nat → Nat → am_Lc → List Value → am_Wd → am_Rs
  | 0, _, _, _, _, _ => none
  | n + 1, m, pc, ls, st, w => match am_fetch (am_mth m) pc with
    | none => none
    | some q => match am_stp pc q.1 q.2.2.1 ls st w with
      | none => none
      | some (.inl a) => if am_ge w a.2.2.2 then am_runN n m a.1 (am_nrm m a.1 a.2.1) a.2.2.1 a.2.2.2 else none
      | some (.inr (.inl c)) => if am_hg c.1 < am_hg m ∧ (am_xp c.2.1).length ≤ am_ml c.1 then (match am_runN n c.1 0 (am_ent c.1 c.2.1) [] w with
        | none => none
        | some r => match r.1 with
          | .inl v => am_runN n m c.2.2.1 (am_nrm m c.2.2.1 ls) (v.toList ++ c.2.2.2) r.2
          | .inr E => match am_hd m pc E with
            | none => some r
            | some h => am_runN n m h (am_nrm m h ls) [] r.2) else none
      | some (.inr (.inr r)) => if am_ge w r.2 then some r else none
theorem am_mono : ∀ (n m pc : Nat) (ls : am_Lc) (st : List Value) (w : am_Wd) (r : am_Out × am_Wd), am_runN n m pc ls st w = some r → am_runN (n + 1) m pc ls st w = some r := by
  intro n
  induction n with
  | zero => intro m pc ls st w r h; cases h
  | succ n ih =>
    intro m pc ls st w r h
    rw [am_runN] at h
    rw [am_runN]
    split at h
    · cases h
    · rename_i q hq
      try rw [hq]
      try dsimp only at h ⊢
      split at h
      · cases h
      · rename_i a ha
        try rw [ha]
        try dsimp only at h ⊢
        split at h
        · rename_i hg
          try rw [if_pos hg]
          exact ih _ _ _ _ _ _ h
        · cases h
      · rename_i c hc
        try rw [hc]
        try dsimp only at h ⊢
        split at h
        · rename_i hg
          try rw [if_pos hg]
          split at h
          · cases h
          · rename_i r1 hr1
            rw [ih _ _ _ _ _ _ hr1]
            try dsimp only at h ⊢
            split at h
            · exact ih _ _ _ _ _ _ h
            · rename_i E hE
              split at h
              · rename_i hd; (try rw [hd]); exact h
              · rename_i hd hh; (try rw [hh]); exact ih _ _ _ _ _ _ h
        · cases h
      · rename_i r1 hr1
        try rw [hr1]
        try dsimp only at h ⊢
        exact h
theorem am_monoL {n k m pc : Nat} {ls : am_Lc} {st : List Value} {w : am_Wd} {r : am_Out × am_Wd} (h : am_runN n m pc ls st w = some r) (hk : n ≤ k) : am_runN k m pc ls st w = some r := by
  induction hk with
  | refl => exact h
  | step _ ih => exact am_mono _ _ _ _ _ _ _ ih

noncomputable def am_run (m pc : Nat) (ls : am_Lc) (st : List Value) (w : am_Wd) : am_Rs := @dite am_Rs (∃ (r : am_Out × am_Wd) (n : Nat), am_runN n m pc ls st w = some r) (Classical.propDecidable _) (fun h => some h.choose) (fun _ => none)
theorem am_run_of {n m pc : Nat} {ls : am_Lc} {st : List Value} {w : am_Wd} {r : am_Out × am_Wd} (h : am_runN n m pc ls st w = some r) : am_run m pc ls st w = some r := by
  unfold am_run
  have he : ∃ (r : am_Out × am_Wd) (n : Nat), am_runN n m pc ls st w = some r := ⟨r, n, h⟩
  rw [dif_pos he]
  obtain ⟨k, hk⟩ := he.choose_spec
  rcases Nat.le_total n k with q | q
  · rw [am_monoL h q] at hk; exact hk.symm
  · rw [am_monoL hk q] at h; exact h
theorem am_run_to {m pc : Nat} {ls : am_Lc} {st : List Value} {w : am_Wd} {r : am_Out × am_Wd} (h : am_run m pc ls st w = some r) : ∃ n, am_runN n m pc ls st w = some r := by
  unfold am_run at h
  by_cases he : ∃ (r : am_Out × am_Wd) (n : Nat), am_runN n m pc ls st w = some r
  · rw [dif_pos he] at h
    obtain ⟨k, hk⟩ := he.choose_spec
    exact ⟨k, by rw [hk]; exact h⟩
  · rw [dif_neg he] at h
    cases h
theorem am_ext {a b : am_Rs} (h : ∀ r, a = some r ↔ b = some r) : a = b := by
  cases a with
  | none => cases b with
    | none => rfl
    | some r => exact absurd ((h r).mpr rfl) (by simp)
  | some r => exact ((h r).mp rfl).symm
/-- on -/
theorem am_e1 {m pc : Nat} {i : Instr} {k : Nat} {an dd : List Nat} {ls : am_Lc} {st : List Value} {w : am_Wd} {pc' : Nat} {ls' : am_Lc} {st' : List Value} {w' : am_Wd} (hf : am_fetch (am_mth m) pc = some (i, k, an, dd)) (hs : am_stp pc i an ls st w = some (.inl (pc', ls', st', w'))) (hge : am_ge w w') :
    am_run m pc ls st w = am_run m pc' (am_nrm m pc' ls') st' w' := by
  refine am_ext fun r => ⟨fun h => ?_, fun h => ?_⟩
  · obtain ⟨n, hn⟩ := am_run_to h
    cases n with
    | zero => cases hn
    | succ n =>
      rw [am_runN, hf] at hn
      dsimp only at hn
      rw [hs] at hn
      dsimp only at hn
      rw [if_pos hge] at hn
      exact am_run_of hn
  · obtain ⟨n, hn⟩ := am_run_to h
    refine am_run_of (n := n + 1) ?_
    rw [am_runN, hf]
    dsimp only
    rw [hs]
    dsimp only
    rw [if_pos hge]
    exact hn
/-- nowhere -/
theorem am_e0 {m pc : Nat} {i : Instr} {k : Nat} {an dd : List Nat} {ls : am_Lc} {st : List Value} {w : am_Wd} (hf : am_fetch (am_mth m) pc = some (i, k, an, dd)) (hs : am_stp pc i an ls st w = none) : am_run m pc ls st w = none := by
  refine am_ext fun r => ⟨fun h => ?_, fun h => by cases h⟩
  obtain ⟨n, hn⟩ := am_run_to h
  cases n with
  | zero => cases hn
  | succ n =>
    rw [am_runN, hf] at hn
    dsimp only at hn
    rw [hs] at hn
    cases hn
/-- the end -/
theorem am_e2 {m pc : Nat} {i : Instr} {k : Nat} {an dd : List Nat} {ls : am_Lc} {st : List Value} {w : am_Wd} {r : am_Out × am_Wd} (hf : am_fetch (am_mth m) pc = some (i, k, an, dd)) (hs : am_stp pc i an ls st w = some (.inr (.inr r))) (hge : am_ge w r.2) : am_run m pc ls st w = some r := by
  refine am_run_of (n := 1) ?_
  rw [am_runN, hf]
  dsimp only
  rw [hs]
  dsimp only
  rw [if_pos hge]
/-- a step that asks the world first -/
theorem am_eb {α : Type} {m pc : Nat} {i : Instr} {k : Nat} {an dd : List Nat} {ls : am_Lc} {st : List Value} {w : am_Wd} {pc' : Nat} {ls' : am_Lc} {o : Option α} {F : α → List Value} {G : α → am_Wd} (hf : am_fetch (am_mth m) pc = some (i, k, an, dd)) (hs : am_stp pc i an ls st w = o.bind (fun v => some (.inl (pc', ls', F v, G v)))) (hge : ∀ v, o = some v → am_ge w (G v)) :
    am_run m pc ls st w = o.bind (fun v => am_run m pc' (am_nrm m pc' ls') (F v) (G v)) := by
  cases o with
  | none => exact am_e0 hf hs
  | some v => exact am_e1 hf hs (hge v rfl)
/-- a fork -/
theorem am_ec {c : Prop} {hc : Decidable c} {m pc : Nat} {i : Instr} {k : Nat} {an dd : List Nat} {ls : am_Lc} {st : List Value} {w : am_Wd} {a b : Nat} {st' : List Value} (hf : am_fetch (am_mth m) pc = some (i, k, an, dd)) (ht : c → am_stp pc i an ls st w = some (.inl (a, ls, st', w))) (he : ¬ c → am_stp pc i an ls st w = some (.inl (b, ls, st', w))) :
    am_run m pc ls st w = if c then am_run m a (am_nrm m a ls) st' w else am_run m b (am_nrm m b ls) st' w := by
  by_cases h : c
  · rw [if_pos h]; exact am_e1 hf (ht h) ⟨Nat.le_refl _, Nat.le_refl _⟩
  · rw [if_neg h]; exact am_e1 hf (he h) ⟨Nat.le_refl _, Nat.le_refl _⟩
/-- what a method does to its arguments, in a world -/
noncomputable def am_x (m : Nat) (as : List Value) (w : am_Wd) : am_Rs := am_run m 0 (am_ent m as) [] w
/-- what comes behind a call -/
def am_af (m pc : Nat) (r : am_Out × am_Wd) (k : Option Value → am_Wd → am_Rs) (kh : Nat → am_Wd → am_Rs) : am_Rs := match r.1 with
  | .inl v => k v r.2
  | .inr E => match am_hd m pc E with
    | none => some r
    | some h => kh h r.2
/-- a call -/
theorem am_ek {m pc : Nat} {i : Instr} {k : Nat} {an dd : List Nat} {ls : am_Lc} {st : List Value} {w : am_Wd} {m' : Nat} {as : List Value} {pc' : Nat} {rest : List Value} (hf : am_fetch (am_mth m) pc = some (i, k, an, dd)) (hs : am_stp pc i an ls st w = some (.inr (.inl (m', as, pc', rest)))) (hg : am_hg m' < am_hg m) (hl : (am_xp as).length ≤ am_ml m') :
    am_run m pc ls st w = (am_x m' as w).bind (fun r => am_af m pc r (fun v w' => am_run m pc' (am_nrm m pc' ls) (v.toList ++ rest) w') (fun h w' => am_run m h (am_nrm m h ls) [] w')) := by
  refine am_ext fun r => ⟨fun h => ?_, fun h => ?_⟩
  · obtain ⟨n, hn⟩ := am_run_to h
    cases n with
    | zero => cases hn
    | succ n =>
      rw [am_runN, hf] at hn
      dsimp only at hn
      rw [hs] at hn
      dsimp only at hn
      rw [if_pos ⟨hg, hl⟩] at hn
      split at hn
      · cases hn
      · rename_i r1 hr1
        rw [am_x, am_run_of hr1]
        show am_af _ _ r1 _ _ = _
        unfold am_af
        try dsimp only at hn
        split at hn
        · rename_i v hv
          try rw [hv]
          exact am_run_of hn
        · rename_i E hE
          try rw [hE]
          try dsimp only
          split at hn
          · rename_i hd; (try rw [hd]); exact hn
          · rename_i hd hh; (try rw [hh]); exact am_run_of hn
  · cases hx : am_x m' as w with
    | none => rw [hx] at h; cases h
    | some r1 =>
      rw [hx] at h
      obtain ⟨n1, hn1⟩ := am_run_to hx
      have h : am_af m pc r1 (fun v w' => am_run m pc' (am_nrm m pc' ls) (v.toList ++ rest) w') (fun h w' => am_run m h (am_nrm m h ls) [] w') = some r := h
      unfold am_af at h
      have fin : ∀ n, am_runN n m' 0 (am_ent m' as) [] w = some r1 → (match r1.1 with
          | .inl v => am_runN n m pc' (am_nrm m pc' ls) (v.toList ++ rest) r1.2
          | .inr E => match am_hd m pc E with
            | none => some r1
            | some h => am_runN n m h (am_nrm m h ls) [] r1.2) = some r → am_run m pc ls st w = some r := by
        intro n h1 h2
        refine am_run_of (n := n + 1) ?_
        rw [am_runN, hf]
        dsimp only
        rw [hs]
        dsimp only
        rw [if_pos ⟨hg, hl⟩, h1]
        exact h2
      split at h
      · rename_i v hv
        obtain ⟨n2, hn2⟩ := am_run_to h
        refine fin (n1 + n2) (am_monoL hn1 (Nat.le_add_right _ _)) ?_
        try rw [hv]
        exact am_monoL hn2 (Nat.le_add_left _ _)
      · rename_i E hE
        split at h
        · rename_i hd
          refine fin n1 hn1 ?_
          try rw [hE]
          try dsimp only
          try rw [hd]
          exact h
        · rename_i hd hh
          obtain ⟨n2, hn2⟩ := am_run_to h
          refine fin (n1 + n2) (am_monoL hn1 (Nat.le_add_right _ _)) ?_
          try rw [hE]
          try dsimp only
          try rw [hh]
          exact am_monoL hn2 (Nat.le_add_left _ _)
theorem am_ge_rf (w : am_Wd) : am_ge w w := ⟨Nat.le_refl _, Nat.le_refl _⟩
theorem am_ge_nw (w : am_Wd) (e : am_En) (n : Nat) : am_ge w (am_nw w e n) := ⟨Nat.le_succ _, Nat.le_add_right _ _⟩
theorem am_ge_jk (w : am_Wd) (k n : Nat) : am_ge w (am_jk w k n) := ⟨Nat.le_add_right _ _, Nat.le_add_right _ _⟩
theorem am_ge_pt (w : am_Wd) (a : Nat) (e : am_En) : am_ge w (am_pt w a e) := am_ge_rf w
theorem am_ge_tr {a b c : am_Wd} (h : am_ge a b) (k : am_ge b c) : am_ge a c := ⟨Nat.le_trans h.1 k.1, Nat.le_trans h.2 k.2⟩
theorem am_ge_rows (w : am_Wd) (k : Nat) : ∀ n, am_ge w (am_rows w k n)
  | 0 => am_ge_rf w
  | n + 1 => am_ge_tr (am_ge_rows w k n) (am_ge_nw _ _ _)
theorem am_ge_run : ∀ (n m pc : Nat) (ls : am_Lc) (st : List Value) (w : am_Wd) (r : am_Out × am_Wd), am_runN n m pc ls st w = some r → am_ge w r.2 := by
  intro n
  induction n with
  | zero => intro m pc ls st w r h; cases h
  | succ n ih =>
    intro m pc ls st w r h
    rw [am_runN] at h
    split at h
    · cases h
    · split at h
      · cases h
      · split at h
        · rename_i hg
          exact am_ge_tr hg (ih _ _ _ _ _ _ h)
        · cases h
      · split at h
        · split at h
          · cases h
          · rename_i r1 hr1
            have g1 := ih _ _ _ _ _ _ hr1
            split at h
            · exact am_ge_tr g1 (ih _ _ _ _ _ _ h)
            · split at h
              · cases h; exact g1
              · exact am_ge_tr g1 (ih _ _ _ _ _ _ h)
        · cases h
      · split at h
        · rename_i hg; cases h; exact hg
        · cases h
end
section
/-! WHAT THE TABLES LINK: a check of every row against the claim's words, by the kernel. Mine. -/
abbrev am_cl : List vw_C := vwCl ++ [(RJ0, TJ0, 4)]
/-- AbstractStringBuilder's private members, of a StringBuilder -/
def am_psm : List (String × String) := [("ensureCapacityInternal", "(I)V"), ("putStringAt", "(ILjava/lang/String;)V"), ("inflateIfNeededFor", "(Ljava/lang/String;)V")]
def am_psl : List Cond := am_psm.map fun q => .selects "java/lang/StringBuilder" ⟨"java/lang/AbstractStringBuilder", q.1, q.2⟩ ⟨"java/lang/AbstractStringBuilder", q.1, q.2⟩
/-- what the law catches -/
def am_exn : List String := ["java/lang/IndexOutOfBoundsException", "java/lang/IllegalArgumentException", "java/lang/IllegalStateException"]
/-- who may be cast to what -/
def am_cst : List (String × String) := am_exn.map (fun E => (E, E)) ++ [("[J", "java/lang/Cloneable"), ("BumpwardModel$Walker", "java/lang/Object")]
theorem am_cst_E {E : String} (h : E ∈ am_exn) : (E, E) ∈ am_cst := List.mem_append_left _ (List.mem_map.mpr ⟨E, h, rfl⟩)
def am_dcl : List Cond := ["java/lang/RuntimeException", "java/lang/Exception", "java/lang/Throwable"].map fun n => .declares (Bundle.initS n)
def am_tb : List Cond := lw_tbl ++ am_psl
def am_aw : List Cond := am_tb.filter goodWord
/-- the words in pieces -/
def am_tc0 : List Cond := (tables_1_1.drop 0).take 48
def am_tc1 : List Cond := (tables_1_1.drop 48).take 48
def am_tc2 : List Cond := (tables_1_1.drop 96).take 48
def am_tc3 : List Cond := (tables_1_1.drop 144).take 48
def am_tc4 : List Cond := (tables_1_1.drop 192).take 48
def am_tc5 : List Cond := (tables_1_2.drop 0).take 48
def am_tc6 : List Cond := (tables_1_2.drop 48).take 48
def am_tc7 : List Cond := (tables_1_2.drop 96).take 48
def am_tc8 : List Cond := (tables_1_2.drop 144).take 48
def am_tc9 : List Cond := (tables_1_2.drop 192).take 48
def am_tc10 : List Cond := (tables_1_3.drop 0).take 48
def am_tc11 : List Cond := (tables_1_3.drop 48).take 48
def am_tc12 : List Cond := (tables_1_3.drop 96).take 48
def am_tc13 : List Cond := (tables_1_3.drop 144).take 48
def am_tc14 : List Cond := (tables_1_3.drop 192).take 48
def am_tc15 : List Cond := (tables_1_4.drop 0).take 48
def am_tc16 : List Cond := (tables_1_4.drop 48).take 48
def am_tc17 : List Cond := (tables_1_4.drop 96).take 48
def am_tc18 : List Cond := (tables_1_4.drop 144).take 48
def am_tc19 : List Cond := (tables_1_4.drop 192).take 48
def am_tc20 : List Cond := (tables_1_5.drop 0).take 48
def am_tc21 : List Cond := (tables_1_5.drop 48).take 48
def am_tc22 : List Cond := (tables_1_5.drop 96).take 48
def am_tc23 : List Cond := (tables_1_5.drop 144).take 48
def am_tc24 : List Cond := (tables_1_5.drop 192).take 48
def am_tc25 : List Cond := (tables_1_6.drop 0).take 48
def am_tc26 : List Cond := (tables_1_6.drop 48).take 48
def am_tc27 : List Cond := (tables_1_6.drop 96).take 48
def am_tc28 : List Cond := (tables_1_6.drop 144).take 48
def am_tc29 : List Cond := (tables_1_6.drop 192).take 48
def am_tc30 : List Cond := (tables_1_7.drop 0).take 48
def am_tc31 : List Cond := (tables_1_7.drop 48).take 48
def am_tc32 : List Cond := (tables_1_7.drop 96).take 48
def am_tc33 : List Cond := (tables_1_7.drop 144).take 48
def am_tc34 : List Cond := (tables_1_7.drop 192).take 48
def am_tc35 : List Cond := tables_1_8.drop 0 ++ am_psl
def am_tcs : List (List Cond) := [am_tc0, am_tc1, am_tc2, am_tc3, am_tc4, am_tc5, am_tc6, am_tc7, am_tc8, am_tc9, am_tc10, am_tc11, am_tc12, am_tc13, am_tc14, am_tc15, am_tc16, am_tc17, am_tc18, am_tc19, am_tc20, am_tc21, am_tc22, am_tc23, am_tc24, am_tc25, am_tc26, am_tc27, am_tc28, am_tc29, am_tc30, am_tc31, am_tc32, am_tc33, am_tc34, am_tc35]
theorem am_t1s {w : Cond} (h : w ∈ tables_1) : w ∈ am_tb := List.mem_append_left _ (List.mem_append_right _ h)
theorem am_t1_1 {w : Cond} (h : w ∈ tables_1_1) : w ∈ am_tb := am_t1s (List.mem_append_left _ h)
theorem am_t1_2 {w : Cond} (h : w ∈ tables_1_2) : w ∈ am_tb := am_t1s (List.mem_append_right _ (List.mem_append_left _ h))
theorem am_t1_3 {w : Cond} (h : w ∈ tables_1_3) : w ∈ am_tb := am_t1s (List.mem_append_right _ (List.mem_append_right _ (List.mem_append_left _ h)))
theorem am_t1_4 {w : Cond} (h : w ∈ tables_1_4) : w ∈ am_tb := am_t1s (List.mem_append_right _ (List.mem_append_right _ (List.mem_append_right _ (List.mem_append_left _ h))))
theorem am_t1_5 {w : Cond} (h : w ∈ tables_1_5) : w ∈ am_tb := am_t1s (List.mem_append_right _ (List.mem_append_right _ (List.mem_append_right _ (List.mem_append_right _ (List.mem_append_left _ h)))))
theorem am_t1_6 {w : Cond} (h : w ∈ tables_1_6) : w ∈ am_tb := am_t1s (List.mem_append_right _ (List.mem_append_right _ (List.mem_append_right _ (List.mem_append_right _ (List.mem_append_right _ (List.mem_append_left _ h))))))
theorem am_t1_7 {w : Cond} (h : w ∈ tables_1_7) : w ∈ am_tb := am_t1s (List.mem_append_right _ (List.mem_append_right _ (List.mem_append_right _ (List.mem_append_right _ (List.mem_append_right _ (List.mem_append_right _ (List.mem_append_left _ h)))))))
theorem am_t1_8 {w : Cond} (h : w ∈ tables_1_8) : w ∈ am_tb := am_t1s (List.mem_append_right _ (List.mem_append_right _ (List.mem_append_right _ (List.mem_append_right _ (List.mem_append_right _ (List.mem_append_right _ (List.mem_append_right _ (h))))))))
theorem am_tcs_sub : ∀ c ∈ am_tcs, ∀ w ∈ c, w ∈ am_tb := List.forall_mem_cons.mpr ⟨fun w h => am_t1_1 (List.mem_of_mem_drop (List.mem_of_mem_take h)), List.forall_mem_cons.mpr ⟨fun w h => am_t1_1 (List.mem_of_mem_drop (List.mem_of_mem_take h)), List.forall_mem_cons.mpr ⟨fun w h => am_t1_1 (List.mem_of_mem_drop (List.mem_of_mem_take h)), List.forall_mem_cons.mpr ⟨fun w h => am_t1_1 (List.mem_of_mem_drop (List.mem_of_mem_take h)), List.forall_mem_cons.mpr ⟨fun w h => am_t1_1 (List.mem_of_mem_drop (List.mem_of_mem_take h)), List.forall_mem_cons.mpr ⟨fun w h => am_t1_2 (List.mem_of_mem_drop (List.mem_of_mem_take h)), List.forall_mem_cons.mpr ⟨fun w h => am_t1_2 (List.mem_of_mem_drop (List.mem_of_mem_take h)), List.forall_mem_cons.mpr ⟨fun w h => am_t1_2 (List.mem_of_mem_drop (List.mem_of_mem_take h)), List.forall_mem_cons.mpr ⟨fun w h => am_t1_2 (List.mem_of_mem_drop (List.mem_of_mem_take h)), List.forall_mem_cons.mpr ⟨fun w h => am_t1_2 (List.mem_of_mem_drop (List.mem_of_mem_take h)), List.forall_mem_cons.mpr ⟨fun w h => am_t1_3 (List.mem_of_mem_drop (List.mem_of_mem_take h)), List.forall_mem_cons.mpr ⟨fun w h => am_t1_3 (List.mem_of_mem_drop (List.mem_of_mem_take h)), List.forall_mem_cons.mpr ⟨fun w h => am_t1_3 (List.mem_of_mem_drop (List.mem_of_mem_take h)), List.forall_mem_cons.mpr ⟨fun w h => am_t1_3 (List.mem_of_mem_drop (List.mem_of_mem_take h)), List.forall_mem_cons.mpr ⟨fun w h => am_t1_3 (List.mem_of_mem_drop (List.mem_of_mem_take h)), List.forall_mem_cons.mpr ⟨fun w h => am_t1_4 (List.mem_of_mem_drop (List.mem_of_mem_take h)), List.forall_mem_cons.mpr ⟨fun w h => am_t1_4 (List.mem_of_mem_drop (List.mem_of_mem_take h)), List.forall_mem_cons.mpr ⟨fun w h => am_t1_4 (List.mem_of_mem_drop (List.mem_of_mem_take h)), List.forall_mem_cons.mpr ⟨fun w h => am_t1_4 (List.mem_of_mem_drop (List.mem_of_mem_take h)), List.forall_mem_cons.mpr ⟨fun w h => am_t1_4 (List.mem_of_mem_drop (List.mem_of_mem_take h)), List.forall_mem_cons.mpr ⟨fun w h => am_t1_5 (List.mem_of_mem_drop (List.mem_of_mem_take h)), List.forall_mem_cons.mpr ⟨fun w h => am_t1_5 (List.mem_of_mem_drop (List.mem_of_mem_take h)), List.forall_mem_cons.mpr ⟨fun w h => am_t1_5 (List.mem_of_mem_drop (List.mem_of_mem_take h)), List.forall_mem_cons.mpr ⟨fun w h => am_t1_5 (List.mem_of_mem_drop (List.mem_of_mem_take h)), List.forall_mem_cons.mpr ⟨fun w h => am_t1_5 (List.mem_of_mem_drop (List.mem_of_mem_take h)), List.forall_mem_cons.mpr ⟨fun w h => am_t1_6 (List.mem_of_mem_drop (List.mem_of_mem_take h)), List.forall_mem_cons.mpr ⟨fun w h => am_t1_6 (List.mem_of_mem_drop (List.mem_of_mem_take h)), List.forall_mem_cons.mpr ⟨fun w h => am_t1_6 (List.mem_of_mem_drop (List.mem_of_mem_take h)), List.forall_mem_cons.mpr ⟨fun w h => am_t1_6 (List.mem_of_mem_drop (List.mem_of_mem_take h)), List.forall_mem_cons.mpr ⟨fun w h => am_t1_6 (List.mem_of_mem_drop (List.mem_of_mem_take h)), List.forall_mem_cons.mpr ⟨fun w h => am_t1_7 (List.mem_of_mem_drop (List.mem_of_mem_take h)), List.forall_mem_cons.mpr ⟨fun w h => am_t1_7 (List.mem_of_mem_drop (List.mem_of_mem_take h)), List.forall_mem_cons.mpr ⟨fun w h => am_t1_7 (List.mem_of_mem_drop (List.mem_of_mem_take h)), List.forall_mem_cons.mpr ⟨fun w h => am_t1_7 (List.mem_of_mem_drop (List.mem_of_mem_take h)), List.forall_mem_cons.mpr ⟨fun w h => am_t1_7 (List.mem_of_mem_drop (List.mem_of_mem_take h)), List.forall_mem_cons.mpr ⟨fun w h => (List.mem_append.mp h).elim (fun h => am_t1_8 (List.mem_of_mem_drop h)) (fun h => List.mem_append_right _ h), fun _ h => nomatch h⟩⟩⟩⟩⟩⟩⟩⟩⟩⟩⟩⟩⟩⟩⟩⟩⟩⟩⟩⟩⟩⟩⟩⟩⟩⟩⟩⟩⟩⟩⟩⟩⟩⟩⟩⟩
def am_gt (k : Nat) : Option Cond := if k < 45 then (k2_sels lw_privs)[k]? else (am_tcs.getD ((k - 45) / 48) [])[(k - 45) % 48]?
theorem am_gt_mem {k : Nat} {w : Cond} (h : am_gt k = some w) : w ∈ am_tb := by
  unfold am_gt at h
  split at h
  · exact List.mem_append_left _ (List.mem_append_left _ (List.mem_of_getElem? h))
  · have hm := List.mem_of_getElem? h
    by_cases q : (k - 45) / 48 < am_tcs.length
    · rw [List.getD_eq_getElem?_getD, List.getElem?_eq_getElem q] at hm
      exact am_tcs_sub _ (List.getElem_mem q) w hm
    · rw [List.getD_eq_getElem?_getD, List.getElem?_eq_none (by omega)] at hm
      cases hm
def wn_cb : List UInt8 → Nat
  | [] => 0
  | b :: l => wn_cb l * 257 + b.toNat + 1
theorem wn_cb_inj : ∀ l m, wn_cb l = wn_cb m → l = m
  | [], [], _ => rfl
  | [], c :: m, h => by
    have h : 0 = wn_cb m * 257 + c.toNat + 1 := h
    omega
  | b :: l, [], h => by
    have h : wn_cb l * 257 + b.toNat + 1 = 0 := h
    omega
  | b :: l, c :: m, h => by
    have h : wn_cb l * 257 + b.toNat + 1 = wn_cb m * 257 + c.toNat + 1 := h
    have hb := UInt8.toNat_lt b
    have hc := UInt8.toNat_lt c
    have e1 : wn_cb l = wn_cb m := by omega
    have e2 : b.toNat = c.toNat := by omega
    rw [wn_cb_inj l m e1, UInt8.toNat_inj.mp e2]
def wn_ca (b : ByteArray) : Nat := wn_cb b.data.toList
theorem wn_ca_inj {s t : ByteArray} (h : wn_ca s = wn_ca t) : s = t := ByteArray.ext (Array.toList_inj.mp (wn_cb_inj _ _ h))
def wn_cs (s : String) : Nat := wn_ca s.toByteArray
theorem wn_cs_inj {s t : String} (h : wn_cs s = wn_cs t) : s = t := String.toByteArray_inj.mp (wn_ca_inj h)
noncomputable def wn_us (n : Nat) : String := @dite _ (∃ s, wn_cs s = n) (Classical.propDecidable _) (fun h => Classical.choose h) (fun _ => "")
theorem wn_us_cs (s : String) : wn_us (wn_cs s) = s := by
  have h : ∃ t, wn_cs t = wn_cs s := ⟨s, rfl⟩
  unfold wn_us
  rw [dif_pos h]
  exact wn_cs_inj (Classical.choose_spec h)
noncomputable def wn_ub (n : Nat) : ByteArray := @dite _ (∃ s, wn_ca s = n) (Classical.propDecidable _) (fun h => Classical.choose h) (fun _ => ⟨#[]⟩)
theorem wn_ub_ca (s : ByteArray) : wn_ub (wn_ca s) = s := by
  have h : ∃ t, wn_ca t = wn_ca s := ⟨s, rfl⟩
  unfold wn_ub
  rw [dif_pos h]
  exact wn_ca_inj (Classical.choose_spec h)
def wn_ct : Cond → List Nat × Option FieldType × List (Nat × Nat × Nat × Nat)
  | .fieldLink a x b c d => ([1, x, wn_cs a, wn_cs b, wn_cs c, wn_cs d], none, [])
  | .fieldLinkNest a x b c d e => ([2, x, wn_cs a, wn_cs b, wn_cs c, wn_cs d, wn_cs e], none, [])
  | .methodLink a x m => ([3, x, wn_cs a, wn_cs m.cls, wn_cs m.name, wn_cs m.desc], none, [])
  | .methodLinkNest a x m e => ([4, x, wn_cs a, wn_cs m.cls, wn_cs m.name, wn_cs m.desc, wn_cs e], none, [])
  | .classLink a x b => ([5, x, wn_cs a, wn_cs b], none, [])
  | .instantiable a n => ([6, n, wn_cs a], none, [])
  | .initialized a => ([7, 0, wn_cs a], none, [])
  | .static m => ([8, 0, wn_cs m.cls, wn_cs m.name, wn_cs m.desc], none, [])
  | .instanceMethod m => ([9, 0, wn_cs m.cls, wn_cs m.name, wn_cs m.desc], none, [])
  | .native m => ([10, 0, wn_cs m.cls, wn_cs m.name, wn_cs m.desc], none, [])
  | .sameField a b c d => ([11, 0, wn_cs a, wn_cs b, wn_cs c, wn_cs d], none, [])
  | .sameMethod a b c d => ([12, 0, wn_cs a, wn_cs b, wn_cs c, wn_cs d], none, [])
  | .selects a m n => ([13, 0, wn_cs a, wn_cs m.cls, wn_cs m.name, wn_cs m.desc, wn_cs n.cls, wn_cs n.name, wn_cs n.desc], none, [])
  | .code m b n r => ([14, n, wn_cs m.cls, wn_cs m.name, wn_cs m.desc, wn_ca b], r, [])
  | .codeWith m b n r h => ([15, n, wn_cs m.cls, wn_cs m.name, wn_cs m.desc, wn_ca b], r, h)
  | _ => ([], none, [])
noncomputable def wn_dc (z : List Nat × Option FieldType × List (Nat × Nat × Nat × Nat)) : Cond :=
  match z.1.getD 0 0 with
  | 1 => .fieldLink (wn_us (z.1.getD 2 0)) (z.1.getD 1 0) (wn_us (z.1.getD 3 0)) (wn_us (z.1.getD 4 0)) (wn_us (z.1.getD 5 0))
  | 2 => .fieldLinkNest (wn_us (z.1.getD 2 0)) (z.1.getD 1 0) (wn_us (z.1.getD 3 0)) (wn_us (z.1.getD 4 0)) (wn_us (z.1.getD 5 0)) (wn_us (z.1.getD 6 0))
  | 3 => .methodLink (wn_us (z.1.getD 2 0)) (z.1.getD 1 0) ⟨wn_us (z.1.getD 3 0), wn_us (z.1.getD 4 0), wn_us (z.1.getD 5 0)⟩
  | 4 => .methodLinkNest (wn_us (z.1.getD 2 0)) (z.1.getD 1 0) ⟨wn_us (z.1.getD 3 0), wn_us (z.1.getD 4 0), wn_us (z.1.getD 5 0)⟩ (wn_us (z.1.getD 6 0))
  | 5 => .classLink (wn_us (z.1.getD 2 0)) (z.1.getD 1 0) (wn_us (z.1.getD 3 0))
  | 6 => .instantiable (wn_us (z.1.getD 2 0)) (z.1.getD 1 0)
  | 7 => .initialized (wn_us (z.1.getD 2 0))
  | 8 => .static ⟨wn_us (z.1.getD 2 0), wn_us (z.1.getD 3 0), wn_us (z.1.getD 4 0)⟩
  | 9 => .instanceMethod ⟨wn_us (z.1.getD 2 0), wn_us (z.1.getD 3 0), wn_us (z.1.getD 4 0)⟩
  | 10 => .native ⟨wn_us (z.1.getD 2 0), wn_us (z.1.getD 3 0), wn_us (z.1.getD 4 0)⟩
  | 11 => .sameField (wn_us (z.1.getD 2 0)) (wn_us (z.1.getD 3 0)) (wn_us (z.1.getD 4 0)) (wn_us (z.1.getD 5 0))
  | 12 => .sameMethod (wn_us (z.1.getD 2 0)) (wn_us (z.1.getD 3 0)) (wn_us (z.1.getD 4 0)) (wn_us (z.1.getD 5 0))
  | 13 => .selects (wn_us (z.1.getD 2 0)) ⟨wn_us (z.1.getD 3 0), wn_us (z.1.getD 4 0), wn_us (z.1.getD 5 0)⟩ ⟨wn_us (z.1.getD 6 0), wn_us (z.1.getD 7 0), wn_us (z.1.getD 8 0)⟩
  | 14 => .code ⟨wn_us (z.1.getD 2 0), wn_us (z.1.getD 3 0), wn_us (z.1.getD 4 0)⟩ (wn_ub (z.1.getD 5 0)) (z.1.getD 1 0) z.2.1
  | 15 => .codeWith ⟨wn_us (z.1.getD 2 0), wn_us (z.1.getD 3 0), wn_us (z.1.getD 4 0)⟩ (wn_ub (z.1.getD 5 0)) (z.1.getD 1 0) z.2.1 z.2.2
  | _ => .tt
theorem wn_dc_ct (w : Cond) (h : (wn_ct w).1 ≠ []) : wn_dc (wn_ct w) = w := by
  cases w with
  | fieldLink a x b c d => show Cond.fieldLink (wn_us (wn_cs a)) x (wn_us (wn_cs b)) (wn_us (wn_cs c)) (wn_us (wn_cs d)) = _; simp only [wn_us_cs]
  | fieldLinkNest a x b c d e => show Cond.fieldLinkNest (wn_us (wn_cs a)) x (wn_us (wn_cs b)) (wn_us (wn_cs c)) (wn_us (wn_cs d)) (wn_us (wn_cs e)) = _; simp only [wn_us_cs]
  | methodLink a x m => show Cond.methodLink (wn_us (wn_cs a)) x ⟨wn_us (wn_cs m.cls), wn_us (wn_cs m.name), wn_us (wn_cs m.desc)⟩ = _; simp only [wn_us_cs]
  | methodLinkNest a x m e => show Cond.methodLinkNest (wn_us (wn_cs a)) x ⟨wn_us (wn_cs m.cls), wn_us (wn_cs m.name), wn_us (wn_cs m.desc)⟩ (wn_us (wn_cs e)) = _; simp only [wn_us_cs]
  | classLink a x b => show Cond.classLink (wn_us (wn_cs a)) x (wn_us (wn_cs b)) = _; simp only [wn_us_cs]
  | instantiable a n => show Cond.instantiable (wn_us (wn_cs a)) n = _; simp only [wn_us_cs]
  | initialized a => show Cond.initialized (wn_us (wn_cs a)) = _; simp only [wn_us_cs]
  | static m => show Cond.static ⟨wn_us (wn_cs m.cls), wn_us (wn_cs m.name), wn_us (wn_cs m.desc)⟩ = _; simp only [wn_us_cs]
  | instanceMethod m => show Cond.instanceMethod ⟨wn_us (wn_cs m.cls), wn_us (wn_cs m.name), wn_us (wn_cs m.desc)⟩ = _; simp only [wn_us_cs]
  | native m => show Cond.native ⟨wn_us (wn_cs m.cls), wn_us (wn_cs m.name), wn_us (wn_cs m.desc)⟩ = _; simp only [wn_us_cs]
  | sameField a b c d => show Cond.sameField (wn_us (wn_cs a)) (wn_us (wn_cs b)) (wn_us (wn_cs c)) (wn_us (wn_cs d)) = _; simp only [wn_us_cs]
  | sameMethod a b c d => show Cond.sameMethod (wn_us (wn_cs a)) (wn_us (wn_cs b)) (wn_us (wn_cs c)) (wn_us (wn_cs d)) = _; simp only [wn_us_cs]
  | selects a m n => show Cond.selects (wn_us (wn_cs a)) ⟨wn_us (wn_cs m.cls), wn_us (wn_cs m.name), wn_us (wn_cs m.desc)⟩ ⟨wn_us (wn_cs n.cls), wn_us (wn_cs n.name), wn_us (wn_cs n.desc)⟩ = _; simp only [wn_us_cs]
  | code m b n r => show Cond.code ⟨wn_us (wn_cs m.cls), wn_us (wn_cs m.name), wn_us (wn_cs m.desc)⟩ (wn_ub (wn_ca b)) n r = _; simp only [wn_us_cs, wn_ub_ca]
  | codeWith m b n r l => show Cond.codeWith ⟨wn_us (wn_cs m.cls), wn_us (wn_cs m.name), wn_us (wn_cs m.desc)⟩ (wn_ub (wn_ca b)) n r l = _; simp only [wn_us_cs, wn_ub_ca]
  | _ => exact absurd rfl h
theorem wn_ct_inj {a b : Cond} (h : wn_ct a = wn_ct b) (hb : (wn_ct b).1 ≠ []) : a = b := by
  have ha : (wn_ct a).1 ≠ [] := by rw [h]; exact hb
  exact (wn_dc_ct a ha).symm.trans ((congrArg wn_dc h).trans (wn_dc_ct b hb))
def wn_leq : List Nat → List Nat → Bool
  | [], [] => true
  | x :: xs, y :: ys => Nat.beq x y && wn_leq xs ys
  | _, _ => false
theorem wn_leq_ok : ∀ l m, wn_leq l m = true → l = m
  | [], [], _ => rfl
  | x :: xs, y :: ys, h => by
    have h : (Nat.beq x y && wn_leq xs ys) = true := h
    rw [Bool.and_eq_true] at h
    rw [Nat.eq_of_beq_eq_true h.1, wn_leq_ok xs ys h.2]
  | [], _ :: _, h => absurd (show false = true from h) (by decide)
  | _ :: _, [], h => absurd (show false = true from h) (by decide)
def wn_gw (k : Nat) (w : Cond) : Bool := match (wn_ct w).1 with
  | [] => decide (am_gt k = some w)
  | _ :: _ => match am_gt k with
    | some z => wn_leq (wn_ct z).1 (wn_ct w).1 && decide ((wn_ct z).2 = (wn_ct w).2)
    | none => false
theorem wn_gw_ok {k : Nat} {w : Cond} (h : wn_gw k w = true) : am_gt k = some w := by
  unfold wn_gw at h
  cases hw : (wn_ct w).1 with
  | nil => rw [hw] at h; exact of_decide_eq_true h
  | cons a l =>
    cases hz : am_gt k with
    | none => rw [hw, hz] at h; cases h
    | some z =>
      rw [hw, hz] at h
      have h : (wn_leq (wn_ct z).1 (a :: l) && decide ((wn_ct z).2 = (wn_ct w).2)) = true := h
      rw [Bool.and_eq_true, decide_eq_true_eq] at h
      have e : wn_ct z = wn_ct w := Prod.ext ((wn_leq_ok _ _ h.1).trans hw.symm) h.2
      rw [wn_ct_inj e (by rw [hw]; exact List.cons_ne_nil _ _)]
def am_lw (w : Cond) (k : Nat) : Bool := wn_gw k w && goodWord w
theorem am_lw_ok {w : Cond} {k : Nat} (h : am_lw w k = true) : w ∈ am_aw := by
  unfold am_lw at h
  rw [Bool.and_eq_true] at h
  have h := And.intro (wn_gw_ok h.1) h.2
  exact List.mem_filter.mpr ⟨am_gt_mem h.1, h.2⟩
/-- words of nest mates' private members: they hold of the tables, not word by word -/
def am_xw : Cond → Bool
  | .fieldLinkNest _ _ _ _ _ _ => true
  | .methodLinkNest _ _ _ _ => true
  | _ => false
def am_nl : List Cond := lw_tbl.filter am_xw
def am_ln (w : Cond) (k : Nat) : Bool := wn_gw k w && am_xw w
theorem am_ln_ok {w : Cond} {k : Nat} (h : am_ln w k = true) : w ∈ am_nl := by
  unfold am_ln at h
  rw [Bool.and_eq_true] at h
  have h := And.intro (wn_gw_ok h.1) h.2
  rcases List.mem_append.mp (am_gt_mem h.1) with q | q
  · exact List.mem_filter.mpr ⟨q, h.2⟩
  · obtain ⟨z, -, rfl⟩ := List.mem_map.mp q
    have e : false = true := h.2
    cases e
def am_yy (m : Nat) : MethodName := (am_mt m).1
def am_by (m : Nat) : ByteArray := (am_mt m).2.1
def am_ry (m : Nat) : Option FieldType := (am_mt m).2.2.2.1
def am_hh (m : Nat) : List (Nat × Nat × Nat × Nat) := (am_mt m).2.2.2.2.2
def am_ow (m : Nat) : String := (am_yy m).cls
def am_cp (m : Nat) : Nat := am_cps.getD m 0
def am_cw (m : Nat) : Cond := if am_hh m = [] then .code (am_yy m) (am_by m) (am_ml m) (am_ry m) else .codeWith (am_yy m) (am_by m) (am_ml m) (am_ry m) (am_hh m)
def am_hosts : List String := ["Bumpward", "BumpwardModel", "BumpwardLaw", "java/util/ArrayList"]
/-- a callee: its code, its arguments -/
def am_cal (m n : Nat) : Bool := decide (am_ml m ≤ 100) && am_lw (am_cw m) (am_cp m) && plainName (am_ow m) && decide (am_ow m ≠ "java/lang/invoke/MethodHandle" ∧ am_ow m ≠ "java/lang/invoke/VarHandle") && decide ((parseMethodDescriptor (am_yy m).desc).map (fun d => d.parameters.length) = some n)
def am_tyl (t : Nat) : FieldType := if t = 0 then .int else if t = 1 then .long else if t = 2 then .boolean else if t = 3 then .byte else if t = 4 then .object "Bumpward$Walker" else if t = 5 then .object "java/lang/Object" else .array .int
/-- getfield, putfield -/
def am_lf (own : String) (x ci k p : Nat) (p2 : List Nat) : Bool := match am_cl[ci]? with
  | some (C, T, N) => decide (k < N) && (am_lw (.fieldLink own x (T k).1 (T k).2.1 (T k).2.2.1) p || am_hosts.any (fun h => am_ln (.fieldLinkNest own x (T k).1 (T k).2.1 (T k).2.2.1 h) p) ||
      (match p2 with | p' :: _ => am_lw (.fieldLink own x C (T k).2.1 (T k).2.2.1) p && am_lw (.sameField C (T k).1 (T k).2.1 (T k).2.2.1) p' | [] => false))
  | none => false
def am_lp (m ci k x q : Nat) : Bool := match am_cl[ci]? with
  | some (_, T, _) => !(T k).2.2.2 || (decide ((am_yy m).name = "<init>") && decide ((T k).1 = am_ow m) && am_lw (.fieldLink (am_ow m) x (T k).1 (T k).2.1 (T k).2.2.1) q)
  | none => false
/-- statics: references (by number), whole numbers -/
def am_stats : List (Nat × String × String × String) := [(0, "Bumpward$Grid", "OUTER", "[J"), (1, "java/util/ArrayList", "DEFAULTCAPACITY_EMPTY_ELEMENTDATA", "[Ljava/lang/Object;"), (2, "java/lang/Integer", "DigitOnes", "[B"), (3, "java/lang/Integer", "DigitTens", "[B"), (4, "jdk/internal/util/Preconditions", "SIOOBE_FORMATTER", "Ljava/util/function/BiFunction;")]
def am_stati : List (String × String × String × Nat) := [("java/lang/String", "COMPACT_STRINGS", "Z", 1)]
/-- who throws what, by which entry of its pool -/
def am_ths : List (String × Nat × String) := [("Bumpward", 227, "java/lang/IndexOutOfBoundsException"), ("Bumpward", 342, "java/lang/IllegalArgumentException"), ("Bumpward", 83, "java/lang/IllegalStateException")]
def am_tnm : List String := ["java/lang/RuntimeException", "java/lang/Exception"]
def am_lkN (m : Nat) (x : Nat) (an : List Nat) : Bool := match an with
  | 0 :: ci :: n :: p :: p1 :: p2 :: _ => match am_cl[ci]? with
    | some (C, _, N) => decide (n = N ∧ ci < 12) && am_lw (.classLink (am_ow m) x C) p && am_lw (.instantiable C N) p1 && am_lw (.initialized C) p2
    | none => false
  | [] => true
  | 0 :: _ => false
  | k :: z :: p :: p1 :: _ :: is :: ic :: _ => decide ((k = 1 ∨ k = 2) ∧ am_hh m = []) && am_lw (.classLink (am_ow m) x (am_xn z)) p && am_lw (.initialized (am_xn z)) p1 && decide ((am_ow m, ic, am_xn z) ∈ am_ths) && am_strs.any (fun q => decide (q.1 = am_ow m ∧ q.2.1 = is))
  | _ => false
def am_lkM (m : Nat) (x d : Nat) (an : List Nat) : Bool := match an with
  | 6 :: p :: _ :: p1 :: _ => decide (d = 2) && am_lw (.classLink (am_ow m) x "[[I") p && am_lw (.arrayClass .int) p1
  | _ => false
def am_lkS (m : Nat) (x : Nat) (an : List Nat) : Bool := match an with
  | 1 :: p :: p1 :: p2 :: p3 :: _ => am_lw (.methodLink (am_ow m) x Lib.Math.max.name) p && am_lw (.static Lib.Math.max.name) p1 && am_lw (.initialized "java/lang/Math") p2 && am_lw (.code Lib.Math.max.name Lib.Math.max.code 2 (some .int)) p3
  | 2 :: p :: p1 :: p2 :: p3 :: _ => am_lw (.methodLink (am_ow m) x Lib.Math.min.name) p && am_lw (.static Lib.Math.min.name) p1 && am_lw (.initialized "java/lang/Math") p2 && am_lw (.code Lib.Math.min.name Lib.Math.min.code 2 (some .int)) p3
  | 3 :: p :: p1 :: p2 :: p3 :: _ => am_lw (.methodLink (am_ow m) x Lib.Math.abs.name) p && am_lw (.static Lib.Math.abs.name) p1 && am_lw (.initialized "java/lang/Math") p2 && am_lw (.code Lib.Math.abs.name Lib.Math.abs.code 1 (some .int)) p3
  | 4 :: p :: p1 :: p2 :: p3 :: _ => am_lw (.methodLink (am_ow m) x arraycopyName) p && am_lw (.native arraycopyName) p1 && am_lw (.static arraycopyName) p2 && am_lw (.initialized "java/lang/System") p3
  | 0 :: m' :: n :: p :: p1 :: p2 :: _ => am_cal m' n && am_lw (.static (am_yy m')) p1 && am_lw (.initialized (am_ow m')) p2 && (am_lw (.methodLink (am_ow m) x (am_yy m')) p || (decide (am_hh m' = []) && am_hosts.any (fun h => am_ln (.methodLinkNest (am_ow m) x (am_yy m') h) p)))
  | [] => true
  | _ => false
def am_lkP (m : Nat) (x : Nat) (an : List Nat) : Bool := match an with
  | 1 :: p :: p1 :: p2 :: _ => am_lw (.methodLink (am_ow m) x objectInit) p && am_lw (.instanceMethod objectInit) p1 && am_lw (.code objectInit ⟨#[0xb1]⟩ 1 none) p2
  | 0 :: m' :: n :: p :: p1 :: p2 :: _ => am_cal m' n && decide ((am_yy m').name = "<init>" ∧ am_hh m' = [] ∧ am_ry m' = none) && am_lw (.instanceMethod (am_yy m')) p1 && am_lw (.initialized (am_ow m')) p2 && (am_lw (.methodLink (am_ow m) x (am_yy m')) p || am_hosts.any (fun h => am_ln (.methodLinkNest (am_ow m) x (am_yy m') h) p))
  | 2 :: m' :: n :: ci :: p :: p1 :: p2 :: p3 :: p4 :: _ => decide (ci < 12) && am_cal m' n && decide ((am_yy m').name ≠ "<init>" ∧ am_hh m' = []) && am_lw (.methodLink (am_ow m) x (am_yy m')) p && am_lw (.sameMethod (am_ow m') (am_ow m') (am_yy m').name (am_yy m').desc) p1 && am_lw (.superclass (am_ow m) (am_ow m')) p2 && am_lw (.instanceMethod (am_yy m')) p3 && am_lw (.initialized (am_ow m')) p4
  | [] => true
  | _ => false
/-- Iterator's members, and who they are -/
def am_ifs : List (String × MethodName × MethodName) := [("java/util/ArrayList$Itr", ⟨"java/util/Iterator", "hasNext", "()Z"⟩, ⟨"java/util/ArrayList$Itr", "hasNext", "()Z"⟩), ("java/util/ArrayList$Itr", ⟨"java/util/Iterator", "next", "()Ljava/lang/Object;"⟩, ⟨"java/util/ArrayList$Itr", "next", "()Ljava/lang/Object;"⟩)]
def am_lkF (m : Nat) (x : Nat) (an : List Nat) : Bool := match an with
  | 0 :: m' :: n :: ci :: p :: p1 :: p2 :: p3 :: _ => match am_cl[ci]? with
    | some (C, _, _) => am_cal m' n && decide (am_hh m' = []) && am_ifs.any (fun q => decide (q.1 = C ∧ q.2.2 = am_yy m') && am_lw (.methodLink (am_ow m) x q.2.1) p && am_lw (.selects C q.2.1 (am_yy m')) p1 && am_lw (.instanceMethod (am_yy m')) p2 && am_lw (.initialized (am_ow m')) p3)
    | none => false
  | [] => true
  | _ => false
def am_lkV (m : Nat) (x : Nat) (an : List Nat) : Bool := match an with
  | 1 :: p :: p1 :: p2 :: p3 :: p4 :: p5 :: _ => am_lw (.methodLink (am_ow m) x ⟨"[J", "clone", "()Ljava/lang/Object;"⟩) p && am_lw (.sameMethod "[J" "java/lang/Object" "clone" "()Ljava/lang/Object;") p1 && am_lw (.native ⟨"java/lang/Object", "clone", "()Ljava/lang/Object;"⟩) p2 && am_lw (.instanceMethod ⟨"java/lang/Object", "clone", "()Ljava/lang/Object;"⟩) p3 && am_lw (.selects "[J" ⟨"[J", "clone", "()Ljava/lang/Object;"⟩ ⟨"java/lang/Object", "clone", "()Ljava/lang/Object;"⟩) p4
  | 0 :: m' :: n :: ci :: p :: p1 :: p2 :: p3 :: _ => match am_cl[ci]? with
    | some (C, _, _) => am_cal m' n && decide (am_ow m' = C ∧ am_hh m' = []) && am_lw (.methodLink (am_ow m) x (am_yy m')) p && am_lw (.instanceMethod (am_yy m')) p1 && am_lw (.selects C (am_yy m') (am_yy m')) p2 && am_lw (.initialized C) p3
    | none => false
  | 3 :: m' :: n :: ci :: p :: p1 :: p2 :: p3 :: p4 :: p5 :: j :: _ => match am_cl[ci]? with
    | some (C, _, _) => am_cal m' n && decide (am_hh m' = []) && am_lw (.methodLink (am_ow m) x ⟨"java/lang/AbstractStringBuilder", (am_yy m').name, (am_yy m').desc⟩) p && am_lw (.sameMethod "java/lang/AbstractStringBuilder" "java/lang/AbstractStringBuilder" (am_yy m').name (am_yy m').desc) p1 && am_lw (.instanceMethod ⟨"java/lang/AbstractStringBuilder", (am_yy m').name, (am_yy m').desc⟩) p2 && am_lw (.selects C ⟨"java/lang/AbstractStringBuilder", (am_yy m').name, (am_yy m').desc⟩ (am_yy m')) p3 && am_lw (.instanceMethod (am_yy m')) p4 && am_lw (.initialized (am_ow m')) p5 && decide (am_yy j = ⟨"java/lang/AbstractStringBuilder", (am_yy m').name, (am_yy m').desc⟩ ∧ am_hh j = []) && am_lw (am_cw j) (am_cp j)
    | none => false
  | 2 :: m' :: n :: ci :: p :: p1 :: p2 :: p3 :: p4 :: _ => match am_cl[ci]? with
    | some (C, _, _) => am_cal m' n && decide (am_hh m' = []) && am_lw (.methodLink (am_ow m) x (am_yy m')) p && am_lw (.sameMethod (am_ow m') (am_ow m') (am_yy m').name (am_yy m').desc) p1 && am_lw (.selects C (am_yy m') (am_yy m')) p2 && am_lw (.instanceMethod (am_yy m')) p3 && am_lw (.initialized (am_ow m')) p4
    | none => false
  | [] => true
  | _ => false
def am_lk (m : Nat) (i : Instr) (an : List Nat) : Bool := match i with
  | .ldc x => match an with
    | 0 :: n :: p :: _ => am_lw (.constant (am_ow m) x (Int32.ofNat n)) p
    | 1 :: k :: _ => am_strs.any (fun q => decide (q.1 = am_ow m ∧ q.2.1 = x ∧ q.2.2.2 = k))
    | [] => true
    | _ => false
  | .ldc_w x => match an with
    | 0 :: n :: p :: _ => am_lw (.constant (am_ow m) x (Int32.ofNat n)) p
    | 1 :: k :: _ => am_strs.any (fun q => decide (q.1 = am_ow m ∧ q.2.1 = x ∧ q.2.2.2 = k))
    | [] => true
    | _ => false
  | .ldc2_w x => match an with
    | 0 :: n :: p :: _ => am_lw (.constantLong (am_ow m) x (Int64.ofNat n)) p
    | 1 :: n :: p :: _ => am_lw (.constantDouble (am_ow m) x (UInt64.ofNat n)) p
    | [] => true
    | _ => false
  | .getfield x => match an with
    | _ :: ci :: k :: p :: r => am_lf (am_ow m) x ci k p r
    | [] => true
    | _ => false
  | .putfield x => match an with
    | _ :: ci :: k :: p :: r => am_lf (am_ow m) x ci k p r && am_lp m ci k x p && decide (ci < 12)
    | [] => true
    | _ => false
  | .new x => am_lkN m x an
  | .newarray t => match an with
    | k :: p :: _ => decide (newarray.typeOf t = am_tyl k ∧ k < 4) && am_lw (.arrayClass (am_tyl k)) p
    | [] => true
    | _ => false
  | .invokestatic x => am_lkS m x an
  | .invokespecial x => am_lkP m x an
  | .invokevirtual x => am_lkV m x an
  | .invokeinterface x _ => am_lkF m x an
  | .getstatic x => match an with
    | 0 :: n :: p :: _ => am_stati.any (fun z => decide (z.2.2.2 = n) && am_lw (.fieldLink (am_ow m) x z.1 z.2.1 z.2.2.1) p)
    | 1 :: k :: p :: _ => am_stats.any (fun z => decide (z.1 = k) && am_lw (.fieldLink (am_ow m) x z.2.1 z.2.2.1 z.2.2.2) p)
    | [] => true
    | _ => false
  | .aastore => match an with
    | t :: ci :: p :: _ => (match am_cl[ci]? with
      | some (C, _, _) => decide (t = 4 ∧ C = "Bumpward$Walker") || decide (t = 5 ∧ C = "BumpwardModel$Walker" ∧ p = p)
      | none => false)
    | [] => true
    | _ => false
  | .anewarray x => match an with
    | t :: p :: _ => (decide (t = 4) && am_lw (.classLink (am_ow m) x "Bumpward$Walker") p) || (decide (t = 5) && am_lw (.classLink (am_ow m) x "java/lang/Object") p)
    | [] => true
    | _ => false
  | .multianewarray x d => am_lkM m x d an
  | .checkcast x => match an with
    | 0 :: ci :: p :: _ => (match am_cl[ci]? with
      | some (C, _, _) => am_lw (.classLink (am_ow m) x C) p
      | none => false)
    | 1 :: t :: p :: _ => decide (t < 7) && am_lw (.classLink (am_ow m) x ("[" ++ (am_tyl t).toString)) p
    | [] => true
    | _ => false
  | .instanceof x => match an with
    | 0 :: ci :: p :: _ => (match am_cl[ci]? with
      | some (C, _, _) => am_lw (.classLink (am_ow m) x C) p
      | none => false)
    | [] => true
    | _ => false
  | .baload => match an with
    | t :: _ => decide (t = 2 ∨ t = 3)
    | [] => true
  | .bastore => match an with
    | t :: _ => decide (t = 2 ∨ t = 3)
    | [] => true
  | .ireturn => match an with
    | t :: _ => decide (am_ry m = some (am_rt t) ∧ t < 4) || decide (4 ≤ t)
    | [] => true
  | .lreturn => decide (am_ry m = some .long)
  | .dreturn => decide (am_ry m = some .double)
  | .areturn => match am_ry m with
    | some (.object _) => true
    | some (.array _) => true
    | _ => false
  | .return_ => decide (am_ry m = none)
  | _ => true
/-- an instruction's length -/
def am_il : Instr → Nat
  | .bipush _ => 2
  | .ldc _ => 2
  | .iload _ => 2
  | .lload _ => 2
  | .dload _ => 2
  | .aload _ => 2
  | .istore _ => 2
  | .lstore _ => 2
  | .dstore _ => 2
  | .astore _ => 2
  | .newarray _ => 2
  | .sipush _ => 3
  | .ldc_w _ => 3
  | .ldc2_w _ => 3
  | .getfield _ => 3
  | .putfield _ => 3
  | .getstatic _ => 3
  | .goto _ => 3
  | .ifCond _ _ => 3
  | .if_icmp _ _ => 3
  | .if_acmp _ _ => 3
  | .ifnull _ => 3
  | .ifnonnull _ => 3
  | .iinc _ _ => 3
  | .new _ => 3
  | .anewarray _ => 3
  | .checkcast _ => 3
  | .instanceof _ => 3
  | .invokevirtual _ => 3
  | .invokespecial _ => 3
  | .invokestatic _ => 3
  | .multianewarray _ _ => 4
  | .invokeinterface _ _ => 5
  | _ => 1
def am_isw : Instr → Bool
  | .tableswitch _ _ _ _ => true
  | .lookupswitch _ _ => true
  | _ => false
/-- a fork's target is a place -/
def am_lj (m pc : Nat) (i : Instr) (an : List Nat) : Bool := match i with
  | .ifCond _ o => decide (0 ≤ (pc : Int) + o)
  | .if_icmp _ o => decide (0 ≤ (pc : Int) + o)
  | .if_acmp _ o => decide (0 ≤ (pc : Int) + o)
  | .new _ => match an with
    | 1 :: _ :: _ :: _ :: _ :: is :: ic :: _ => decide (decode (am_by m) (pc + 3) = .ok (.dup, 1)) && decide (decode (am_by m) (pc + 4) = .ok (.ldc is, 2)) && decide (decode (am_by m) (pc + 6) = .ok (.invokespecial ic, 3)) && decide (decode (am_by m) (pc + 9) = .ok (.athrow, 1))
    | 2 :: _ :: _ :: _ :: _ :: is :: ic :: _ => decide (decode (am_by m) (pc + 3) = .ok (.dup, 1)) && decide (decode (am_by m) (pc + 4) = .ok (.ldc_w is, 3)) && decide (decode (am_by m) (pc + 7) = .ok (.invokespecial ic, 3)) && decide (decode (am_by m) (pc + 10) = .ok (.athrow, 1))
    | _ => true
  | _ => true
def am_okr (m : Nat) (r : am_Row) : Bool := decide (decode (am_by m) r.1 = .ok (r.2.1, r.2.2.1)) && am_lk m r.2.1 r.2.2.2.1 && (am_isw r.2.1 || decide (r.2.2.1 = am_il r.2.1)) && am_lj m r.1 r.2.1 r.2.2.2.1
def am_okm (m : Nat) : Bool := (am_mth m).all (am_okr m)
/-- a row's check, its decoding taken once -/
def am_okr3 (m : Nat) (r : am_Row) : Bool := (match decode (am_by m) r.1 with | .ok z => decide (z.1 = r.2.1) && Nat.beq z.2 r.2.2.1 | .error _ => false) && (am_lk m r.2.1 r.2.2.2.1 && (am_isw r.2.1 || decide (r.2.2.1 = am_il r.2.1)) && am_lj m r.1 r.2.1 r.2.2.2.1)
theorem am_okr3_ok {m : Nat} {r : am_Row} (h : am_okr3 m r = true) : am_okr m r = true := by
  unfold am_okr3 at h
  rw [Bool.and_eq_true] at h
  obtain ⟨h1, h2⟩ := h
  have e : decode (am_by m) r.1 = .ok (r.2.1, r.2.2.1) := by
    cases hd : decode (am_by m) r.1 with
    | error e => rw [hd] at h1; cases h1
    | ok z =>
      rw [hd] at h1
      have h1 : (decide (z.1 = r.2.1) && Nat.beq z.2 r.2.2.1) = true := h1
      rw [Bool.and_eq_true, decide_eq_true_eq] at h1
      exact congrArg Except.ok (Prod.ext h1.1 (Nat.eq_of_beq_eq_true h1.2))
  unfold am_okr
  rw [decide_eq_true e, Bool.true_and]
  exact h2
theorem am_all3 {m : Nat} {l : List am_Row} (h : l.all (am_okr3 m) = true) : l.all (am_okr m) = true := List.all_eq_true.mpr fun r hr => am_okr3_ok (List.all_eq_true.mp h r hr)
/-! A method's rows at once, its bytes read from left to right. Mine. -/
def am_okr2 (m : Nat) (r : am_Row) : Bool := am_lk m r.2.1 r.2.2.2.1 && (am_isw r.2.1 || decide (r.2.2.1 = am_il r.2.1)) && am_lj m r.1 r.2.1 r.2.2.2.1
def am_ctg : Nat → List am_Row → Bool
  | _, [] => true
  | a, r :: t => Nat.beq r.1 a && am_ctg (a + r.2.2.1) t
def am_pr (l : List am_Row) : List (Instr × Nat) := l.map fun r => (r.2.1, r.2.2.1)
def am_okq (m a : Nat) (l : List am_Row) : Bool := am_ctg a l && Jvm.Free.DS.chk ((am_by m).data.toList.drop a) a (am_pr l) && decide (a + ((am_pr l).map (·.2)).sum ≤ (am_by m).size) && l.all (am_okr2 m)
theorem am_ctg_ok {m : Nat} : ∀ (l : List am_Row) (a : Nat), am_ctg a l = true → Jvm.Free.DS.Facts (am_by m) a (am_pr l) → l.all (am_okr2 m) = true → l.all (am_okr m) = true
  | [], _, _, _, _ => rfl
  | r :: t, a, h, f, g => by
    have h : (Nat.beq r.1 a && am_ctg (a + r.2.2.1) t) = true := h
    have f : decode (am_by m) a = .ok (r.2.1, r.2.2.1) ∧ Jvm.Free.DS.Facts (am_by m) (a + r.2.2.1) (am_pr t) := f
    have g : (am_okr2 m r && t.all (am_okr2 m)) = true := g
    rw [Bool.and_eq_true] at h g
    obtain rfl : r.1 = a := Nat.eq_of_beq_eq_true h.1
    show (am_okr m r && t.all (am_okr m)) = true
    rw [Bool.and_eq_true]
    refine ⟨?_, am_ctg_ok t _ h.2 f.2 g.2⟩
    have g1 := g.1
    unfold am_okr2 at g1
    unfold am_okr
    rw [decide_eq_true f.1, Bool.true_and]
    exact g1
theorem am_okq_ok {m a : Nat} {l : List am_Row} (h : am_okq m a l = true) : l.all (am_okr m) = true := by
  unfold am_okq at h
  simp only [Bool.and_eq_true, decide_eq_true_eq] at h
  exact am_ctg_ok l a h.1.1.1 (Jvm.Free.DS.facts a _ h.1.1.2 h.1.2) h.2
/-- the store of what was caught, behind it nothing is alive -/
def am_stk : Instr → Option Nat
  | .astore k => some k
  | .astore_n k => some k.val
  | _ => none
def am_hck (m : Nat) : Bool := (am_hh m).all fun h => decide (h.2.2.2 ≠ 0) && (match am_fetch (am_mth m) h.2.2.1 with
  | some q => (match am_stk q.1 with
    | some k => decide (k < am_ml m) && (List.range (am_ml m)).all (fun i => (am_dead m (h.2.2.1 + q.2.1)).contains i)
    | none => false)
  | none => false) && decide (am_ct h.2.2.2 ∈ am_exn) && decide (Cond.classLink (am_ow m) h.2.2.2 (am_ct h.2.2.2) ∈ am_aw)
end
