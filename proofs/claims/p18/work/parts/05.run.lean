/-! RUNNING: am_runN n: at most n instructions deep; am_run: what it comes to. Mine. -/
def am_fetch : List am_Row → Nat → Option (Instr × Nat × List Nat × List Nat)
  | [], _ => none
  | r :: t, pc => bif Nat.beq r.1 pc then some r.2 else am_fetch t pc
def am_mth (m : Nat) : List am_Row := (am_progs.getD (m / 40) []).getD (m % 40) []
def am_mt (m : Nat) : MethodName × ByteArray × Nat × Option FieldType × Nat × List (Nat × Nat × Nat × Nat) := (am_metas.getD (m / 40) []).getD (m % 40) (⟨"", "", ""⟩, .mk #[], 0, none, 0, [])
def am_ml (m : Nat) : Nat := (am_mt m).2.2.1
def am_hg (m : Nat) : Nat := (am_mt m).2.2.2.2.1
def am_dead (m pc : Nat) : List Nat := match am_fetch (am_mth m) pc with
  | some q => q.2.2.2
  | none => []
def am_kill : List Nat → am_Lc → am_Lc
  | [], l => l
  | i :: t, l => am_kill t (l.set i none)
def am_nrm (m pc : Nat) (ls : am_Lc) : am_Lc := am_kill (am_dead m pc) ls
def am_xp : List Value → am_Lc
  | [] => []
  | v :: t => bif am_c2 v then some v :: none :: am_xp t else some v :: am_xp t
def am_ent (m : Nat) (as : List Value) : am_Lc := am_nrm m 0 (am_xp as ++ List.replicate (am_ml m - (am_xp as).length) none)
/-- the law's catches, by their entries of its pool -/
def am_ct (k : Nat) : String := if k = 19 then "java/lang/IndexOutOfBoundsException" else if k = 21 then "java/lang/IllegalArgumentException" else "java/lang/IllegalStateException"
def am_hs (pc : Nat) (E : String) : List (Nat × Nat × Nat × Nat) → Option Nat
  | [] => none
  | h :: t => if h.1 ≤ pc ∧ pc < h.2.1 ∧ am_ct h.2.2.2 = E then some h.2.2.1 else am_hs pc E t
/-- behind the handler's own store -/
def am_hd (m pc : Nat) (E : String) : Option Nat := (am_hs pc E (am_mt m).2.2.2.2.2).bind fun h => (am_fetch (am_mth m) h).map fun q => h + q.2.1
/-- cells and slots don't grow less -/
abbrev am_ge (w w' : am_Wd) : Prop := w.2.1 ≤ w'.2.1 ∧ w.2.2.1 ≤ w'.2.2.1
def am_runN : Nat → Nat → Nat → am_Lc → List Value → am_Wd → am_Rs
  | 0, _, _, _, _, _ => none
  | n + 1, m, pc, ls, st, w => match am_fetch (am_mth m) pc with
    | none => none
    | some q => match am_stp pc q.1 q.2.2.1 ls st w with
      | none => none
      | some (.inl a) => if am_ge w a.2.2.2 then am_runN n m a.1 (am_nrm m a.1 a.2.1) a.2.2.1 a.2.2.2 else none
      | some (.inr (.inl c)) => if am_hg c.1 < am_hg m ∧ (am_xp c.2.1).length ≤ am_ml c.1 then (match am_runN n c.1 0 (am_ent c.1 c.2.1) [] w with
        | none => none
        | some r => match r.1 with
          | .inl v => am_runN n m c.2.2.1 (am_nrm m c.2.2.1 ls) (v.toList ++ c.2.2.2) r.2
          | .inr E => match am_hd m pc E with
            | none => some r
            | some h => am_runN n m h (am_nrm m h ls) [] r.2) else none
      | some (.inr (.inr r)) => if am_ge w r.2 then some r else none
theorem am_mono : ∀ (n m pc : Nat) (ls : am_Lc) (st : List Value) (w : am_Wd) (r : am_Out × am_Wd), am_runN n m pc ls st w = some r → am_runN (n + 1) m pc ls st w = some r := by
  intro n
  induction n with
  | zero => intro m pc ls st w r h; cases h
  | succ n ih =>
    intro m pc ls st w r h
    rw [am_runN] at h
    rw [am_runN]
    split at h
    · cases h
    · rename_i q hq
      try rw [hq]
      try dsimp only at h ⊢
      split at h
      · cases h
      · rename_i a ha
        try rw [ha]
        try dsimp only at h ⊢
        split at h
        · rename_i hg
          try rw [if_pos hg]
          exact ih _ _ _ _ _ _ h
        · cases h
      · rename_i c hc
        try rw [hc]
        try dsimp only at h ⊢
        split at h
        · rename_i hg
          try rw [if_pos hg]
          split at h
          · cases h
          · rename_i r1 hr1
            rw [ih _ _ _ _ _ _ hr1]
            try dsimp only at h ⊢
            split at h
            · exact ih _ _ _ _ _ _ h
            · rename_i E hE
              split at h
              · rename_i hd; (try rw [hd]); exact h
              · rename_i hd hh; (try rw [hh]); exact ih _ _ _ _ _ _ h
        · cases h
      · rename_i r1 hr1
        try rw [hr1]
        try dsimp only at h ⊢
        exact h
theorem am_monoL {n k m pc : Nat} {ls : am_Lc} {st : List Value} {w : am_Wd} {r : am_Out × am_Wd} (h : am_runN n m pc ls st w = some r) (hk : n ≤ k) : am_runN k m pc ls st w = some r := by
  induction hk with
  | refl => exact h
  | step _ ih => exact am_mono _ _ _ _ _ _ _ ih

noncomputable def am_run (m pc : Nat) (ls : am_Lc) (st : List Value) (w : am_Wd) : am_Rs := @dite am_Rs (∃ (r : am_Out × am_Wd) (n : Nat), am_runN n m pc ls st w = some r) (Classical.propDecidable _) (fun h => some h.choose) (fun _ => none)
theorem am_run_of {n m pc : Nat} {ls : am_Lc} {st : List Value} {w : am_Wd} {r : am_Out × am_Wd} (h : am_runN n m pc ls st w = some r) : am_run m pc ls st w = some r := by
  unfold am_run
  have he : ∃ (r : am_Out × am_Wd) (n : Nat), am_runN n m pc ls st w = some r := ⟨r, n, h⟩
  rw [dif_pos he]
  obtain ⟨k, hk⟩ := he.choose_spec
  rcases Nat.le_total n k with q | q
  · rw [am_monoL h q] at hk; exact hk.symm
  · rw [am_monoL hk q] at h; exact h
theorem am_run_to {m pc : Nat} {ls : am_Lc} {st : List Value} {w : am_Wd} {r : am_Out × am_Wd} (h : am_run m pc ls st w = some r) : ∃ n, am_runN n m pc ls st w = some r := by
  unfold am_run at h
  by_cases he : ∃ (r : am_Out × am_Wd) (n : Nat), am_runN n m pc ls st w = some r
  · rw [dif_pos he] at h
    obtain ⟨k, hk⟩ := he.choose_spec
    exact ⟨k, by rw [hk]; exact h⟩
  · rw [dif_neg he] at h
    cases h
theorem am_ext {a b : am_Rs} (h : ∀ r, a = some r ↔ b = some r) : a = b := by
  cases a with
  | none => cases b with
    | none => rfl
    | some r => exact absurd ((h r).mpr rfl) (by simp)
  | some r => exact ((h r).mp rfl).symm
/-- on -/
theorem am_e1 {m pc : Nat} {i : Instr} {k : Nat} {an dd : List Nat} {ls : am_Lc} {st : List Value} {w : am_Wd} {pc' : Nat} {ls' : am_Lc} {st' : List Value} {w' : am_Wd} (hf : am_fetch (am_mth m) pc = some (i, k, an, dd)) (hs : am_stp pc i an ls st w = some (.inl (pc', ls', st', w'))) (hge : am_ge w w') :
    am_run m pc ls st w = am_run m pc' (am_nrm m pc' ls') st' w' := by
  refine am_ext fun r => ⟨fun h => ?_, fun h => ?_⟩
  · obtain ⟨n, hn⟩ := am_run_to h
    cases n with
    | zero => cases hn
    | succ n =>
      rw [am_runN, hf] at hn
      dsimp only at hn
      rw [hs] at hn
      dsimp only at hn
      rw [if_pos hge] at hn
      exact am_run_of hn
  · obtain ⟨n, hn⟩ := am_run_to h
    refine am_run_of (n := n + 1) ?_
    rw [am_runN, hf]
    dsimp only
    rw [hs]
    dsimp only
    rw [if_pos hge]
    exact hn
/-- nowhere -/
theorem am_e0 {m pc : Nat} {i : Instr} {k : Nat} {an dd : List Nat} {ls : am_Lc} {st : List Value} {w : am_Wd} (hf : am_fetch (am_mth m) pc = some (i, k, an, dd)) (hs : am_stp pc i an ls st w = none) : am_run m pc ls st w = none := by
  refine am_ext fun r => ⟨fun h => ?_, fun h => by cases h⟩
  obtain ⟨n, hn⟩ := am_run_to h
  cases n with
  | zero => cases hn
  | succ n =>
    rw [am_runN, hf] at hn
    dsimp only at hn
    rw [hs] at hn
    cases hn
/-- the end -/
theorem am_e2 {m pc : Nat} {i : Instr} {k : Nat} {an dd : List Nat} {ls : am_Lc} {st : List Value} {w : am_Wd} {r : am_Out × am_Wd} (hf : am_fetch (am_mth m) pc = some (i, k, an, dd)) (hs : am_stp pc i an ls st w = some (.inr (.inr r))) (hge : am_ge w r.2) : am_run m pc ls st w = some r := by
  refine am_run_of (n := 1) ?_
  rw [am_runN, hf]
  dsimp only
  rw [hs]
  dsimp only
  rw [if_pos hge]
/-- a step that asks the world first -/
theorem am_eb {α : Type} {m pc : Nat} {i : Instr} {k : Nat} {an dd : List Nat} {ls : am_Lc} {st : List Value} {w : am_Wd} {pc' : Nat} {ls' : am_Lc} {o : Option α} {F : α → List Value} {G : α → am_Wd} (hf : am_fetch (am_mth m) pc = some (i, k, an, dd)) (hs : am_stp pc i an ls st w = o.bind (fun v => some (.inl (pc', ls', F v, G v)))) (hge : ∀ v, o = some v → am_ge w (G v)) :
    am_run m pc ls st w = o.bind (fun v => am_run m pc' (am_nrm m pc' ls') (F v) (G v)) := by
  cases o with
  | none => exact am_e0 hf hs
  | some v => exact am_e1 hf hs (hge v rfl)
/-- a fork -/
theorem am_ec {c : Prop} {hc : Decidable c} {m pc : Nat} {i : Instr} {k : Nat} {an dd : List Nat} {ls : am_Lc} {st : List Value} {w : am_Wd} {a b : Nat} {st' : List Value} (hf : am_fetch (am_mth m) pc = some (i, k, an, dd)) (ht : c → am_stp pc i an ls st w = some (.inl (a, ls, st', w))) (he : ¬ c → am_stp pc i an ls st w = some (.inl (b, ls, st', w))) :
    am_run m pc ls st w = if c then am_run m a (am_nrm m a ls) st' w else am_run m b (am_nrm m b ls) st' w := by
  by_cases h : c
  · rw [if_pos h]; exact am_e1 hf (ht h) ⟨Nat.le_refl _, Nat.le_refl _⟩
  · rw [if_neg h]; exact am_e1 hf (he h) ⟨Nat.le_refl _, Nat.le_refl _⟩
/-- what a method does to its arguments, in a world -/
noncomputable def am_x (m : Nat) (as : List Value) (w : am_Wd) : am_Rs := am_run m 0 (am_ent m as) [] w
/-- what comes behind a call -/
def am_af (m pc : Nat) (r : am_Out × am_Wd) (k : Option Value → am_Wd → am_Rs) (kh : Nat → am_Wd → am_Rs) : am_Rs := match r.1 with
  | .inl v => k v r.2
  | .inr E => match am_hd m pc E with
    | none => some r
    | some h => kh h r.2
/-- a call -/
theorem am_ek {m pc : Nat} {i : Instr} {k : Nat} {an dd : List Nat} {ls : am_Lc} {st : List Value} {w : am_Wd} {m' : Nat} {as : List Value} {pc' : Nat} {rest : List Value} (hf : am_fetch (am_mth m) pc = some (i, k, an, dd)) (hs : am_stp pc i an ls st w = some (.inr (.inl (m', as, pc', rest)))) (hg : am_hg m' < am_hg m) (hl : (am_xp as).length ≤ am_ml m') :
    am_run m pc ls st w = (am_x m' as w).bind (fun r => am_af m pc r (fun v w' => am_run m pc' (am_nrm m pc' ls) (v.toList ++ rest) w') (fun h w' => am_run m h (am_nrm m h ls) [] w')) := by
  refine am_ext fun r => ⟨fun h => ?_, fun h => ?_⟩
  · obtain ⟨n, hn⟩ := am_run_to h
    cases n with
    | zero => cases hn
    | succ n =>
      rw [am_runN, hf] at hn
      dsimp only at hn
      rw [hs] at hn
      dsimp only at hn
      rw [if_pos ⟨hg, hl⟩] at hn
      split at hn
      · cases hn
      · rename_i r1 hr1
        rw [am_x, am_run_of hr1]
        show am_af _ _ r1 _ _ = _
        unfold am_af
        try dsimp only at hn
        split at hn
        · rename_i v hv
          try rw [hv]
          exact am_run_of hn
        · rename_i E hE
          try rw [hE]
          try dsimp only
          split at hn
          · rename_i hd; (try rw [hd]); exact hn
          · rename_i hd hh; (try rw [hh]); exact am_run_of hn
  · cases hx : am_x m' as w with
    | none => rw [hx] at h; cases h
    | some r1 =>
      rw [hx] at h
      obtain ⟨n1, hn1⟩ := am_run_to hx
      have h : am_af m pc r1 (fun v w' => am_run m pc' (am_nrm m pc' ls) (v.toList ++ rest) w') (fun h w' => am_run m h (am_nrm m h ls) [] w') = some r := h
      unfold am_af at h
      have fin : ∀ n, am_runN n m' 0 (am_ent m' as) [] w = some r1 → (match r1.1 with
          | .inl v => am_runN n m pc' (am_nrm m pc' ls) (v.toList ++ rest) r1.2
          | .inr E => match am_hd m pc E with
            | none => some r1
            | some h => am_runN n m h (am_nrm m h ls) [] r1.2) = some r → am_run m pc ls st w = some r := by
        intro n h1 h2
        refine am_run_of (n := n + 1) ?_
        rw [am_runN, hf]
        dsimp only
        rw [hs]
        dsimp only
        rw [if_pos ⟨hg, hl⟩, h1]
        exact h2
      split at h
      · rename_i v hv
        obtain ⟨n2, hn2⟩ := am_run_to h
        refine fin (n1 + n2) (am_monoL hn1 (Nat.le_add_right _ _)) ?_
        try rw [hv]
        exact am_monoL hn2 (Nat.le_add_left _ _)
      · rename_i E hE
        split at h
        · rename_i hd
          refine fin n1 hn1 ?_
          try rw [hE]
          try dsimp only
          try rw [hd]
          exact h
        · rename_i hd hh
          obtain ⟨n2, hn2⟩ := am_run_to h
          refine fin (n1 + n2) (am_monoL hn1 (Nat.le_add_right _ _)) ?_
          try rw [hE]
          try dsimp only
          try rw [hh]
          exact am_monoL hn2 (Nat.le_add_left _ _)
theorem am_ge_rf (w : am_Wd) : am_ge w w := ⟨Nat.le_refl _, Nat.le_refl _⟩
theorem am_ge_nw (w : am_Wd) (e : am_En) (n : Nat) : am_ge w (am_nw w e n) := ⟨Nat.le_succ _, Nat.le_add_right _ _⟩
theorem am_ge_jk (w : am_Wd) (k n : Nat) : am_ge w (am_jk w k n) := ⟨Nat.le_add_right _ _, Nat.le_add_right _ _⟩
theorem am_ge_pt (w : am_Wd) (a : Nat) (e : am_En) : am_ge w (am_pt w a e) := am_ge_rf w
theorem am_ge_tr {a b c : am_Wd} (h : am_ge a b) (k : am_ge b c) : am_ge a c := ⟨Nat.le_trans h.1 k.1, Nat.le_trans h.2 k.2⟩
theorem am_ge_rows (w : am_Wd) (k : Nat) : ∀ n, am_ge w (am_rows w k n)
  | 0 => am_ge_rf w
  | n + 1 => am_ge_tr (am_ge_rows w k n) (am_ge_nw _ _ _)
theorem am_ge_run : ∀ (n m pc : Nat) (ls : am_Lc) (st : List Value) (w : am_Wd) (r : am_Out × am_Wd), am_runN n m pc ls st w = some r → am_ge w r.2 := by
  intro n
  induction n with
  | zero => intro m pc ls st w r h; cases h
  | succ n ih =>
    intro m pc ls st w r h
    rw [am_runN] at h
    split at h
    · cases h
    · split at h
      · cases h
      · split at h
        · rename_i hg
          exact am_ge_tr hg (ih _ _ _ _ _ _ h)
        · cases h
      · split at h
        · split at h
          · cases h
          · rename_i r1 hr1
            have g1 := ih _ _ _ _ _ _ hr1
            split at h
            · exact am_ge_tr g1 (ih _ _ _ _ _ _ h)
            · split at h
              · cases h; exact g1
              · exact am_ge_tr g1 (ih _ _ _ _ _ _ h)
        · cases h
      · split at h
        · rename_i hg; cases h; exact hg
        · cases h
