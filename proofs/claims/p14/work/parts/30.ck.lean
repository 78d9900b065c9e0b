/-! THE CHECKER: an entry is run on symbols, by hints, to what it says. Mine. -/
/-! a method that asks nothing of the world -/
def am_wf (i : Instr) (an : List Nat) : Bool := match i with
  | .iconst _ => true
  | .bipush _ => true
  | .iload_n _ => true
  | .istore_n _ => true
  | .iadd => true
  | .imul => true
  | .idiv => true
  | .irem => true
  | .ifCond _ _ => true
  | .if_icmp _ _ => true
  | .goto _ => true
  | .ireturn => true
  | .invokestatic _ => match an with
    | 0 :: m' :: _ :: _ => Nat.beq m' 39
    | _ => false
  | _ => false
def am_ww (w : am_Wd) (a : am_Act) : am_Act := match a with
  | .inl (pc, ls, st, _) => .inl (pc, ls, st, w)
  | .inr (.inl c) => .inr (.inl c)
  | .inr (.inr (o, _)) => .inr (.inr (o, w))
def am_wk (w : am_Wd) (a : am_Act) : Prop := match a with
  | .inl (_, _, _, w') => w' = w
  | .inr (.inl c) => c.1 = 39
  | .inr (.inr (_, w')) => w' = w
section AMPU
variable {pc : Nat} {an : List Nat} {ls : am_Lc} {st : List Value} {w w' : am_Wd} {a : am_Act}
theorem am_wf_nx {pc : Nat} {ls : am_Lc} {st : List Value} (h : am_nx pc ls st w = some a) : am_wk w a ∧ am_nx pc ls st w' = some (am_ww w' a) := by
  obtain rfl := Option.some.inj h
  exact ⟨rfl, rfl⟩
theorem am_wf_br {c : Bool} {off : Int} (h : am_br c pc off ls st w = some a) : am_wk w a ∧ am_br c pc off ls st w' = some (am_ww w' a) := by
  unfold am_br at h ⊢
  split at h
  · rename_i hc
    obtain ⟨t, ht, h⟩ := Option.bind_eq_some_iff.mp h
    rw [if_pos hc, ht]
    exact am_wf_nx h
  · rename_i hc
    rw [if_neg hc]
    exact am_wf_nx h
theorem am_wf_ok {i : Instr} (hi : am_wf i an = true) (h : am_stp pc i an ls st w = some a) : am_wk w a ∧ am_stp pc i an ls st w' = some (am_ww w' a) := by
  cases i with
  | iconst n => exact am_wf_nx h
  | bipush n => exact am_wf_nx h
  | iload_n k =>
    unfold am_stp at h ⊢
    dsimp only at h ⊢
    split at h
    · exact am_wf_nx h
    · cases h
  | istore_n k =>
    unfold am_stp at h ⊢
    dsimp only at h ⊢
    split at h
    · obtain ⟨l, hl, h⟩ := Option.bind_eq_some_iff.mp h
      (try dsimp only)
      rw [hl]
      exact am_wf_nx h
    · cases h
  | iadd =>
    unfold am_stp at h ⊢
    dsimp only at h ⊢
    split at h
    · exact am_wf_nx h
    · cases h
  | imul =>
    unfold am_stp at h ⊢
    dsimp only at h ⊢
    split at h
    · exact am_wf_nx h
    · cases h
  | idiv =>
    unfold am_stp at h ⊢
    dsimp only at h ⊢
    split at h
    · split at h
      · cases h
      · rename_i hc
        (try dsimp only)
        rw [if_neg hc]
        exact am_wf_nx h
    · cases h
  | irem =>
    unfold am_stp at h ⊢
    dsimp only at h ⊢
    split at h
    · split at h
      · cases h
      · rename_i hc
        (try dsimp only)
        rw [if_neg hc]
        exact am_wf_nx h
    · cases h
  | ifCond c o =>
    unfold am_stp at h ⊢
    dsimp only at h ⊢
    split at h
    · exact am_wf_br h
    · cases h
  | if_icmp c o =>
    unfold am_stp at h ⊢
    dsimp only at h ⊢
    split at h
    · exact am_wf_br h
    · cases h
  | goto o =>
    unfold am_stp at h ⊢
    dsimp only at h ⊢
    obtain ⟨t, ht, h⟩ := Option.bind_eq_some_iff.mp h
    rw [ht]
    exact am_wf_nx h
  | ireturn =>
    unfold am_stp at h ⊢
    dsimp only at h ⊢
    split at h
    · split at h
      · split at h
        · rename_i hc
          (try dsimp only)
          rw [if_pos hc]
          obtain rfl := Option.some.inj h
          exact ⟨rfl, rfl⟩
        · cases h
      · cases h
    · cases h
  | invokestatic x =>
    unfold am_wf at hi
    dsimp only at hi
    split at hi
    · rename_i m' n t
      have hi := Nat.eq_of_beq_eq_true hi
      subst hi
      rw [am_q_stat (by decide) (by decide) (by decide) (by decide)] at h ⊢
      split at h
      · rename_i hc
        rw [if_pos hc]
        obtain rfl := Option.some.inj h
        exact ⟨rfl, rfl⟩
      · cases h
    · cases hi
  | _ => cases hi
end AMPU
theorem am_fetch_all {p : Instr → List Nat → Bool} : ∀ {l : List am_Row} {pc : Nat} {q : Instr × Nat × List Nat × List Nat}, (l.all fun r => p r.2.1 r.2.2.2.1) = true → am_fetch l pc = some q → p q.1 q.2.2.1 = true
  | r :: t, pc, q, h, e => by
    rw [List.all_cons, Bool.and_eq_true] at h
    unfold am_fetch at e
    cases hb : Nat.beq r.1 pc with
    | true => rw [hb] at e; obtain rfl := Option.some.inj e; exact h.1
    | false => rw [hb] at e; exact am_fetch_all h.2 e
  | [], _, _, _, e => (by cases e)
theorem am_pure_all : ∀ m, m = 100 ∨ m = 39 → ((am_mth m).all fun r => am_wf r.2.1 r.2.2.2.1) = true := by
  intro m h
  rcases h with rfl | rfl <;> decide +kernel
theorem am_pure_run : ∀ (n m pc : Nat) (ls : am_Lc) (st : List Value) (w w' : am_Wd) (r : am_Out × am_Wd), m = 100 ∨ m = 39 → am_runN n m pc ls st w = some r → r.2 = w ∧ am_runN n m pc ls st w' = some (r.1, w') := by
  intro n
  induction n with
  | zero => intro m pc ls st w w' r _ h; cases h
  | succ n ih =>
    intro m pc ls st w w' r hm h
    rw [am_runN] at h
    rw [am_runN]
    split at h
    · cases h
    · rename_i q hq
      try rw [hq]
      have hwf := am_fetch_all (am_pure_all m hm) hq
      try dsimp only at h ⊢
      split at h
      · cases h
      · rename_i a ha
        obtain ⟨k1, k2⟩ := am_wf_ok (w' := w') hwf ha
        obtain ⟨pc', ls', st', w1⟩ := a
        have k1 : w1 = w := k1
        subst k1
        rw [k2]
        try dsimp only [am_ww] at h ⊢
        split at h
        · rw [if_pos (am_ge_rf w')]
          exact ih m _ _ _ _ w' r hm h
        · cases h
      · rename_i c hc
        obtain ⟨k1, k2⟩ := am_wf_ok (w' := w') hwf hc
        have k1 : c.1 = 39 := k1
        rw [k2]
        try dsimp only [am_ww] at h ⊢
        split at h
        · rename_i hg
          try rw [if_pos hg]
          split at h
          · cases h
          · rename_i r1 hr1
            obtain ⟨z1, z2⟩ := ih c.1 _ _ _ w w' r1 (Or.inr k1) hr1
            rw [z2]
            obtain ⟨o, w1⟩ := r1
            have z1 : w1 = w := z1
            subst z1
            try dsimp only at h ⊢
            split at h
            · exact ih m _ _ _ _ w' r hm h
            · rename_i E hE
              split at h
              · rename_i hd
                try rw [hd]
                obtain rfl := Option.some.inj h
                exact ⟨rfl, rfl⟩
              · rename_i hd hh
                try rw [hh]
                exact ih m _ _ _ _ w' r hm h
        · cases h
      · rename_i r1 hr1
        obtain ⟨k1, k2⟩ := am_wf_ok (w' := w') hwf hr1
        obtain ⟨o, w1⟩ := r1
        have k1 : w1 = w := k1
        subst k1
        rw [k2]
        try dsimp only [am_ww] at h ⊢
        rw [if_pos (am_ge_rf w')]
        split at h
        · obtain rfl := Option.some.inj h
          exact ⟨rfl, rfl⟩
        · cases h
theorem am_pure_x {as : List Value} {w : am_Wd} {r : am_Out × am_Wd} (h : am_x am_pure as w = some r) (w' : am_Wd) : am_x am_pure as w' = some (r.1, w') := by
  obtain ⟨n, hn⟩ := am_run_to h
  exact am_run_of (am_pure_run n am_pure 0 _ _ w w' r (Or.inl rfl) hn).2
/-! states -/
def am_killS : List Nat → am_SL → am_SL
  | [], l => l
  | i :: t, l => am_killS t (l.set i none)
def am_nrmS (m pc : Nat) (ls : am_SL) : am_SL := am_killS (am_dead m pc) ls
def am_xpS : List am_SV → am_SL
  | [] => []
  | v :: t => match am_cS v with
    | true => some v :: none :: am_xpS t
    | false => some v :: am_xpS t
def am_entS (m : Nat) (as : List am_SV) : am_SL := am_nrmS m 0 (am_xpS as ++ List.replicate (am_ml m - (am_xpS as).length) none)
def am_ctN (k : Nat) : Nat := if Nat.beq k 19 = true then 0 else if Nat.beq k 21 = true then 1 else 2
def am_xk (x : Nat) : Nat := if Nat.beq x 0 = true then 0 else if Nat.beq x 1 = true then 1 else 2
def am_hsS (pc x : Nat) : List (Nat × Nat × Nat × Nat) → Option Nat
  | [] => none
  | h :: t => if (Nat.ble h.1 pc && Nat.blt pc h.2.1 && Nat.beq (am_ctN h.2.2.2) (am_xk x)) = true then some h.2.2.1 else am_hsS pc x t
def am_hdS (m pc x : Nat) : Option Nat := (am_hsS pc x (am_mt m).2.2.2.2.2).bind fun h => (am_fetch (am_mth m) h).map fun q => h + q.2.1
/-- an open call: method, the call's place, the place behind, locals, stack -/
abbrev am_Fm : Type := Nat × Nat × Nat × am_SL × List am_SV
abbrev am_FC : Type := Nat × Nat × Nat × am_Lc × List Value
abbrev am_It : Type := (List am_Fm × Nat × Nat × am_SL × List am_SV × am_Hp) ⊕ (am_SR × am_Hp)
def am_ret : List am_Fm → am_SR → am_Hp → am_It
  | [], o, h => .inr (o, h)
  | f :: K, .inl v, h => .inl (K, f.1, f.2.2.1, am_nrmS f.1 f.2.2.1 f.2.2.2.1, v.toList ++ f.2.2.2.2, h)
  | f :: K, .inr x, h => match am_hdS f.1 f.2.1 x with
    | some t => .inl (K, f.1, t, am_nrmS f.1 t f.2.2.2.1, [], h)
    | none => am_ret K (.inr x) h
def am_nx1 (K : List am_Fm) (m pc : Nat) (ls0 : am_SL) (a : am_Ac) : Option am_It := match a with
  | .inl (pc', ls, st, h) => some (.inl (K, m, pc', am_nrmS m pc' ls, st, h))
  | .inr (.inl (m', as, pc', rest, h)) => if (Nat.blt (am_hg m') (am_hg m) && Nat.ble (am_xpS as).length (am_ml m')) = true then some (.inl ((m, pc, pc', ls0, rest) :: K, m', 0, am_entS m' as, [], h)) else none
  | .inr (.inr (o, h)) => some (am_ret K o h)
def am_mapO {α β : Type} (f : α → Option β) : List α → Option (List β)
  | [] => some []
  | x :: t => match f x with
    | none => none
    | some y => match am_mapO f t with
      | none => none
      | some l => some (y :: l)
theorem am_mapO_mem {α β : Type} {f : α → Option β} : ∀ {l : List α} {r : List β}, am_mapO f l = some r → ∀ x ∈ l, ∃ y ∈ r, f x = some y
  | x :: t, r, h, z, hz => by
    unfold am_mapO at h
    split at h
    · cases h
    · rename_i y hy
      split at h
      · cases h
      · rename_i l hl
        obtain rfl := Option.some.inj h
        rcases List.mem_cons.mp hz with rfl | hz
        · exact ⟨y, List.mem_cons_self, hy⟩
        · obtain ⟨y', h1, h2⟩ := am_mapO_mem hl z hz
          exact ⟨y', List.mem_cons_of_mem _ h1, h2⟩
  | [], _, _, _, hz => (by cases hz)
/-- the roles of rows made at a place -/
def am_rlr (m pc : Nat) : Nat := if (Nat.beq m 172 && Nat.beq pc 14) = true then 37 else if (Nat.beq m 172 && Nat.beq pc 25) = true then 38 else if (Nat.beq m 36 && Nat.beq pc 17) = true then 41 else 0
def am_sx (it : am_It) : Option (List am_It) := match it with
  | .inr _ => none
  | .inl (K, m, pc, ls, st, h) => match am_fetch (am_mth m) pc with
    | none => none
    | some q => match am_ab (am_rlr m pc) pc q.1 q.2.2.1 ls st h with
      | none => none
      | some l => am_mapO (am_nx1 K m pc ls) l
def am_seg : Nat → am_It → Option am_It
  | 0, it => some it
  | n + 1, it => match am_sx it with
    | some [x] => am_seg n x
    | _ => none
/-! what a state is good for -/
noncomputable def am_cnt : List am_FC → am_Out × am_Wd → am_Rs
  | [], r => some r
  | f :: K, r => match r.1 with
    | .inl v => (am_run f.1 f.2.2.1 (am_nrm f.1 f.2.2.1 f.2.2.2.1) (v.toList ++ f.2.2.2.2) r.2).bind (am_cnt K)
    | .inr E => match am_hd f.1 f.2.1 E with
      | none => am_cnt K r
      | some t => (am_run f.1 t (am_nrm f.1 t f.2.2.2.1) [] r.2).bind (am_cnt K)
def am_KS (σ : List Int) (τ : List Nat) (ρ : am_Rh) : List am_Fm → List am_FC → Prop
  | [], [] => True
  | f :: K, g :: L => g.1 = f.1 ∧ g.2.1 = f.2.1 ∧ g.2.2.1 = f.2.2.1 ∧ am_LS σ τ ρ f.2.2.2.1 g.2.2.2.1 ∧ am_VS σ τ ρ f.2.2.2.2 g.2.2.2.2 ∧ am_KS σ τ ρ K L
  | _, _ => False
def am_Good (u : am_Et) (σ0 : List Int) (τ0 : List Nat) (ρ0 : am_Rh) (w0 : am_Wd) (it : am_It) : Prop := match it with
  | .inl (K, m, pc, ls, st, h) => ∀ (σ : List Int) (τ : List Nat) (ρ : am_Rh) (w : am_Wd) (KC : List am_FC) (lsC : am_Lc) (stC : List Value), am_IV (u.2.2.1, σ0, τ0, ρ0, w0) σ τ ρ h w → am_KS σ τ ρ K KC → am_LS σ τ ρ ls lsC → am_VS σ τ ρ st stC →
    ∃ r, (am_run m pc lsC stC w).bind (am_cnt KC) = some r ∧ am_PS u σ0 τ0 ρ0 w0 r
  | .inr (o, h) => ∀ (σ : List Int) (τ : List Nat) (ρ : am_Rh) (w : am_Wd) (x : am_Out), am_IV (u.2.2.1, σ0, τ0, ρ0, w0) σ τ ρ h w → am_OS σ τ ρ o x → am_PS u σ0 τ0 ρ0 w0 (x, w)
section AMCK
variable {σ σ' σ0 : List Int} {τ τ' τ0 : List Nat} {ρ ρ' ρ0 : am_Rh} {w w0 : am_Wd} {u : am_Et}
theorem am_KS_mo (hm : am_mo σ σ' τ τ' ρ ρ') : ∀ {K : List am_Fm} {L : List am_FC}, am_KS σ τ ρ K L → am_KS σ' τ' ρ' K L
  | [], [], _ => trivial
  | _ :: _, _ :: _, ⟨a, b, c, d, e, f⟩ => ⟨a, b, c, am_LS_mo hm d, am_VS_mo hm e, am_KS_mo hm f⟩
  | [], _ :: _, e => e.elim
  | _ :: _, [], e => e.elim
theorem am_kill_ok : ∀ {l : List Nat} {ls : am_SL} {lsC : am_Lc}, am_LS σ τ ρ ls lsC → am_LS σ τ ρ (am_killS l ls) (am_kill l lsC)
  | [], _, _, h => h
  | i :: t, _, _, h => am_kill_ok (l := t) (am_LS_clr i h)
theorem am_nrm_ok {m pc : Nat} {ls : am_SL} {lsC : am_Lc} (h : am_LS σ τ ρ ls lsC) : am_LS σ τ ρ (am_nrmS m pc ls) (am_nrm m pc lsC) := am_kill_ok h
theorem am_xp_ok : ∀ {as : List am_SV} {asC : List Value}, am_VS σ τ ρ as asC → am_LS σ τ ρ (am_xpS as) (am_xp asC)
  | [], [], _ => trivial
  | v :: t, x :: s, h => by
    have hc := am_cS_ok h.1
    have ih := am_xp_ok h.2
    unfold am_xpS am_xp
    rw [hc]
    cases am_cS v with
    | true => exact ⟨h.1, ih⟩
    | false => exact ⟨h.1, ih⟩
  | [], _ :: _, h => h.elim
  | _ :: _, [], h => h.elim
theorem am_LS_app : ∀ {a b : am_SL} {x y : am_Lc}, am_LS σ τ ρ a x → am_LS σ τ ρ b y → am_LS σ τ ρ (a ++ b) (x ++ y)
  | [], _, [], _, _, k => k
  | none :: a, b, none :: x, y, e, k => am_LS_app (a := a) (b := b) (x := x) (y := y) e k
  | some _ :: _, _, some _ :: _, _, e, k => ⟨e.1, am_LS_app e.2 k⟩
  | none :: _, _, some _ :: _, _, e, _ => e.elim
  | some _ :: _, _, none :: _, _, e, _ => e.elim
  | [], _, _ :: _, _, e, _ => e.elim
  | none :: _, _, [], _, e, _ => e.elim
  | some _ :: _, _, [], _, e, _ => e.elim
theorem am_LS_rep : ∀ (n : Nat), am_LS σ τ ρ (List.replicate n none) (List.replicate n none)
  | 0 => trivial
  | n + 1 => am_LS_rep n
theorem am_ent_ok {m : Nat} {as : List am_SV} {asC : List Value} (h : am_VS σ τ ρ as asC) : am_LS σ τ ρ (am_entS m as) (am_ent m asC) := by
  have h1 := am_xp_ok h
  unfold am_entS am_ent
  rw [am_LS_len h1]
  exact am_nrm_ok (am_LS_app h1 (am_LS_rep _))
theorem am_ct_ok (k x : Nat) : am_ct k = am_xn x ↔ am_ctN k = am_xk x := by
  unfold am_ct am_xn am_ctN am_xk
  have e1 : (Nat.beq k 19 = true) = (k = 19) := propext ⟨Nat.eq_of_beq_eq_true, fun e => by rw [e]; rfl⟩
  have e2 : (Nat.beq k 21 = true) = (k = 21) := propext ⟨Nat.eq_of_beq_eq_true, fun e => by rw [e]; rfl⟩
  have e3 : (Nat.beq x 0 = true) = (x = 0) := propext ⟨Nat.eq_of_beq_eq_true, fun e => by rw [e]; rfl⟩
  have e4 : (Nat.beq x 1 = true) = (x = 1) := propext ⟨Nat.eq_of_beq_eq_true, fun e => by rw [e]; rfl⟩
  simp only [e1, e2, e3, e4]
  by_cases h1 : k = 19 <;> by_cases h2 : k = 21 <;> by_cases h3 : x = 0 <;> by_cases h4 : x = 1 <;> simp [h1, h2, h3, h4]
theorem am_hs_ok {pc x : Nat} : ∀ {l : List (Nat × Nat × Nat × Nat)}, am_hs pc (am_xn x) l = am_hsS pc x l
  | [] => rfl
  | h :: t => by
    unfold am_hs am_hsS
    have e : (h.1 ≤ pc ∧ pc < h.2.1 ∧ am_ct h.2.2.2 = am_xn x) = ((Nat.ble h.1 pc && Nat.blt pc h.2.1 && Nat.beq (am_ctN h.2.2.2) (am_xk x)) = true) := by
      rw [Bool.and_eq_true, Bool.and_eq_true, am_ct_ok, Nat.ble_eq, Nat.blt_eq]
      exact propext ⟨fun ⟨a, b, c⟩ => ⟨⟨a, b⟩, by rw [c]; exact Nat.beq_refl _⟩, fun ⟨⟨a, b⟩, c⟩ => ⟨a, b, Nat.eq_of_beq_eq_true c⟩⟩
    rw [am_hs_ok]
    by_cases hc : h.1 ≤ pc ∧ pc < h.2.1 ∧ am_ct h.2.2.2 = am_xn x
    · rw [if_pos hc, if_pos (by rw [← e]; exact hc)]
    · rw [if_neg hc, if_neg (by rw [← e]; exact hc)]
theorem am_hd_ok {m pc x : Nat} : am_hd m pc (am_xn x) = am_hdS m pc x := by
  unfold am_hd am_hdS
  rw [am_hs_ok]
theorem am_ret_ok : ∀ {K : List am_Fm} {KC : List am_FC} {o : am_SR} {x : am_Out} {h : am_Hp}, am_Good u σ0 τ0 ρ0 w0 (am_ret K o h) → am_IV (u.2.2.1, σ0, τ0, ρ0, w0) σ τ ρ h w → am_KS σ τ ρ K KC → am_OS σ τ ρ o x → ∃ r, am_cnt KC (x, w) = some r ∧ am_PS u σ0 τ0 ρ0 w0 r
  | [], [], o, x, h, hg, hI, _, ho => ⟨(x, w), rfl, hg σ τ ρ w x hI ho⟩
  | f :: K, g :: L, .inl v, x, h, hg, hI, ⟨k1, k2, k3, k4, k5, k6⟩, ho => by
    have hx : ∃ vC, x = .inl vC ∧ am_VS σ τ ρ v.toList vC.toList := by
      cases v with
      | none => exact ⟨none, ho, trivial⟩
      | some v => obtain ⟨y, hy, hv⟩ := ho; exact ⟨some y, hy, hv, trivial⟩
    obtain ⟨vC, rfl, hv⟩ := hx
    have h2 := hg σ τ ρ w L _ _ hI k6 (am_nrm_ok (m := f.1) (pc := f.2.2.1) k4) (am_VS_app hv k5)
    unfold am_cnt
    dsimp only
    rw [k1, k3]
    exact h2
  | f :: K, g :: L, .inr z, x, h, hg, hI, ⟨k1, k2, k3, k4, k5, k6⟩, ho => by
    have ho : x = .inr (am_xn z) := ho
    subst ho
    unfold am_ret at hg
    unfold am_cnt
    dsimp only
    rw [k1, k2, am_hd_ok]
    split at hg
    · rename_i t ht
      rw [ht]
      exact hg σ τ ρ w L _ _ hI k6 (am_nrm_ok (m := f.1) (pc := t) k4) trivial
    · rename_i ht
      rw [ht]
      exact am_ret_ok hg hI k6 rfl
  | [], _ :: _, _, _, _, _, _, e, _ => e.elim
  | _ :: _, [], _, _, _, _, _, e, _ => e.elim
theorem am_af_cont {m pc pc' : Nat} {lsC : am_Lc} {rest : List Value} {KC : List am_FC} {x : am_Rs} :
    (x.bind fun r => am_af m pc r (fun v w' => am_run m pc' (am_nrm m pc' lsC) (v.toList ++ rest) w') (fun t w' => am_run m t (am_nrm m t lsC) [] w')).bind (am_cnt KC) = x.bind (am_cnt ((m, pc, pc', lsC, rest) :: KC)) := by
  cases x with
  | none => rfl
  | some r =>
    obtain ⟨o, w⟩ := r
    show (am_af m pc (o, w) _ _).bind _ = am_cnt _ (o, w)
    unfold am_af
    conv => rhs; unfold am_cnt
    dsimp only
    cases o with
    | inl v => rfl
    | inr E =>
      dsimp only
      cases am_hd m pc E with
      | none => rfl
      | some t => rfl
theorem am_sx_ok {it : am_It} {l : List am_It} (h1 : am_sx it = some l) (hg : ∀ x ∈ l, am_Good u σ0 τ0 ρ0 w0 x) : am_Good u σ0 τ0 ρ0 w0 it := by
  unfold am_sx at h1
  split at h1
  · cases h1
  · rename_i K m pc ls st h
    split at h1
    · cases h1
    · rename_i q hq
      split at h1
      · cases h1
      · rename_i acts hab
        intro σ τ ρ w KC lsC stC hI hK hl hs
        obtain ⟨i, k, an, dd⟩ := q
        obtain ⟨a, ha, x, σ', τ', ρ', hx, hm, hr⟩ := am_ab_ok hI hl hs hab
        obtain ⟨it', hit, hn⟩ := am_mapO_mem h1 a ha
        have hG := hg it' hit
        match a, x, hr with
        | .inl (pc1, ls1, st1, h1'), .inl (pc2, ls2, st2, w2), ⟨e, hI', hl', hs', hge⟩ =>
          have e : pc2 = pc1 := e
          subst e
          obtain rfl := Option.some.inj hn
          rw [am_e1 hq hx hge]
          exact hG σ' τ' ρ' w2 KC _ _ hI' (am_KS_mo hm hK) (am_nrm_ok hl') hs'
        | .inr (.inl (m1, as1, pc1, rest1, h1')), .inr (.inl (m2, as2, pc2, rest2)), ⟨e1, e2, hI', has, hrest⟩ =>
          have e1 : m2 = m1 := e1
          have e2 : pc2 = pc1 := e2
          subst e1
          subst e2
          unfold am_nx1 at hn
          dsimp only at hn
          split at hn
          · rename_i hc
            rw [Bool.and_eq_true] at hc
            obtain rfl := Option.some.inj hn
            have hlen : (am_xp as2).length ≤ am_ml m2 := by
              rw [← am_LS_len (am_xp_ok has)]
              exact Nat.ble_eq.mp hc.2
            rw [am_ek hq hx (Nat.blt_eq.mp hc.1) hlen, am_af_cont]
            exact hG σ' τ' ρ' w ((m, pc, pc2, lsC, rest2) :: KC) _ _ hI' ⟨rfl, rfl, rfl, am_LS_mo hm hl, hrest, am_KS_mo hm hK⟩ (am_ent_ok has) trivial
          · cases hn
        | .inr (.inr (o1, h1')), .inr (.inr (o2, w2)), ⟨hI', ho, hge⟩ =>
          obtain rfl := Option.some.inj hn
          rw [am_e2 hq hx hge]
          exact am_ret_ok hG hI' (am_KS_mo hm hK) ho
theorem am_seg_ok : ∀ {n : Nat} {it it' : am_It}, am_seg n it = some it' → am_Good u σ0 τ0 ρ0 w0 it' → am_Good u σ0 τ0 ρ0 w0 it := by
  intro n
  induction n with
  | zero => intro it it' h1 hg; obtain rfl := Option.some.inj h1; exact hg
  | succ n ih =>
    intro it it' h1 hg
    unfold am_seg at h1
    split at h1
    · rename_i x hx
      exact am_sx_ok hx fun y hy => by rw [List.mem_singleton] at hy; subst hy; exact ih h1 hg
    · cases h1
end AMCK
