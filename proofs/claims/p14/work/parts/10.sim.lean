/-! THE ABSTRACT MACHINE'S RUNS ARE THE MACHINE'S: what am_runN comes to, the machine comes to. Mine. -/
def am_Qc (D : va_G) (dA : Nat → ClassId) (base : Nat) (sg : Nat → Option Nat) (r : am_Out × am_Wd) : Array Value → State → Outcome → State → Prop := fun _ st oc t => (∃ v, r.1 = .inl v ∧ oc = .returned v) ∧ am_WR D dA base sg r.2 t.heap ∧ va_F (am_A base) st t
def am_XC (D : va_G) (dA : Nat → ClassId) (base : Nat) (sg : Nat → Option Nat) (r : am_Out × am_Wd) : String → State → State → Prop := fun E st t => r.1 = .inr E ∧ am_WR D dA base sg r.2 t.heap ∧ va_F (am_A base) st t
def am_Pc (D : va_G) (dA : Nat → ClassId) (base : Nat) (sg : Nat → Option Nat) (as : List Value) (w : am_Wd) : Array Value → State → Prop := fun v U => v = as.toArray ∧ am_WR D dA base sg w U.heap ∧ am_Env D dA base sg U U.heap
def am_rm (y k n : Nat) : Room := { frames := 16 + am_hg y, cells := k, slots := n, locals := 400 + 200 * am_hg y }
def am_wsy (y : Nat) : List Cond := am_cw y :: am_aw
theorem am_Env.next {D : va_G} {dA : Nat → ClassId} {base : Nat} {sg : Nat → Option Nat} {s U : State} {H : Heap} {locs : List Loc} (h : am_Env D dA base sg s s.heap) (hS : va_S (am_A base) s.heap H locs) (hU : U.heap = H) (hW : s.WarmedH U.vm) : am_Env D dA base sg U U.heap := by
  obtain ⟨hK, hnl, hZ1, hZ2, hstr, hO1, hO2, hO3, hbs, hsts, hsti⟩ := h
  have hvm := hW.alike
  refine ⟨va_K.moved hvm hK, fun w hw => ?_, ?_, ?_, fun q hq => ?_, va_AO.moved hvm hO1, va_AO.moved hvm hO2, ?_, by rw [hU]; exact Nat.le_trans hbs hS.1, fun z hz => ?_, fun z hz => ?_⟩
  · have h1 := hnl w hw
    have h2 : am_xw w = true := (List.mem_filter.mp hw).2
    cases w <;> first | (cases h2; done) | exact va_Nw.warmF hW h1 | exact va_Nw.warmM hW h1
  · rw [hU]; exact vx_Zq.moved hvm (hZ1.kept hS.2.1)
  · rw [hU]; exact vx_Zq.moved hvm (hZ2.kept hS.2.1)
  · obtain ⟨a, e1, e2⟩ := hstr q hq
    exact ⟨a, e1, e2.warm hW⟩
  · sorry
  · rw [hU]; exact va_Z.moved hvm ((hsts z hz).kept hS.2.1)
  · rw [hU]; exact va_Z.moved hvm ((hsti z hz).kept hS.2.1)
theorem am_Pc_blind {D : va_G} {dA : Nat → ClassId} {base : Nat} {sg : Nat → Option Nat} {as : List Value} {w : am_Wd} : FrameBlind (am_Pc D dA base sg as w) := by
  intro a U g mk h
  obtain ⟨h1, h2, h3⟩ := h
  exact ⟨h1, h2, h3.next (H := U.heap) va_S.rf rfl (State.WarmedH.refl U)⟩
theorem am_xp_sl : ∀ (as : List Value), (lg_sl as).length = (am_xp as).length
  | [] => rfl
  | v :: t => by
    have ih := am_xp_sl t
    unfold lg_sl at ih ⊢
    rw [List.flatMap_cons, am_xp]
    cases hv : am_c2 v with
    | true =>
      rw [if_pos ((am_c2_cat v).mp hv)]
      simp only [List.length_append, List.length_cons, List.length_nil, cond_true]
      omega
    | false =>
      rw [if_neg (fun q => by rw [(am_c2_cat v).mpr q] at hv; cases hv)]
      simp only [List.length_append, List.length_cons, List.length_nil, cond_false]
      omega
theorem am_xp_args : ∀ (as : List Value) (k i j : Nat) (u : Value), (am_xp as ++ List.replicate k none)[j]? = some (some u) → (i + j, u) ∈ lv_args i as
  | [], k, i, j, u, h => by
    simp only [am_xp, List.nil_append] at h
    rw [List.getElem?_replicate] at h
    split at h <;> cases h
  | v :: t, k, i, j, u, h => by
    rw [am_xp] at h
    rw [lv_args]
    cases hv : am_c2 v with
    | true =>
      rw [hv] at h
      rw [if_pos ((am_c2_cat v).mp hv)]
      simp only [cond_true, List.cons_append] at h
      cases j with
      | zero => simp at h; subst h; exact List.mem_cons_self
      | succ j => cases j with
        | zero => simp at h
        | succ j =>
          simp only [List.getElem?_cons_succ] at h
          have h2 := am_xp_args t k (i + 2) j u h
          rw [show i + 2 + j = i + (j + 1 + 1) by omega] at h2
          exact List.mem_cons_of_mem _ h2
    | false =>
      rw [hv] at h
      rw [if_neg (fun q => by rw [(am_c2_cat v).mpr q] at hv; cases hv)]
      simp only [cond_false, List.cons_append] at h
      cases j with
      | zero => simp at h; subst h; exact List.mem_cons_self
      | succ j =>
        simp only [List.getElem?_cons_succ] at h
        have h2 := am_xp_args t k (i + 1) j u h
        rw [show i + 1 + j = i + (j + 1) by omega] at h2
        exact List.mem_cons_of_mem _ h2
theorem am_ent_LH {y : Nat} {as : List Value} (h : (am_xp as).length ≤ am_ml y) : am_LH ((lg_sl as ++ List.replicate (am_ml y - (lg_sl as).length) Slot.unset).toArray) (am_ml y) (am_ent y as) := by
  have h1 := lv_entry as (n := am_ml y) (by rw [am_xp_sl]; exact h)
  refine am_LH.kill _ ⟨by simp; omega, h1.1, h1.2.1, fun q hq => ?_⟩
  obtain ⟨j, u⟩ := q
  obtain ⟨-, h2⟩ := (am_al_mem _ 0 j u).mp hq
  rw [Nat.sub_zero] at h2
  have h3 := am_xp_args as _ 0 j u h2
  rw [Nat.zero_add] at h3
  exact h1.2.2 _ h3
theorem am_gd (y : Nat) (h : am_cw y ∈ am_aw) : GoodIn am_aw (am_wsy y) := by
  have h0 : ∀ w ∈ am_wsy y, w ∈ am_aw := fun w hw => by
    rcases List.mem_cons.mp hw with rfl | h1
    · exact h
    · exact h1
  exact goodIn_sub h0 (List.all_eq_true.mpr fun w hw => (List.mem_filter.mp (h0 w hw)).2)
