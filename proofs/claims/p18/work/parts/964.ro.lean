/-! THE START: what is read alone, and the first world. Mine. -/
section AMRO
variable {s : State} {o e d b n base : Nat} {K V : Nat → Nat} {xs : Nat → Int32}
theorem am_RD_all (h : am_Giv o e d K V base s) : ∀ z ∈ am_gL o e d K V, am_RD base s s.heap z.1 z.2.2 := by
  obtain ⟨hO, hX, hE, hD, hS, -⟩ := h
  refine am_gL_all ⟨by decide, hO, fun _ => hX⟩ ⟨by decide, hE, fun q => absurd q (by decide)⟩ ⟨by decide, hD, fun q => absurd q (by decide)⟩ (fun i hi => ?_) (fun i hi => ?_)
  · have h1 := hS.1 i (am_six_lt i hi)
    refine ⟨rfl, h1.1, fun k v hk => ?_⟩
    match k, hk with
    | 0, hk => cases hk; exact h1.2.2.1
    | 1, hk => cases hk; exact h1.2.1
    | k + 2, hk => cases hk
  · have h4 := (hS.1 i (am_six_lt i hi)).2.2.2
    rw [am_lns_at i (am_six_lt i hi), am_bts_at (am_six_lt i hi)] at h4
    have h5 := am_lns_sm i (am_six_lt i hi)
    rw [am_lns_at i (am_six_lt i hi)] at h5
    exact ⟨h5, h4, fun q => absurd q (by decide)⟩
theorem am_ro_all : ∀ z ∈ am_gL o e d K V, am_ro z.2.2 = true := am_gL_all rfl rfl rfl (fun _ _ => rfl) (fun _ _ => rfl)
theorem am_RO0 (h : am_Giv o e d K V s.heap.size s) (hn : n < 2 ^ 31) (hX : va_T .int b n (fun j => .int (xs j)) (am_A s.heap.size) s s.heap) (x3 x4 : Option Nat) :
    am_RO s.heap.size (am_s1g o e d K x3 x4, am_w1 (am_gL o e d K V) b n xs) s s.heap := by
  refine ⟨Nat.le_refl _, fun a x hx => ⟨am_w1_lt h hX hx, ?_⟩⟩
  have hx : am_w1 _ b n xs a = some x := hx
  unfold am_w1 at hx
  split at hx
  · rename_i hab
    rw [← Option.some.inj hx, hab]
    exact ⟨hn, hX, fun q => absurd q (by decide)⟩
  · obtain ⟨z, hf, rfl⟩ := Option.map_eq_some_iff.mp hx
    obtain ⟨hz, rfl⟩ := am_fnd_in hf
    exact am_RD_all h z hz
theorem am_WR0 (D : va_G) (dA : Nat → ClassId) (x3 x4 : Option Nat) : am_WR D dA s.heap.size (am_s1g o e d K x3 x4, am_w1 (am_gL o e d K V) b n xs) (am_w1 (am_gL o e d K V) b n xs, s.heap.size, 0, am_s1g o e d K x3 x4) s.heap := by
  refine ⟨rfl, rfl, [], fun k q hk => (by cases hk), ⟨fun i j p q hi => (by cases hi), fun k q hk => (by cases hk)⟩, fun a x hx => ⟨fun _ => hx, fun hr => ?_⟩⟩
  exfalso
  have hx : am_w1 _ b n xs a = some x := hx
  unfold am_w1 at hx
  split at hx
  · cases hx; cases hr
  · obtain ⟨z, hf, rfl⟩ := Option.map_eq_some_iff.mp hx
    obtain ⟨hz, rfl⟩ := am_fnd_in hf
    rw [am_ro_all z hz] at hr
    cases hr
end AMRO
section AMKK
variable {args : Array Value} {s : State}
def am_lbM : MethodName := ⟨"java/lang/AbstractStringBuilder", "isLatin1", "()Z"⟩
theorem am_psl_ok (hts : ∀ w ∈ lw_tbl, w.before args s = true) : ∀ w ∈ am_psl, w.before args s = true := by
  intro w hw
  obtain ⟨q, hq, rfl⟩ := List.mem_map.mp hw
  have g1 : ∀ q ∈ am_psm, Cond.privateMethod ⟨"java/lang/AbstractStringBuilder", q.1, q.2⟩ ∈ lw_tbl ∧ Cond.instanceMethod ⟨"java/lang/AbstractStringBuilder", q.1, q.2⟩ ∈ lw_tbl := by decide +kernel
  have g2 : Cond.selects "java/lang/StringBuilder" am_lbM am_lbM ∈ lw_tbl := by decide +kernel
  obtain ⟨hp, hi⟩ := g1 q hq
  have hpriv := Cond.privateMethod_at (hts _ hp)
  obtain ⟨mk, methM, hnamed, hmethM, -, -⟩ := Cond.instanceMethod_spec (hts _ hi)
  have hfound := State.methodFound?_of_named hnamed ⟨(show "java/lang/AbstractStringBuilder" ≠ "java/lang/invoke/MethodHandle" by decide), (show "java/lang/AbstractStringBuilder" ≠ "java/lang/invoke/VarHandle" by decide)⟩
  obtain ⟨c, r, m, k1, k2, k3, k4, kP, k5, k6⟩ := Cond.selects_spec (hts _ g2)
  have hcls : m.cls = mk.cls := Option.some.inj ((show s.vm.findClass "java/lang/AbstractStringBuilder" = some m.cls from findClass_of_methodNamed k3).symm.trans (show s.vm.findClass "java/lang/AbstractStringBuilder" = some mk.cls from findClass_of_methodNamed hnamed))
  rw [hcls] at k5
  have hsel : selectMethod {} s.vm c mk = .method mk := selectMethod_private hmethM (hpriv mk methM hnamed hmethM)
  simp only [Cond.before, Cond.holds, Cond.value, k1, hfound, hnamed, hsel, k5]
  simp
  exact k6
theorem am_hts (hts : ∀ w ∈ lw_tbl, w.before args s = true) : ∀ w ∈ am_aw, w.before args s = true := by
  intro w hw
  obtain ⟨h1, h2⟩ := List.mem_filter.mp hw
  rcases List.mem_append.mp h1 with h1 | h1
  · exact hts w h1
  · exact am_psl_ok hts w h1
theorem am_inst_in : ∀ q ∈ am_cl, Cond.instantiable q.1 q.2.2 ∈ lw_tbl := by decide +kernel
theorem am_arr_in : ∀ t, t < 4 → Cond.arrayClass (am_tyl t) ∈ lw_tbl := by decide +kernel
theorem am_ao_in : ∀ w ∈ [Cond.arrayOver (.object "Bumpward$Walker"), Cond.arrayOver (.object "java/lang/Object"), Cond.arrayOver (.array .int)], w ∈ lw_tbl := by decide +kernel
theorem am_tyl_ok (hts : ∀ w ∈ lw_tbl, w.before args s = true) : ∀ t, t < 7 → ∃ cA, ArrOfT s cA (am_tyl t) ∧ va_RA s cA (am_tyl t) := by
  intro t ht
  by_cases h4 : t < 4
  · obtain ⟨c, k, comp, g1, g2, g3⟩ := Cond.arrayClass_spec (hts _ (am_arr_in t h4))
    refine ⟨c, fun N z => ⟨(fun k h => by cases h), k, g2, comp, g3⟩, ?_⟩
    rcases (show t = 0 ∨ t = 1 ∨ t = 2 ∨ t = 3 by omega) with rfl | rfl | rfl | rfl <;> exact g1
  · have hob : ∀ C, Cond.arrayOver (.object C) ∈ lw_tbl → ∃ cA, ArrOfT s cA (.object C) ∧ va_RA s cA (.object C) := by
      intro C hC
      obtain ⟨comp, c, k, g1, g2, g3, g4, g5⟩ := Cond.arrayOver_spec (hts _ hC)
      exact ⟨c, fun N z => ⟨(fun k h => by cases h), k, g3, comp, g4⟩, k, comp, g3, g4, g1, g5⟩
    rcases (show t = 4 ∨ t = 5 ∨ t = 6 by omega) with rfl | rfl | rfl
    · exact hob _ (am_ao_in _ List.mem_cons_self)
    · exact hob _ (am_ao_in _ (List.mem_cons_of_mem _ List.mem_cons_self))
    · obtain ⟨comp, c, k, g1, g2, g3, g4, g5⟩ := Jvm.Stand.arrayOver_specB (hts _ (am_ao_in (.arrayOver (.array .int)) (List.mem_cons_of_mem _ (List.mem_cons_of_mem _ List.mem_cons_self))))
      exact ⟨c, fun N z => ⟨(fun k h => by cases h), k, g3, comp, g4⟩, g5⟩
theorem am_K0s (hts : ∀ w ∈ lw_tbl, w.before args s = true) : ∃ (D : va_G) (dA : Nat → ClassId), va_K D am_cl (am_tys dA) s := by
  have h1 : ∀ c : Nat, ∃ x : ClassId × (Nat → Nat), ∀ q : vw_C, am_cl[c]? = some q → u_Kn s q.1 q.2.1 q.2.2 x.1 x.2 := by
    intro c
    cases hc : am_cl[c]? with
    | none => exact ⟨(0, fun _ => 0), fun q h => by cases h⟩
    | some q =>
      obtain ⟨cC, iS, hk⟩ := u_known (n := q.2.2) (am_hts hts) (am_cl_in c q hc) (hts _ (am_inst_in q (List.mem_of_getElem? hc)))
      exact ⟨(cC, iS), fun q' h => by cases h; exact hk⟩
  have h2 : ∀ t : Nat, ∃ cA : ClassId, t < 7 → ArrOfT s cA (am_tyl t) ∧ va_RA s cA (am_tyl t) := by
    intro t
    by_cases ht : t < 7
    · obtain ⟨cA, hA⟩ := am_tyl_ok hts t ht
      exact ⟨cA, fun _ => hA⟩
    · exact ⟨0, fun h => absurd h ht⟩
  obtain ⟨f, hf⟩ := Classical.axiomOfChoice h1
  obtain ⟨g, hg⟩ := Classical.axiomOfChoice h2
  refine ⟨(fun c => (f c).1, fun c => (f c).2), g, fun c q hq => hf c q hq, fun k q hk => ?_⟩
  have hlt : k < 7 := by
    have := (List.getElem?_eq_some_iff.mp hk).1
    simp [am_tys] at this
    exact this
  rw [am_tys_at g hlt] at hk
  cases hk
  exact hg k hlt
end AMKK
