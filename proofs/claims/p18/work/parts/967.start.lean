/-! THE CLAIM OUT OF ONE WALK OF THE LAW'S BODY. Your part is whole_start (and what it stands on); all else here is the same for every law, but numbers. -/
def R_law : String := "BumpwardLaw"
def lw_P (b : Addr) (xs : List Int32) (args : Array Value) (s : State) : Prop := args = #[.ref b] ∧ s.IntsAt b xs ∧ xs.length ≤ 2560 ∧ (Jvm.Cond.and given_1 narrow_1).before args s = true
/-- what a walk over the start with the record d0 says of its end, said of the start itself -/
theorem lw_closed {s t : State} {o : Outcome} {d0 : Drawn} {L : List Loc} {k n : Nat} (hd0 : s.drawn.sameBut d0 lw_cs) (hv : ∃ v, o = .returned v) (hW : (s.setDrawn d0).WarmedH t.vm) (hs : (s.setDrawn d0).sameButNew ({ t with vm := s.vm } : State) L k n) : State.butDraws s t lw_cs (fun t1 => Framed s o t1 L k n) := by
  have h2 : t.drawn = d0 := congrArg State.drawn hs.1
  refine ⟨⟨hv, hW, State.sameButNew.setDrawn hs s.drawn⟩, ?_, by decide⟩
  rw [h2]
  exact hd0
def lw_Q (_ : Array Value) (s : State) (o : Outcome) (t : State) : Prop := o = .returned (some (.int 1)) ∧ State.butDraws s t lw_cs (fun t1 => Framed s o t1 [] 601024 7293034)
def lw_Z (below : List Frame) (a : Array Value) (s : State) : State → Prop := fun t => ∃ o, t.status = .running ∧ Ended t below o ∧ lw_Q a s o t
/-- the law's own end, with 1 on the stack, nothing written that was there before, its room as the claim has it; d0: the record of draws at this point (at the entry s.drawn: begin with 'refine W.base ?_' and 'have hd0 := Drawn.sameBut.refl s.drawn lw_cs') -/
theorem lw_ret {p : Program} {l : Launch} {e : Env} {s : State} {m : MethodId} {below : List Frame} {meth : Method} {c : Code} {b : Nat} {d0 : Drawn} (hd0 : s.drawn.sameBut d0 lw_cs) (hx : p.tables.exec = Jvm.exec) (hb : c.code = code) (hr : meth.sig.returnType = ret) (hlocks : meth.locks = false) {pc : Nat} {H : Heap} {ls : Array Slot} (hdg : decode code pc = .ok (.ireturn, 1)) : W p l e room_1 (s.setDrawn d0) m #[Value.ref b] below meth c H [] 601024 7293034 (lw_Z below #[Value.ref b] s) (F0 m pc ls [.int 1]) := by
  intro T hT X
  obtain ⟨fs, hret, hrun, hended, hW, hframe⟩ := X.leave (v := some (.int 1)) (hlocks := hlocks) (fun h => by rw [hr] at h; cases h)
  have hmeth' : T.vm.method? m = some meth := X.method'
  refine ⟨T.setFrames fs, ?_, .returned (some (.int 1)), hrun, hended, rfl, lw_closed hd0 ⟨_, rfl⟩ hW hframe⟩
  jvm_step X.here [X.here.top, hx, hb, hdg, hmeth', hr, ret, narrow_b1]
  (try refine ⟨rfl, ?_⟩); (try refine ⟨rfl, ?_⟩)
  first | (intro acts; rw [hret _ acts rfl rfl rfl]) | rw [hret _ _ rfl rfl rfl]
  exact Steps.refl _
/-- what holds at the law's entry: the machine, the code, the tables' words (any of lw_tbl by 'hts w (by decide +kernel)'), the script of L ints xs at the cell b, what the Statement gives of the start (any of its parts by flat_of_before) -/
def lw_At (p : Program) (s : State) (m : MethodId) (meth : Method) (c : Code) (b L : Nat) (xs : Nat → Int32) : Prop :=
  p.tables.exec = Jvm.exec ∧ c.code = code ∧ meth.sig.returnType = ret ∧ c.maxLocals = 8 ∧ s.vm.findClass R_law = some m.cls ∧ (∀ w ∈ lw_tbl, w.before #[Value.ref b] s = true) ∧ va_X b L xs s s.heap ∧ b < s.heap.size ∧ meth.locks = false ∧ (Jvm.Cond.and given_1 narrow_1).before #[Value.ref b] s = true ∧ c.exceptionTable.toList = []
section AMWS
theorem am_start {p : Program} {e : Env} {s : State} {m : MethodId} {below : List Frame} {meth : Method} {c : Code} (l : Launch) (hst : l.stackTraces = false) (hok : ∀ y, am_okm y = true) (hck : ∀ y, am_hck y = true) {b L : Nat} {xs : Nat → Int32} (hL : L ≤ 2560) (C0 : lw_At p s m meth c b L xs) : W p l e room_1 s m #[Value.ref b] below meth c s.heap [] 0 0 (lw_Z below #[Value.ref b] s) (entryFrame m ([Value.ref b] : List Value).toArray 8) := by
  obtain ⟨hx, hcode, hret, hml, hown, hts, hX0, hbl, hlk, hgv, htab⟩ := C0
  have hX := am_X_T hX0 hbl
  obtain ⟨o, e', d, K, V, x3, x4, D, dA, hG, hE⟩ := am_Env0 hts hgv (show L < 2 ^ 31 by omega) hX
  obtain ⟨r, hr, hr1, hr2, hr3⟩ := am_law_run hL hG hX hbl x3 x4
  obtain ⟨n, hn⟩ := am_run_to hr
  have hlen : (am_xp [Value.ref b]).length ≤ am_ml 269 := by
    show 1 ≤ am_ml 269
    rw [am_law_ow.2.2]
    decide
  have hC : am_Cx p l room_1 s m #[Value.ref b] meth c D dA s.heap.size (am_s1g o e' d K x3 x4, am_w1 (am_gL o e' d K V) b L xs) 269 := by
    refine ⟨hx, hcode, hml, hown, am_hts hts, hlk, fun q => ?_, hret, ?_, hst, hE, am_law_sz.1, am_law_sz.2⟩
    · exact absurd q (by decide +kernel)
    · rw [htab, am_law_hh]; rfl
  have hW := am_sim (l := l) (D := D) (dA := dA) (base := s.heap.size) (sg := (am_s1g o e' d K x3 x4, am_w1 (am_gL o e' d K V) b L xs)) hst hok hck n p e room_1 s m #[Value.ref b] below meth c 269 0 _ [] _ r s.heap [] 0 0 601024 7293034 _ hn hC (am_ent_LH hlen) (am_WR0 D dA x3 x4) va_S.rf (by show 0 + (r.2.2.1 - s.heap.size) ≤ 601024; omega) (by show 0 + (r.2.2.2.1 - 0) ≤ 7293034; omega) (by decide) (by decide)
  intro T hT X
  have he : entryFrame m ([Value.ref b] : List Value).toArray 8 = entryFrame m ([Value.ref b] : List Value).toArray (am_ml 269) := by rw [am_law_ow.2.2]
  rw [he, lg_entry_eq]
  obtain ⟨t, h1, oc, h2, h3, h4⟩ := hW T hT X
  refine ⟨t, h1, oc, h2, h3, ?_⟩
  rcases h4 with ⟨⟨⟨v, q1, rfl⟩, -, -⟩, J, ⟨-, hWm, hsb⟩, hJ⟩ | ⟨q, -, hT1⟩
  · have hv : v = some (.int 1) := by
      rw [hr1] at q1
      exact (Sum.inl.inj q1).symm
    subst hv
    have hd0 := Drawn.sameBut.refl s.drawn lw_cs
    have hsb2 : s.sameButNew ({ t with vm := s.vm } : State) [] 601024 7293034 := State.sameButNew.drop_fresh (L := []) hsb (fun z hz => hJ z hz)
    exact ⟨rfl, lw_closed hd0 ⟨_, rfl⟩ hWm hsb2⟩
  · obtain ⟨E, ce, J, ⟨q1, -, -⟩, -⟩ := hT1
    rw [hr1] at q1
    cases q1
end AMWS
