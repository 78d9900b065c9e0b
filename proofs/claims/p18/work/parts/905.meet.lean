/-! THE REFERENCE'S CALLS: meet. Mine. -/
def mnP (mp mq : Nat → Nat) (k : Nat) : Bool := !(mp k == mq k) && (mp k == 0 || mq k == 0)
def dsR (mp mq : Nat → Nat) (k : Nat) : Bool := !(mp k == mq k) && !(mp k == 0 || mq k == 0)
theorem i_add_s (x : Int32) (c : Nat) : x + nI c + nI 1 = x + nI (c + 1) := by rw [Int32.add_assoc, nI_add]
section CK
variable {w : am_Wd} {g : Nat → Nat} {m kq hq ca ba wl ed : Nat} {wad : Nat → Nat} {kd hr : Nat → Nat} {cp br : Nat → Bool} {n : Nat} {ws : Nat → sW} {th mi nd : Nat} {dr me di re : Int32}
variable {i a ho po ch : Nat} {lo ac bu sl : Int32} {may : Nat → Bool} {mp : Nat → Nat}
variable {j ho' po' ch' : Nat} {lo' ac' bu' sl' : Int32} {may' : Nat → Bool} {mp' : Nat → Nat}
theorem rm_map (R : RMx w g m kq hq ca ba wl ed wad kd hr cp br n ws th mi nd dr me di re) (hn : n ≤ 3) (hi : i < n) (hy : ws i = (ho, po, ch, lo, ac, bu, sl, may, mp)) : ∃ ma mr, cO w (wad i) 10 (oK po ho ch ma mr lo ac bu sl) ∧ Rws w g mr (400 + 100 * i) mp ∧ ∀ c j v, c < 36 → j < 2 → ∃ w', am_wi 0 w (mr + 1 + c) (nI j) (nI v) = some w' ∧ RMx w' g m kq hq ca ba wl ed wad kd hr cp br n (up ws i (ho, po, ch, lo, ac, bu, sl, may, up mp (2 * c + j) v)) th mi nd dr me di re ∧ frm g (400 + 100 * i) (436 + 100 * i) w w' := by
  obtain ⟨ma, mr, h1, h2, h3, g1, g2, g3⟩ := rm_get R hi hy
  refine ⟨ma, mr, h1, h3, fun c j v hc hj => ?_⟩
  obtain ⟨w', a1, a2, a3⟩ := h3.put (by omega) hc hj (v := v)
  refine ⟨w', a1, rm_wk R hn hi ⟨ma, mr, cO_of h1 (a3.1 _ (by omega)), h2.of (a3.1 _ (by omega)), a2, g1, g2, g3⟩ (fun b _ z2 => a3.1 b (by omega)) (by rw [a3.2]), frm_wk a3 (by omega) (by omega)⟩
theorem up_c {α : Type} {f : Nat → α} {i j : Nat} {x y : α} (h : i ≠ j) : up (up f i x) j y = up (up f j y) i x := by
  funext k
  unfold up
  by_cases e : k = j
  · subst e
    rw [if_pos rfl, if_neg (fun q => h q.symm), if_pos rfl]
  · rw [if_neg e]
    by_cases e2 : k = i
    · rw [if_pos e2, if_pos e2]
    · rw [if_neg e2, if_neg e2, if_neg e]
theorem it180 (R : RMx w g m kq hq ca ba wl ed wad kd hr cp br n ws th mi nd dr me di re) (hn : n ≤ 3) (hJ : gJ w g) (hi : i < n) (hj : j < n) (hij : i ≠ j) (hy : ws i = (ho, po, ch, lo, ac, bu, sl, may, mp)) (hz : ws j = (ho', po', ch', lo', ac', bu', sl', may', mp')) (hm : mpo mp) (hm' : mpo mp') {c q : Nat} (hc : c < 36) (hq2 : q < 2) (A : Nat) {k : Nat} (hk : k = 2 * c + q) :
    ∃ w', am_run 180 134 [some (.ref m), none, none, some (.ref (wad i)), some (.ref (wad j)), some (.int (nI A)), some (.int (nI c)), some (.int (nI q)), none, none] [] w = am_run 180 134 [some (.ref m), none, none, some (.ref (wad i)), some (.ref (wad j)), some (.int (nI (A + (if mnP mp mp' k = true then 1 else 0)))), some (.int (nI c)), some (.int (nI (q + 1))), none, none] [] w' ∧ RMx w' g m kq hq ca ba wl ed wad kd hr cp br n (up (up ws i (ho, po, ch, lo, ac, bu, sl, may, up mp k (mrg mp mp' k))) j (ho', po', ch', lo', ac', bu', sl', may', up mp' k (mrg mp' mp k))) th mi nd dr me (di + nI (if dsR mp mp' k = true then 1 else 0)) re ∧ frm g 100 736 w w' := by
  subst hk
  obtain ⟨ma, mr, c1, r1, p1⟩ := rm_map R hn hi hy
  obtain ⟨ma2, mr2, c2, r2, p2⟩ := rm_map R hn hj hz
  have a1 := r1.row hc
  have a2 := r1.at hc hq2
  have b1 := r2.row hc
  have b2 := r2.at hc hq2
  have hmk := hm (2 * c + q)
  have hmk' := hm' (2 * c + q)
  have e0 : (nI (mp (2 * c + q)) = nI (mp' (2 * c + q))) = (mp (2 * c + q) = mp' (2 * c + q)) := nI_eqS (by omega) (by omega)
  have e1 : (nI (mp (2 * c + q)) = nI 0) = (mp (2 * c + q) = 0) := nI_eqS (by omega) (by decide)
  have e2 : (nI (mp' (2 * c + q)) = nI 0) = (mp' (2 * c + q) = 0) := nI_eqS (by omega) (by decide)
  have same : mrg mp mp' (2 * c + q) = mp (2 * c + q) → mrg mp' mp (2 * c + q) = mp' (2 * c + q) → up (up ws i (ho, po, ch, lo, ac, bu, sl, may, up mp (2 * c + q) (mrg mp mp' (2 * c + q)))) j (ho', po', ch', lo', ac', bu', sl', may', up mp' (2 * c + q) (mrg mp' mp (2 * c + q))) = ws := by
    intro s1 s2
    rw [s1, s2, up_id rfl, up_id rfl, up_id hy, up_id hz]
  have head : am_run 180 134 [some (.ref m), none, none, some (.ref (wad i)), some (.ref (wad j)), some (.int (nI A)), some (.int (nI c)), some (.int (nI q)), none, none] [] w = if ¬ mp (2 * c + q) = mp' (2 * c + q) then am_run 180 175 [some (.ref m), none, none, some (.ref (wad i)), some (.ref (wad j)), some (.int (nI A)), some (.int (nI c)), some (.int (nI q)), some (.int (nI (mp (2 * c + q)))), some (.int (nI (mp' (2 * c + q))))] [] w else am_run 180 172 [some (.ref m), none, none, some (.ref (wad i)), some (.ref (wad j)), some (.int (nI A)), some (.int (nI c)), some (.int (nI q)), none, none] [] w := by
    rw [bk180_134, if_neg (by rw [nI_leS (by decide) (by omega)]; omega)]
    simp only [bk180_140, gfc c1, gfc c2, oK_0, oK_1, oK_2, oK_3, oK_4, oK_5, oK_6, oK_7, oK_8, bk180_144, a1, bk180_147, a2, bk180_150, bk180_157, b1, bk180_160, b2, bk180_163, e0, Option.bind_some, bct_v, bct_t, otl_s, otl_n, List.cons_append, List.nil_append, List.getElem?_cons_zero, List.getElem?_cons_succ, ↓reduceIte]
  rw [head]
  by_cases q0 : mp (2 * c + q) = mp' (2 * c + q)
  · have n1 : mnP mp mp' (2 * c + q) = false := by unfold mnP; rw [q0]; simp
    have n2 : dsR mp mp' (2 * c + q) = false := by unfold dsR; rw [q0]; simp
    refine ⟨w, ?_, ?_, frm_rf⟩
    · rw [if_neg (fun x => x q0), bk180_172, bk180_232, nI_add, n1]
      rfl
    · rw [same (by unfold mrg; split; exact q0.symm; rfl) (by unfold mrg; split; exact q0; rfl), n2]
      show RMx w g m kq hq ca ba wl ed wad kd hr cp br n ws th mi nd dr me (di + nI 0) re
      rw [i_add0]
      exact R
  · rw [if_pos q0]
    by_cases q1 : mp (2 * c + q) ≠ 0 ∧ mp' (2 * c + q) ≠ 0
    · obtain ⟨q1, q2⟩ := q1
      have n1 : mnP mp mp' (2 * c + q) = false := by unfold mnP; simp [q1, q2]
      have n2 : dsR mp mp' (2 * c + q) = true := by unfold dsR; simp [q0, q1, q2]
      obtain ⟨R1, f1⟩ := rm_m (th' := th) (mi' := mi) (nd' := nd) (dr' := dr) (me' := me) (di' := di + nI 1) (re' := re) R hn
      have pf : am_pf w m 11 5 (.int (di + nI 1)) = some (am_pt w m (.inr (11, oM th mi nd dr me (di + nI 1) re kq hq ca ba wl))) := pfc R.1 (by show 5 < 12; decide) (by decide)
      refine ⟨_, ?_, ?_, frm_wk f1 (by decide) (by decide)⟩
      rotate_left
      · rw [same (by unfold mrg; rw [if_neg q1]) (by unfold mrg; rw [if_neg q2]), n2]
        exact R1
      · rw [bk180_175]
        simp only [e1, q1, bk180_180, e2, q2, bk180_185, gfc R.1, oM_0, oM_1, oM_2, oM_3, oM_4, oM_5, oM_6, oM_7, oM_8, oM_9, oM_10, oM_11, bk180_190, pf, bk180_195, bk180_232, nI_add, n1, Bool.false_eq_true, Nat.add_zero, Option.bind_some, bct_v, bct_t, otl_s, otl_n, List.cons_append, List.nil_append, List.getElem?_cons_zero, List.getElem?_cons_succ, ↓reduceIte]
    · have n1 : mnP mp mp' (2 * c + q) = true := by
        unfold mnP
        have : mp (2 * c + q) = 0 ∨ mp' (2 * c + q) = 0 := by omega
        rcases this with y | y <;> simp [y, q0] <;> omega
      have n2 : dsR mp mp' (2 * c + q) = false := by
        unfold dsR
        have : mp (2 * c + q) = 0 ∨ mp' (2 * c + q) = 0 := by omega
        rcases this with y | y <;> simp [y]
      have m1 : mrg mp mp' (2 * c + q) = mp (2 * c + q) + mp' (2 * c + q) := by unfold mrg; split <;> omega
      have m2 : mrg mp' mp (2 * c + q) = mp (2 * c + q) + mp' (2 * c + q) := by unfold mrg; split <;> omega
      obtain ⟨w1, s1, R1, f1⟩ := p1 c q (mp (2 * c + q) + mp' (2 * c + q)) hc hq2
      have hz1 : up ws i (ho, po, ch, lo, ac, bu, sl, may, up mp (2 * c + q) (mp (2 * c + q) + mp' (2 * c + q))) j = (ho', po', ch', lo', ac', bu', sl', may', mp') := by rw [up_n (fun x => hij x.symm)]; exact hz
      obtain ⟨ma3, mr3, c3, r3, p3⟩ := rm_map R1 hn hj hz1
      have b3 := r3.row hc
      obtain ⟨w2, s2, R2, f2⟩ := p3 c q (mp (2 * c + q) + mp' (2 * c + q)) hc hq2
      refine ⟨w2, ?_, ?_, frm_tr (frm_wk f1 (by omega) (by omega)) (frm_wk f2 (by omega) (by omega))⟩
      rotate_left
      · rw [m1, m2, n2]
        show RMx w2 g m kq hq ca ba wl ed wad kd hr cp br n _ th mi nd dr me (di + nI 0) re
        rw [i_add0]
        exact R2
      · have to198 : am_run 180 175 [some (.ref m), none, none, some (.ref (wad i)), some (.ref (wad j)), some (.int (nI A)), some (.int (nI c)), some (.int (nI q)), some (.int (nI (mp (2 * c + q)))), some (.int (nI (mp' (2 * c + q))))] [] w = am_run 180 198 [some (.ref m), none, none, some (.ref (wad i)), some (.ref (wad j)), some (.int (nI A)), some (.int (nI c)), some (.int (nI q)), some (.int (nI (mp (2 * c + q)))), some (.int (nI (mp' (2 * c + q))))] [] w := by
          rw [bk180_175]
          by_cases y : mp (2 * c + q) = 0
          · rw [if_pos (by rw [e1]; exact y)]
          · rw [if_neg (by rw [e1]; exact y), bk180_180, if_pos (by rw [e2]; omega)]
        rw [to198]
        simp only [bk180_198, gfc c1, oK_0, oK_1, oK_2, oK_3, oK_4, oK_5, oK_6, oK_7, oK_8, bk180_202, a1, bk180_205, nI_add, s1, bk180_213, gfc c3, bk180_218, b3, bk180_221, s2, bk180_229, bk180_232, n1, Option.bind_some, bct_v, bct_t, otl_s, otl_n, List.cons_append, List.nil_append, List.getElem?_cons_zero, List.getElem?_cons_succ, ↓reduceIte]
end CK
