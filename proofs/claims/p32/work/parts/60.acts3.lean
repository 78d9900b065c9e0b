/-! THE CLASS'S ACTS: meetings, new walkers, a new object. Mine. -/
section MEE
variable {w : am_Wd} {g : Nat → Nat} {x fl ka ha wr C B : Nat} {wad : Nat → Nat} {kd hr : Nat → Nat} {cp br : Nat → Bool} {n : Nat} {ws : Nat → sW} {mi nd : Nat} {dr me di re : Int32}
variable {i ho po ch : Nat} {lo ac bu sl : Int32} {may : Nat → Bool} {mp : Nat → Nat}
variable {j ho' po' ch' : Nat} {lo' ac' bu' sl' : Int32} {may' : Nat → Bool} {mp' : Nat → Nat}
def unkN (mp : Nat → Nat) : Nat := cnt 36 (unkP mp 1) + cnt 36 (unkP mp 2)
def dspN (mp mq : Nat → Nat) : Nat := dspP mp mq 1 + dspP mp mq 2
def mapY (mp : Nat → Nat) (y : sW) : sW := match y with
  | (ho, po, ch, lo, ac, bu, sl, may, _) => (ho, po, ch, lo, ac, bu, sl, may, mp)
end MEE
/-! what is made -/
theorem nw_s {w : am_Wd} {e : am_En} {k : Nat} : (am_nw w e k).1 w.2.1 = some e := if_pos rfl
theorem nw_n {w : am_Wd} {e : am_En} {k b : Nat} (h : b ≠ w.2.1) : (am_nw w e k).1 b = w.1 b := if_neg h
theorem nw_2 {w : am_Wd} {e : am_En} {k : Nat} : (am_nw w e k).2 = (w.2.1 + 1, w.2.2.1 + k, w.2.2.2) := rfl
/-- the sides' outer cells, a row that stood there before -/
def oc (s : Nat) : Nat := if s = 0 then 63 else if s = 1 then 34905131040 else if s = 2 then 67645734912 else 1090785345
def stO (w : am_Wd) (o : Nat) (xf : Nat → Int64) : Prop := w.2.2.2 0 = some o ∧ w.1 o = some (.inl (9, 4, .inr (.inl xf))) ∧ ∀ s, s < 4 → xf s = lN (oc s)
theorem x12 {w : am_Wd} {o : Nat} {xf : Nat → Int64} (h : stO w o xf) : am_x 12 [] w = some (.inl (some (.ref w.2.1)), am_nw w (.inl (1, 4, .inr (.inl xf))) 4) := by
  rw [bx12]
  refine (bu (ls'' := []) (st' := [.ref o]) bf12_0 bf12_3 (ls' := []) ?_ rfl).trans ?_
  · show some _ = _
    rw [h.1]
    rfl
  refine (bn (ls'' := []) (st' := [.ref w.2.1]) (w' := am_nw w (.inl (1, 4, .inr (.inl xf))) 4) bf12_3 bf12_6 (ls' := []) ?_ rfl (am_ge_nw _ _ _)).trans ?_
  · show (match w.1 o with | some (.inl (t, n, .inr (.inl x))) => (if t = 9 then am_nx (3 + 3) [] (.ref w.2.1 :: []) (am_nw w (.inl (1, n, .inr (.inl x))) n) else none) | _ => none) = _
    rw [h.2.1]
    rfl
  refine (bu (ls'' := []) (st' := [.ref w.2.1]) bf12_6 bf12_9 (ls' := []) ?_ rfl).trans ?_
  · show (am_kt (am_nw w (.inl (1, 4, .inr (.inl xf))) 4) w.2.1 1).bind _ = _
    unfold am_kt
    rw [nw_s]
    rfl
  exact am_e2 bf12_9 rfl (am_ge_rf _)
theorem arL_of (xf : Nat → Int64) : ∃ W : Nat → Nat, (∀ j, W j < 2 ^ 64) ∧ xf = fun j => lN (W j) := by
  refine ⟨fun j => (xf j).toBitVec.toNat, fun j => (xf j).toBitVec.isLt, funext fun j => ?_⟩
  obtain ⟨n, h1, h2⟩ := wb_of (xf j)
  show xf j = lN ((xf j).toBitVec.toNat)
  rw [h2, wb_tn h1]
theorem lN_inj {a b : Nat} (ha : a < 2 ^ 64) (hb : b < 2 ^ 64) (h : lN a = lN b) : a = b := by
  rw [← wb_tn ha, ← wb_tn hb, h]
theorem oc_bm : ∀ s, s < 4 → bm (oc s) (fun c => kno (fun _ => 0) c s == 2) := by
  have k : all36 (fun c s => (oc s).testBit c == (kno (fun _ => 0) c s == 2)) = true := by decide +kernel
  intro s hs
  refine ⟨?_, fun c hc => beq_iff_eq.mp (all36_at k hc hs)⟩
  rcases (show s = 0 ∨ s = 1 ∨ s = 2 ∨ s = 3 by omega) with rfl | rfl | rfl | rfl <;> decide
theorem kn0 : ∀ s, s < 4 → bm 0 (fun c => kno (fun _ => 0) c s == 1) := by
  have k : all36 (fun c s => (false : Bool) == (kno (fun _ => 0) c s == 1)) = true := by decide +kernel
  intro s hs
  exact ⟨by decide, fun c hc => (Nat.zero_testBit c).trans (beq_iff_eq.mp (all36_at k hc hs))⟩
