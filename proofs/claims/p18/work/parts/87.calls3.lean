/-! THE REFERENCE'S CALLS: tellPose, edge. Mine. -/
theorem stp_new {lo hi lo' hi' k s b t : Nat} {g : Nat → Nat} {w w1 w2 : am_Wd} (hJ : gJ w g) (e : ext w w1 k s) (hb : w.2.1 ≤ b) (hb2 : b < w1.2.1) (f : frm (up g b t) lo' hi' w1 w2) (h1 : lo ≤ lo') (h2 : hi' ≤ hi) (h3 : lo ≤ t) (h4 : t < hi) : stp lo hi g (up g b t) k s w w2 := by
  refine ⟨fun c hc hg => (f.1 c ?_).trans (e.1 c hc), fun c hc => up_n (by omega), fun c hc => ?_, fun c hc => ?_, ?_⟩
  · rw [up_n (by omega)]; omega
  · by_cases q : c = b
    · subst q; rw [up_s]; exact Or.inr ⟨h3, h4⟩
    · rw [up_n q]; exact Or.inl (hJ c hc)
  · rw [f.2] at hc
    rw [up_n (by omega)]
    exact hJ c (Nat.le_trans e.2.1 hc)
  · rw [f.2]
    exact e.2
section CC
variable {w : am_Wd} {g : Nat → Nat} {m kq hq ca ba wl ed : Nat} {wad : Nat → Nat} {kd hr : Nat → Nat} {cp br : Nat → Bool} {n : Nat} {ws : Nat → sW} {th mi nd : Nat} {dr me di re : Int32}
variable {i a ho po ch : Nat} {lo ac bu sl : Int32} {may : Nat → Bool} {mp : Nat → Nat}
theorem Mkv_may {F : Nat → Int32} {q : Nat → Bool} {ma mq : Nat} (h1 : cO w a 10 (oK po ho ch ma mq lo ac bu sl)) (hF : mR2 F q) (h3 : Rws w g mq (400 + 100 * i) mp) (hi : i < 3) (g1 : g a = 110 + 10 * i) (g2 : g ma = 111 + 10 * i) (g3 : g mq = 112 + 10 * i) :
    Mkv (mrw w ma F) g i a (ho, po, ch, lo, ac, bu, sl, q, mp) ∧ frm g (111 + 10 * i) (112 + 10 * i) w (mrw w ma F) := by
  have f : frm g (111 + 10 * i) (112 + 10 * i) w (mrw w ma F) := frm_pt (by omega) (by omega)
  exact ⟨⟨ma, mq, cO_of h1 (f.1 a (by omega)), ⟨F, pt_s, hF⟩, h3.of (f.1 mq (by omega)) (fun b z1 z2 => f.1 b (by omega)), g1, g2, g3⟩, f⟩
/-- tellPose -/
theorem y179 (R : RMx w g m kq hq ca ba wl ed wad kd hr cp br n ws th mi nd dr me di re) (hn : n ≤ 3) (hJ : gJ w g) (hi : i < n) (hy : ws i = (ho, po, ch, lo, ac, bu, sl, may, mp)) (hp : po < 144) :
    ∃ w' g', am_x 179 [.ref m, .int (nI i)] w = some (.inl (some (.int (nI (cnt 144 may)))), w') ∧ RM w' g' m kd hr cp br n (up ws i (tellY (ws i))) 0 mi nd dr me di re ∧ stp 100 800 g g' 1 144 w w' := by
  have z1 := x99 R (nI i)
  rw [nwk_f hn hi] at z1
  obtain ⟨w1, a1, R1, f1⟩ := x96 R hn false (c := 1) (by decide)
  have hJ1 : gJ w1 g := stp_J (stp_frm hJ f1 (Nat.le_refl 100) (Nat.le_refl 101))
  have h1 := rm_get R1 hi hy
  have kf1 := mk_kf h1
  have v1 := x150 (rm_L R1) hn hi
  have z37 := x37 h1
  have e1 : ext w1 (nwr w1 2 144 (fun _ => 0)) 1 144 := nwr_ext
  have gb : g w1.2.1 = 0 := hJ1 _ (Nat.le_refl _)
  have R2 := rm_g (rm_ext R1 hn hJ1 e1) (up_g (t := 111 + 10 * i) gb)
  have h2 := rm_get R2 hi hy
  have Gb : up g w1.2.1 (111 + 10 * i) w1.2.1 = 111 + 10 * i := up_s
  obtain ⟨ma, mq, c2, d2, d3, g1, g2, g3⟩ := h2
  have pf : am_pf (nwr w1 2 144 (fun _ => 0)) (wad i) 10 3 (.ref w1.2.1) = some (am_pt (nwr w1 2 144 (fun _ => 0)) (wad i) (.inr (10, oK po ho ch w1.2.1 mq lo ac bu sl))) := pfc c2 (by show 3 < 9; decide) (by decide)
  have ne : wad i ≠ w1.2.1 := fun q => by rw [q, Gb] at g1; omega
  have c3 : cO (am_pt (nwr w1 2 144 (fun _ => 0)) (wad i) (.inr (10, oK po ho ch w1.2.1 mq lo ac bu sl))) (wad i) 10 (oK po ho ch w1.2.1 mq lo ac bu sl) := pt_s
  have b3 : cI (am_pt (nwr w1 2 144 (fun _ => 0)) (wad i) (.inr (10, oK po ho ch w1.2.1 mq lo ac bu sl))) w1.2.1 2 144 (fun _ => 0) := cI_of nwr_at (pt_n (fun q => ne q.symm))
  have f3 : frm (up g w1.2.1 (111 + 10 * i)) (110 + 10 * i) (111 + 10 * i) (nwr w1 2 144 (fun _ => 0)) (am_pt (nwr w1 2 144 (fun _ => 0)) (wad i) (.inr (10, oK po ho ch w1.2.1 mq lo ac bu sl))) := frm_pt (by omega) (by omega)
  have r3 := d3.of (f3.1 mq (by omega)) (fun b z1 z2 => f3.1 b (by omega))
  generalize am_pt (nwr w1 2 144 (fun _ => 0)) (wad i) (.inr (10, oK po ho ch w1.2.1 mq lo ac bu sl)) = w3 at pf c3 b3 f3 r3
  have hF : mR2 (upd (fun _ => 0) po (b2i true)) (fun q => decide (q = po)) := fun q hq => by
    show upd (fun _ => 0) po (b2i true) q = b2i (decide (q = po))
    by_cases e : q = po
    · rw [e, pk_us, decide_eq_true rfl]
    · rw [pk_un e, decide_eq_false e]; rfl
  have pw : am_wi 2 w3 w1.2.1 (nI po) (b2i true) = some (mrw w3 w1.2.1 (upd (fun _ => 0) po (b2i true))) := wic b3 hp (by decide)
  obtain ⟨k1, k2⟩ := Mkv_may (g := up g w1.2.1 (111 + 10 * i)) c3 hF r3 (by omega) g1 Gb g3
  have f4 := frm_tr (frm_wk f3 (show 110 + 10 * i ≤ 110 + 10 * i by omega) (show 111 + 10 * i ≤ 113 + 10 * i by omega)) (frm_wk k2 (by omega) (by omega))
  have R4 := rm_wk2 R2 hn hi k1 f4
  have s1 : stp 100 800 g (up g w1.2.1 (111 + 10 * i)) 1 144 w1 (mrw w3 w1.2.1 (upd (fun _ => 0) po (b2i true))) := stp_new hJ1 e1 (Nat.le_refl _) (Nat.lt_succ_self _) f4 (by omega) (by omega) (by omega) (by omega)
  refine ⟨_, _, ?_, ⟨_, _, _, _, _, _, _, by rw [hy]; exact R4⟩, stp_wk (stp_tr (stp_frm hJ f1 (Nat.le_refl 100) (show 101 ≤ 800 by decide)) s1) (by omega) (by omega)⟩
  have na : am_na w1 2 (nI 144) = some (nwr w1 2 144 (fun _ => 0)) := na_nwr (by decide) rfl
  simp only [bk179_0, bk179_6, bk179_10, bk179_15, bk179_13, bk179_19, bk179_23, bk179_26, bk179_31, bk179_38, bk179_41, bk179_45, bk179_49, bk179_51, bx179, rm_kf R, z1, a1, b2i_0, gfc R1.1, oM_0, oM_1, oM_2, oM_3, oM_4, oM_5, oM_6, oM_7, oM_8, oM_9, oM_10, oM_11, rm_lk R1, v1, kf1, z37, na, pf, gfc c3, oK_0, oK_1, oK_2, oK_3, oK_4, oK_5, oK_6, oK_7, oK_8, nar_1, pw, Option.bind_some, bct_v, bct_t, otl_s, otl_n, List.cons_append, List.nil_append, List.getElem?_cons_zero, List.getElem?_cons_succ, ↓reduceIte]
theorem y179n (R : RMx w g m kq hq ca ba wl ed wad kd hr cp br n ws th mi nd dr me di re) (hn : n ≤ 3) (hJ : gJ w g) {z : Int32} (hz : z < nI 0 ∨ nI n ≤ z) : ∃ w', am_x 179 [.ref m, .int z] w = some (.inl (some (.int (nI 0))), w') ∧ RM w' g m kd hr cp br n ws 1 mi nd dr me di re ∧ stp 100 800 g g 0 0 w w' := by
  have z1 := x99 R z
  rw [nwk_t hn hz] at z1
  obtain ⟨w1, a1, R1, f1⟩ := x96 R hn true (c := 1) (by decide)
  refine ⟨w1, ?_, ⟨_, _, _, _, _, _, _, R1⟩, stp_frm hJ f1 (by decide) (by decide)⟩
  simp only [bk179_0, bk179_6, bk179_10, bk179_15, bk179_13, bk179_19, bk179_23, bk179_26, bk179_31, bk179_38, bk179_41, bk179_45, bk179_49, bk179_51, bx179, rm_kf R, z1, a1, b2i_0, reduceCtorEq, Option.bind_some, bct_v, bct_t, otl_s, otl_n, List.cons_append, List.nil_append, List.getElem?_cons_zero, List.getElem?_cons_succ, ↓reduceIte]
end CC
