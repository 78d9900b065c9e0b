/-! THE REFERENCE'S CALLS: meet, on. Mine. -/
theorem sure_1 {may : Nat → Bool} (h : cnt 144 may = 1) : ∃ p, sureP may = some p := by
  unfold sureP
  rw [if_pos h]
  cases e : fst1 144 may with
  | none =>
    exfalso
    have : cnt 144 may = cnt 144 (fun _ => false) := cnt_cg 144 (fun c hc => fst1_none e c hc)
    rw [this, cnt_ff] at h
    cases h
  | some p => exact ⟨p, rfl⟩
theorem sure_0 {may : Nat → Bool} (h : ¬ cnt 144 may = 1) : sureP may = none := by
  unfold sureP
  rw [if_neg h]
def mgA (mp mq : Nat → Nat) (k p : Nat) : Nat := if p < k then mrg mp mq p else mp p
theorem mgA_0 {mp mq : Nat → Nat} : mgA mp mq 0 = mp := funext fun p => if_neg (Nat.not_lt_zero p)
theorem mgA_k {mp mq : Nat → Nat} {k : Nat} : mgA mp mq k k = mp k := if_neg (Nat.lt_irrefl k)
theorem mgA_s {mp mq : Nat → Nat} {k : Nat} : up (mgA mp mq k) k (mrg mp mq k) = mgA mp mq (k + 1) := by
  funext p
  unfold up mgA
  by_cases e : p = k
  · subst e
    rw [if_pos rfl, if_pos (Nat.lt_succ_self p)]
  · rw [if_neg e]
    by_cases h : p < k
    · rw [if_pos h, if_pos (by omega)]
    · rw [if_neg h, if_neg (by omega)]
theorem mgA_ok {mp mq : Nat → Nat} {k : Nat} (h : mpo mp) (h' : mpo mq) : mpo (mgA mp mq k) := fun p => by
  unfold mgA
  split
  · exact mrg_le h h' p
  · exact h p
theorem mgA_m {mp mq : Nat → Nat} {k : Nat} : mrg (mgA mp mq k) (mgA mq mp k) k = mrg mp mq k := by
  unfold mrg
  rw [mgA_k, mgA_k]
theorem mgA_n {mp mq : Nat → Nat} {k : Nat} : mnP (mgA mp mq k) (mgA mq mp k) k = mnP mp mq k := by
  unfold mnP
  rw [mgA_k, mgA_k]
theorem mgA_d {mp mq : Nat → Nat} {k : Nat} : dsR (mgA mp mq k) (mgA mq mp k) k = dsR mp mq k := by
  unfold dsR
  rw [mgA_k, mgA_k]
theorem mgA_b {mp mq : Nat → Nat} {p : Nat} (h : p < 72) : mgA mq mp 72 p = mrg mq (mrg mp mq) p := by
  unfold mgA
  rw [if_pos h]
  unfold mrg
  by_cases e : mq p = 0
  · rw [if_pos e, if_pos e]
    split
    · rename_i h; rw [h, e]
    · rfl
  · rw [if_neg e, if_neg e]
theorem Rws.cg {w : am_Wd} {g : Nat → Nat} {q t : Nat} {kd kd' : Nat → Nat} (h : Rws w g q t kd) (e : ∀ k, k < 72 → kd k = kd' k) : Rws w g q t kd' := by
  refine ⟨h.1, fun c hc => ?_⟩
  obtain ⟨⟨f, f1, f2, f3⟩, hg⟩ := h.2 c hc
  exact ⟨⟨f, f1, by rw [f2, e _ (by omega)], by rw [f3, e _ (by omega)]⟩, hg⟩
theorem cnt_s1 {n : Nat} {p : Nat → Bool} : cnt n p + (if p n = true then 1 else 0) = cnt (n + 1) p := rfl
theorem i_add_b (x : Int32) (c : Nat) (b : Bool) : x + nI c + nI (if b = true then 1 else 0) = x + nI (c + (if b = true then 1 else 0)) := by rw [Int32.add_assoc, nI_add]
section CL
variable {w : am_Wd} {g : Nat → Nat} {m kq hq ca ba wl ed : Nat} {wad : Nat → Nat} {kd hr : Nat → Nat} {cp br : Nat → Bool} {n : Nat} {ws : Nat → sW} {th mi nd : Nat} {dr me di re : Int32}
variable {i a ho po ch : Nat} {lo ac bu sl : Int32} {may : Nat → Bool} {mp : Nat → Nat}
variable {j ho' po' ch' : Nat} {lo' ac' bu' sl' : Int32} {may' : Nat → Bool} {mp' : Nat → Nat}
theorem loop180 (R : RMx w g m kq hq ca ba wl ed wad kd hr cp br n ws th mi nd dr me di re) (hn : n ≤ 3) (hJ : gJ w g) (hi : i < n) (hj : j < n) (hij : i ≠ j) (hy : ws i = (ho, po, ch, lo, ac, bu, sl, may, mp)) (hz : ws j = (ho', po', ch', lo', ac', bu', sl', may', mp')) (hm : mpo mp) (hm' : mpo mp') : ∀ c, c ≤ 36 →
    ∃ w', am_run 180 124 [some (.ref m), none, none, some (.ref (wad i)), some (.ref (wad j)), some (.int (nI 0)), some (.int (nI 0)), none, none, none] [] w = am_run 180 124 [some (.ref m), none, none, some (.ref (wad i)), some (.ref (wad j)), some (.int (nI (cnt (2 * c) (mnP mp mp')))), some (.int (nI c)), none, none, none] [] w' ∧ RMx w' g m kq hq ca ba wl ed wad kd hr cp br n (up (up ws i (ho, po, ch, lo, ac, bu, sl, may, mgA mp mp' (2 * c))) j (ho', po', ch', lo', ac', bu', sl', may', mgA mp' mp (2 * c))) th mi nd dr me (di + nI (cnt (2 * c) (dsR mp mp'))) re ∧ frm g 100 736 w w' := by
  intro c
  induction c with
  | zero =>
    intro _
    refine ⟨w, rfl, ?_, frm_rf⟩
    show RMx w g m kq hq ca ba wl ed wad kd hr cp br n (up (up ws i (ho, po, ch, lo, ac, bu, sl, may, mgA mp mp' 0)) j (ho', po', ch', lo', ac', bu', sl', may', mgA mp' mp 0)) th mi nd dr me (di + nI 0) re
    rw [mgA_0, mgA_0, up_id hy, up_id hz, i_add0]
    exact R
  | succ c ih =>
    intro hc
    obtain ⟨w1, e1, R1, f1⟩ := ih (by omega)
    have hJ1 : gJ w1 g := stp_J (stp_frm (lo := 100) (hi := 800) hJ f1 (by decide) (by decide))
    have y1 : up (up ws i (ho, po, ch, lo, ac, bu, sl, may, mgA mp mp' (2 * c))) j (ho', po', ch', lo', ac', bu', sl', may', mgA mp' mp (2 * c)) i = (ho, po, ch, lo, ac, bu, sl, may, mgA mp mp' (2 * c)) := by rw [up_n hij, up_s]
    have z1 : up (up ws i (ho, po, ch, lo, ac, bu, sl, may, mgA mp mp' (2 * c))) j (ho', po', ch', lo', ac', bu', sl', may', mgA mp' mp (2 * c)) j = (ho', po', ch', lo', ac', bu', sl', may', mgA mp' mp (2 * c)) := up_s
    obtain ⟨w2, e2, R2, f2⟩ := it180 R1 hn hJ1 hi hj hij y1 z1 (mgA_ok hm hm') (mgA_ok hm' hm) (c := c) (q := 0) (by omega) (by decide) (cnt (2 * c) (mnP mp mp')) (k := 2 * c) rfl
    have s1 : up (up (up (up ws i (ho, po, ch, lo, ac, bu, sl, may, mgA mp mp' (2 * c))) j (ho', po', ch', lo', ac', bu', sl', may', mgA mp' mp (2 * c))) i (ho, po, ch, lo, ac, bu, sl, may, up (mgA mp mp' (2 * c)) (2 * c) (mrg (mgA mp mp' (2 * c)) (mgA mp' mp (2 * c)) (2 * c)))) j (ho', po', ch', lo', ac', bu', sl', may', up (mgA mp' mp (2 * c)) (2 * c) (mrg (mgA mp' mp (2 * c)) (mgA mp mp' (2 * c)) (2 * c))) = up (up ws i (ho, po, ch, lo, ac, bu, sl, may, mgA mp mp' (2 * c + 1))) j (ho', po', ch', lo', ac', bu', sl', may', mgA mp' mp (2 * c + 1)) := by
      rw [mgA_m, mgA_m, mgA_s, mgA_s, ← up_c hij, up_up, up_up]
    rw [s1, mgA_d, i_add_b, cnt_s1] at R2
    rw [mgA_n, cnt_s1] at e2
    have hJ2 : gJ w2 g := stp_J (stp_frm (lo := 100) (hi := 800) hJ1 f2 (by decide) (by decide))
    have y2 : up (up ws i (ho, po, ch, lo, ac, bu, sl, may, mgA mp mp' (2 * c + 1))) j (ho', po', ch', lo', ac', bu', sl', may', mgA mp' mp (2 * c + 1)) i = (ho, po, ch, lo, ac, bu, sl, may, mgA mp mp' (2 * c + 1)) := by rw [up_n hij, up_s]
    have z2 : up (up ws i (ho, po, ch, lo, ac, bu, sl, may, mgA mp mp' (2 * c + 1))) j (ho', po', ch', lo', ac', bu', sl', may', mgA mp' mp (2 * c + 1)) j = (ho', po', ch', lo', ac', bu', sl', may', mgA mp' mp (2 * c + 1)) := up_s
    obtain ⟨w3, e3, R3, f3⟩ := it180 R2 hn hJ2 hi hj hij y2 z2 (mgA_ok hm hm') (mgA_ok hm' hm) (c := c) (q := 1) (by omega) (by decide) (cnt (2 * c + 1) (mnP mp mp')) (k := 2 * c + 1) rfl
    have s2 : up (up (up (up ws i (ho, po, ch, lo, ac, bu, sl, may, mgA mp mp' (2 * c + 1))) j (ho', po', ch', lo', ac', bu', sl', may', mgA mp' mp (2 * c + 1))) i (ho, po, ch, lo, ac, bu, sl, may, up (mgA mp mp' (2 * c + 1)) (2 * c + 1) (mrg (mgA mp mp' (2 * c + 1)) (mgA mp' mp (2 * c + 1)) (2 * c + 1)))) j (ho', po', ch', lo', ac', bu', sl', may', up (mgA mp' mp (2 * c + 1)) (2 * c + 1) (mrg (mgA mp' mp (2 * c + 1)) (mgA mp mp' (2 * c + 1)) (2 * c + 1))) = up (up ws i (ho, po, ch, lo, ac, bu, sl, may, mgA mp mp' (2 * c + 1 + 1))) j (ho', po', ch', lo', ac', bu', sl', may', mgA mp' mp (2 * c + 1 + 1)) := by
      rw [mgA_m, mgA_m, mgA_s, mgA_s, ← up_c hij, up_up, up_up]
    rw [s2, mgA_d, i_add_b, cnt_s1] at R3
    rw [mgA_n, cnt_s1] at e3
    refine ⟨w3, ?_, R3, frm_tr f1 (frm_tr f2 f3)⟩
    rw [e1, bk180_124, if_neg (by rw [nI_leS (by decide) (by omega)]; omega), bk180_131]
    refine Eq.trans e2 (Eq.trans e3 ?_)
    rw [bk180_134, if_pos (by rw [nI_leS (by decide) (by decide)]; decide), bk180_238, nI_add]
    rfl
theorem rm_mp (R : RMx w g m kq hq ca ba wl ed wad kd hr cp br n ws th mi nd dr me di re) {ws' : Nat → sW} (h : ∀ i, i < n → Mkv w g i (wad i) (ws' i)) : RMx w g m kq hq ca ba wl ed wad kd hr cp br n ws' th mi nd dr me di re := by
  obtain ⟨h1, k1, k2, k3, k4, k5, k6, g1⟩ := R
  exact ⟨h1, k1, k2, k3, k4, k5, h, g1⟩
theorem mk_mp {mp2 : Nat → Nat} (h : Mkv w g i a (ho, po, ch, lo, ac, bu, sl, may, mp)) (e : ∀ k, k < 72 → mp k = mp2 k) : Mkv w g i a (ho, po, ch, lo, ac, bu, sl, may, mp2) := by
  obtain ⟨ma, mr, h1, h2, h3, g1⟩ := h
  exact ⟨ma, mr, h1, h2, h3.cg e, g1⟩
/-- before the two are looked at -/
theorem pre180 (R : RMx w g m kq hq ca ba wl ed wad kd hr cp br n ws th mi nd dr me di re) (hn : n ≤ 3) (hJ : gJ w g) (hi : i < n) (hj : j < n) (hij : i ≠ j) (hy : ws i = (ho, po, ch, lo, ac, bu, sl, may, mp)) (hz : ws j = (ho', po', ch', lo', ac', bu', sl', may', mp')) (hp : po < 144) (hp' : po' < 144) :
    ∃ w', am_x 180 [.ref m, .int (nI i), .int (nI j)] w = am_run 180 113 [some (.ref m), none, none, some (.ref (wad i)), some (.ref (wad j)), none, none, none, none, none] [.int (b2i (!decide (cnt 144 may = 1 ∧ cnt 144 may' = 1 ∧ po / 4 = po' / 4)))] w' ∧ RMx w' g m kq hq ca ba wl ed wad kd hr cp br n ws (if (!decide (cnt 144 may = 1 ∧ cnt 144 may' = 1 ∧ po / 4 = po' / 4)) = true then 3 else 0) mi nd dr me di re ∧ frm g 100 101 w w' := by
  have z1 := x99 R (nI i)
  rw [nwk_f hn hi] at z1
  have z2 := x99 R (nI j)
  rw [nwk_f hn hj] at z2
  obtain ⟨w1, a1, R1, f1⟩ := x96 R hn false (c := 1) (by decide)
  have a1' : am_x 96 [.ref m, .int (nI 0), .int (nI 1)] w = _ := a1
  obtain ⟨w2, a2, R2, f2⟩ := x40 R1 hn false (c := 2) (by decide)
  have a2' : am_x 40 [.ref m, .int (nI 0), .int (nI 2)] w1 = _ := a2
  obtain ⟨w3, a3, R3, f3⟩ := x40 R2 hn (!decide (cnt 144 may = 1 ∧ cnt 144 may' = 1 ∧ po / 4 = po' / 4)) (c := 3) (by decide)
  refine ⟨w3, ?_, R3, frm_tr f1 (frm_tr f2 f3)⟩
  have v1 := x150 (rm_L R2) hn hi
  have v2 := x150 (rm_L R2) hn hj
  have h1 := rm_get R2 hi hy
  have h2 := rm_get R2 hj hz
  have k1 := mk_kf h1
  have k2 := mk_kf h2
  have y1 := x95 h1
  have y2 := x95 h2
  obtain ⟨ma, mr, c1, -⟩ := h1
  obtain ⟨ma', mr', c2, -⟩ := h2
  have eij : (nI i = nI j) = False := by rw [nI_eqS (by omega) (by omega)]; exact eq_false hij
  have fin : ∀ v, (!decide (cnt 144 may = 1 ∧ cnt 144 may' = 1 ∧ po / 4 = po' / 4)) = v → am_run 180 109 [some (.ref m), none, none, some (.ref (wad i)), some (.ref (wad j)), none, none, none, none, none] [.int (b2i v), .ref m] w2 = am_run 180 113 [some (.ref m), none, none, some (.ref (wad i)), some (.ref (wad j)), none, none, none, none, none] [.int (b2i v)] w3 := by
    intro v hv
    rw [hv] at a3
    simp only [bk180_109, rm_kf R2, a3, Option.bind_some, bct_v, bct_t, otl_s, otl_n, List.cons_append, List.nil_append, List.getElem?_cons_zero, List.getElem?_cons_succ, ↓reduceIte]
  have head : am_x 180 [.ref m, .int (nI i), .int (nI j)] w = am_run 180 79 [some (.ref m), none, none, some (.ref (wad i)), some (.ref (wad j)), none, none, none, none, none] [.int (no (sureP may)), .ref m] w2 := by
    simp only [bx180, bk180_0, rm_kf R, z1, bk180_6, b2i_0, not_true_eq_false, bk180_9, z2, bk180_14, bk180_21, bk180_22, a1', bk180_26, bk180_29, eij, not_false_eq_true, bk180_39, bk180_40, rm_kf R1, a2', bk180_44, bk180_49, gfc R2.1, oM_0, oM_1, oM_2, oM_3, oM_4, oM_5, oM_6, oM_7, oM_8, oM_9, oM_10, oM_11, bk180_53, rm_lk R2, v1, bk180_57, k1, bk180_60, bk180_65, v2, bk180_69, k2, bk180_72, y1, Option.bind_some, bct_v, bct_t, otl_s, otl_n, List.cons_append, List.nil_append, List.getElem?_cons_zero, List.getElem?_cons_succ, ↓reduceIte]
  rw [head, bk180_79]
  by_cases s1 : cnt 144 may = 1
  · obtain ⟨p, hp1⟩ := sure_1 s1
    rw [hp1, if_neg (show ¬ no (some p) = (-1 : Int32) by show ¬ nI p = -1; rw [nI_m1S (by have := (sure_lt hp1).1; omega)]; exact id)]
    simp only [bk180_83, k2, y2, bk180_88, Option.bind_some, bct_v, bct_t, otl_s, otl_n, List.cons_append, List.nil_append, List.getElem?_cons_zero, List.getElem?_cons_succ, ↓reduceIte]
    by_cases s2 : cnt 144 may' = 1
    · obtain ⟨p', hp2⟩ := sure_1 s2
      rw [hp2, if_neg (show ¬ no (some p') = (-1 : Int32) by show ¬ nI p' = -1; rw [nI_m1S (by have := (sure_lt hp2).1; omega)]; exact id)]
      simp only [bk180_92, k1, x38 c1 hp, bk180_96, k2, x38 c2 hp', bk180_101, nI_eqS (show po / 4 < 2147483648 by omega) (show po' / 4 < 2147483648 by omega), Option.bind_some, bct_v, bct_t, otl_s, otl_n, List.cons_append, List.nil_append, List.getElem?_cons_zero, List.getElem?_cons_succ, ↓reduceIte]
      by_cases s3 : po / 4 = po' / 4
      · rw [if_pos s3, bk180_108, decide_eq_true (show cnt 144 may = 1 ∧ cnt 144 may' = 1 ∧ po / 4 = po' / 4 from ⟨s1, s2, s3⟩)]
        exact fin false (by rw [decide_eq_true (show cnt 144 may = 1 ∧ cnt 144 may' = 1 ∧ po / 4 = po' / 4 from ⟨s1, s2, s3⟩)]; rfl)
      · have e : decide (cnt 144 may = 1 ∧ cnt 144 may' = 1 ∧ po / 4 = po' / 4) = false := decide_eq_false fun x => s3 x.2.2
        rw [if_neg s3, bk180_104, e]
        exact fin true (by rw [e]; rfl)
    · have e : decide (cnt 144 may = 1 ∧ cnt 144 may' = 1 ∧ po / 4 = po' / 4) = false := decide_eq_false fun x => s2 x.2.1
      rw [sure_0 s2, if_pos (show no none = (-1 : Int32) from rfl), bk180_104, e]
      exact fin true (by rw [e]; rfl)
  · have e : decide (cnt 144 may = 1 ∧ cnt 144 may' = 1 ∧ po / 4 = po' / 4) = false := decide_eq_false fun x => s1 x.1
    rw [sure_0 s1, if_pos (show no none = (-1 : Int32) from rfl), bk180_104, e]
    exact fin true (by rw [e]; rfl)
end CL
