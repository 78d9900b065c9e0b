section
/-! THE REFERENCE: its cells; lists; small methods. Mine. -/
/-- a world grown: nothing old is changed; at most k cells of s slots more -/
def ext (w w' : am_Wd) (k s : Nat) : Prop := (∀ b, b < w.2.1 → w'.1 b = w.1 b) ∧ w.2.1 ≤ w'.2.1 ∧ w'.2.1 ≤ w.2.1 + k ∧ w.2.2.1 ≤ w'.2.2.1 ∧ w'.2.2.1 ≤ w.2.2.1 + s ∧ w'.2.2.2 = w.2.2.2
theorem ext_rf {w : am_Wd} : ext w w 0 0 := ⟨fun _ _ => rfl, Nat.le_refl _, Nat.le_refl _, Nat.le_refl _, Nat.le_refl _, rfl⟩
theorem ext_tr {w w' w'' : am_Wd} {k s k' s' : Nat} (h : ext w w' k s) (h' : ext w' w'' k' s') : ext w w'' (k + k') (s + s') := by
  obtain ⟨a1, a2, a3, a4, a5, a6⟩ := h
  obtain ⟨b1, b2, b3, b4, b5, b6⟩ := h'
  exact ⟨fun b hb => (b1 b (by omega)).trans (a1 b hb), by omega, by omega, by omega, by omega, b6.trans a6⟩
theorem ext_wk {w w' : am_Wd} {k s k' s' : Nat} (h : ext w w' k s) (hk : k ≤ k') (hs : s ≤ s') : ext w w' k' s' := by
  obtain ⟨a1, a2, a3, a4, a5, a6⟩ := h
  exact ⟨a1, a2, by omega, a4, by omega, a6⟩
theorem ext_nw {w : am_Wd} {e : am_En} {n : Nat} : ext w (am_nw w e n) 1 n := ⟨fun b hb => nw_n (by omega), Nat.le_succ _, Nat.le_refl _, Nat.le_add_right _ _, Nat.le_refl _, rfl⟩
/-- something new written -/
theorem ext_pt {w w' : am_Wd} {k s a : Nat} {e : am_En} (h : ext w w' k s) (ha : w.2.1 ≤ a) : ext w (am_pt w' a e) k s := by
  obtain ⟨a1, a2, a3, a4, a5, a6⟩ := h
  exact ⟨fun b hb => (pt_n (by omega)).trans (a1 b hb), a2, a3, a4, a5, a6⟩
/-- rows of two, one behind another -/
def Rws (w : am_Wd) (g : Nat → Nat) (q t : Nat) (kd : Nat → Nat) : Prop := cQ w q 6 36 (fun i => if i < 36 then some (q + 1 + i) else none) ∧ ∀ c, c < 36 → (∃ f, cI w (q + 1 + c) 0 2 f ∧ f 0 = nI (kd (2 * c)) ∧ f 1 = nI (kd (2 * c + 1))) ∧ g (q + 1 + c) = t + c
theorem Rws.of {w w' : am_Wd} {g : Nat → Nat} {q t : Nat} {kd : Nat → Nat} (h : Rws w g q t kd) (e : w'.1 q = w.1 q) (e2 : ∀ b, t ≤ g b → g b < t + 36 → w'.1 b = w.1 b) : Rws w' g q t kd := by
  refine ⟨cQ_of h.1 e, fun c hc => ?_⟩
  obtain ⟨⟨f, f1, f2, f3⟩, hg⟩ := h.2 c hc
  exact ⟨⟨f, cI_of f1 (e2 _ (by omega) (by omega)), f2, f3⟩, hg⟩
theorem Rws.g {w : am_Wd} {g g' : Nat → Nat} {q t : Nat} {kd : Nat → Nat} (h : Rws w g q t kd) (ht : t ≠ 0) (hg : ∀ b, g b ≠ 0 → g' b = g b) : Rws w g' q t kd :=
  ⟨h.1, fun c hc => ⟨(h.2 c hc).1, (hg _ (by have := (h.2 c hc).2; omega)).trans (h.2 c hc).2⟩⟩
theorem Rws.row {w : am_Wd} {g : Nat → Nat} {q t : Nat} {kd : Nat → Nat} (h : Rws w g q t kd) {c : Nat} (hc : c < 36) : am_rq w q (nI c) = some (.ref (q + 1 + c)) := by
  rw [rqc h.1 (i := c) (Or.inr (Or.inr rfl)) hc (by decide), if_pos hc]
  rfl
theorem Rws.at {w : am_Wd} {g : Nat → Nat} {q t : Nat} {kd : Nat → Nat} (h : Rws w g q t kd) {c j : Nat} (hc : c < 36) (hj : j < 2) : am_ri 0 w (q + 1 + c) (nI j) = some (nI (kd (2 * c + j))) := by
  obtain ⟨⟨f, f1, f2, f3⟩, -⟩ := h.2 c hc
  rw [ric f1 (i := j) rfl hj (by decide)]
  rcases (show j = 0 ∨ j = 1 by omega) with rfl | rfl
  · exact congrArg some f2
  · exact congrArg some f3
theorem Rws.put {w : am_Wd} {g : Nat → Nat} {q t : Nat} {kd : Nat → Nat} (h : Rws w g q t kd) (hq : g q < t ∨ t + 36 ≤ g q) {c j v : Nat} (hc : c < 36) (hj : j < 2) : ∃ w', am_wi 0 w (q + 1 + c) (nI j) (nI v) = some w' ∧ Rws w' g q t (up kd (2 * c + j) v) ∧ frm g t (t + 36) w w' := by
  obtain ⟨⟨f, f1, f2, f3⟩, hg⟩ := h.2 c hc
  refine ⟨_, wic f1 (i := j) hj (by decide), ⟨cQ_of h.1 (pt_n (fun e => by rw [e, hg] at hq; omega)), fun c' hc' => ?_⟩, frm_pt (by omega) (by omega)⟩
  obtain ⟨⟨f', f1', f2', f3'⟩, hg'⟩ := h.2 c' hc'
  by_cases e : c' = c
  · subst e
    refine ⟨⟨upd f j (nI v), pt_s, ?_, ?_⟩, hg'⟩
    · rcases (show j = 0 ∨ j = 1 by omega) with rfl | rfl
      · rw [pk_us]; unfold up; rw [if_pos (by omega)]
      · rw [pk_un (by decide), f2]; unfold up; rw [if_neg (by omega)]
    · rcases (show j = 0 ∨ j = 1 by omega) with rfl | rfl
      · rw [pk_un (by decide), f3]; unfold up; rw [if_neg (by omega)]
      · rw [pk_us]; unfold up; rw [if_pos rfl]
  · refine ⟨⟨f', cI_of f1' (pt_n (by omega)), ?_, ?_⟩, hg'⟩
    · rw [f2', up_n (by omega)]
    · rw [f3', up_n (by omega)]
def oK (po ho ch ma mq : Nat) (lo ac bu sl : Int32) : List Value := [.int (nI po), .int (nI ho), .int (nI ch), .ref ma, .ref mq, .int lo, .int ac, .int bu, .int sl]
theorem oK_0 {po ho ch ma mq : Nat} {lo ac bu sl : Int32} : (oK po ho ch ma mq lo ac bu sl)[0]? = some (.int (nI po)) := rfl
theorem oK_1 {po ho ch ma mq : Nat} {lo ac bu sl : Int32} : (oK po ho ch ma mq lo ac bu sl)[1]? = some (.int (nI ho)) := rfl
theorem oK_2 {po ho ch ma mq : Nat} {lo ac bu sl : Int32} : (oK po ho ch ma mq lo ac bu sl)[2]? = some (.int (nI ch)) := rfl
theorem oK_3 {po ho ch ma mq : Nat} {lo ac bu sl : Int32} : (oK po ho ch ma mq lo ac bu sl)[3]? = some (.ref ma) := rfl
theorem oK_4 {po ho ch ma mq : Nat} {lo ac bu sl : Int32} : (oK po ho ch ma mq lo ac bu sl)[4]? = some (.ref mq) := rfl
theorem oK_5 {po ho ch ma mq : Nat} {lo ac bu sl : Int32} : (oK po ho ch ma mq lo ac bu sl)[5]? = some (.int lo) := rfl
theorem oK_6 {po ho ch ma mq : Nat} {lo ac bu sl : Int32} : (oK po ho ch ma mq lo ac bu sl)[6]? = some (.int ac) := rfl
theorem oK_7 {po ho ch ma mq : Nat} {lo ac bu sl : Int32} : (oK po ho ch ma mq lo ac bu sl)[7]? = some (.int bu) := rfl
theorem oK_8 {po ho ch ma mq : Nat} {lo ac bu sl : Int32} : (oK po ho ch ma mq lo ac bu sl)[8]? = some (.int sl) := rfl
/-- a row of what may be -/
def mR (w : am_Wd) (a : Nat) (may : Nat → Bool) : Prop := ∃ f, cI w a 2 144 f ∧ ∀ p, p < 144 → f p = b2i (may p)
theorem mR.of {w w' : am_Wd} {a : Nat} {may : Nat → Bool} (h : mR w a may) (e : w'.1 a = w.1 a) : mR w' a may := ⟨h.choose, cI_of h.choose_spec.1 e, h.choose_spec.2⟩
theorem mR.at {w : am_Wd} {a : Nat} {may : Nat → Bool} (h : mR w a may) {p : Nat} (hp : p < 144) : am_ri 2 w a (nI p) = some (b2i (may p)) := by
  obtain ⟨f, h1, h2⟩ := h
  have r := ric h1 (i := p) rfl hp (by decide)
  rw [h2 p hp] at r
  exact r
theorem mR.len {w : am_Wd} {a : Nat} {may : Nat → Bool} (h : mR w a may) : am_len w a = some 144 := lenI h.choose_spec.1 (by decide)
/-- the reference's walker -/
def Mkv (w : am_Wd) (g : Nat → Nat) (i a : Nat) (x : sW) : Prop := match x with
  | (ho, po, ch, lo, ac, bu, sl, may, mp) => ∃ (ma mq : Nat), cO w a 10 (oK po ho ch ma mq lo ac bu sl) ∧ mR w ma may ∧ Rws w g mq (400 + 100 * i) mp ∧ g a = 110 + 10 * i ∧ g ma = 111 + 10 * i ∧ g mq = 112 + 10 * i
theorem Mkv.of {w w' : am_Wd} {g : Nat → Nat} {i a : Nat} {x : sW} (h : Mkv w g i a x) (e : ∀ b, 110 + 10 * i ≤ g b → g b < 113 + 10 * i → w'.1 b = w.1 b) (e2 : ∀ b, 400 + 100 * i ≤ g b → g b < 436 + 100 * i → w'.1 b = w.1 b) : Mkv w' g i a x := by
  obtain ⟨ho, po, ch, lo, ac, bu, sl, may, mp⟩ := x
  obtain ⟨ma, mq, h1, h2, h3, g1, g2, g3⟩ := h
  exact ⟨ma, mq, cO_of h1 (e a (by omega) (by omega)), h2.of (e ma (by omega) (by omega)), h3.of (e mq (by omega) (by omega)) (fun b k1 k2 => e2 b (by omega) (by omega)), g1, g2, g3⟩
theorem Mkv.g {w : am_Wd} {g g' : Nat → Nat} {i a : Nat} {x : sW} (h : Mkv w g i a x) (hg : ∀ b, g b ≠ 0 → g' b = g b) : Mkv w g' i a x := by
  obtain ⟨ho, po, ch, lo, ac, bu, sl, may, mp⟩ := x
  obtain ⟨ma, mq, h1, h2, h3, g1, g2, g3⟩ := h
  exact ⟨ma, mq, h1, h2, h3.g (by omega) hg, (hg _ (by omega)).trans g1, (hg _ (by omega)).trans g2, (hg _ (by omega)).trans g3⟩
def oM (th mi nd : Nat) (dr me di re : Int32) (kq hq ca ba wl : Nat) : List Value := [.int (nI th), .int (nI mi), .int (nI nd), .int dr, .int me, .int di, .int re, .ref kq, .ref hq, .ref ca, .ref ba, .ref wl]
theorem oM_0 {th mi nd : Nat} {dr me di re : Int32} {kq hq ca ba wl : Nat} : (oM th mi nd dr me di re kq hq ca ba wl)[0]? = some (.int (nI th)) := rfl
theorem oM_1 {th mi nd : Nat} {dr me di re : Int32} {kq hq ca ba wl : Nat} : (oM th mi nd dr me di re kq hq ca ba wl)[1]? = some (.int (nI mi)) := rfl
theorem oM_2 {th mi nd : Nat} {dr me di re : Int32} {kq hq ca ba wl : Nat} : (oM th mi nd dr me di re kq hq ca ba wl)[2]? = some (.int (nI nd)) := rfl
theorem oM_3 {th mi nd : Nat} {dr me di re : Int32} {kq hq ca ba wl : Nat} : (oM th mi nd dr me di re kq hq ca ba wl)[3]? = some (.int dr) := rfl
theorem oM_4 {th mi nd : Nat} {dr me di re : Int32} {kq hq ca ba wl : Nat} : (oM th mi nd dr me di re kq hq ca ba wl)[4]? = some (.int me) := rfl
theorem oM_5 {th mi nd : Nat} {dr me di re : Int32} {kq hq ca ba wl : Nat} : (oM th mi nd dr me di re kq hq ca ba wl)[5]? = some (.int di) := rfl
theorem oM_6 {th mi nd : Nat} {dr me di re : Int32} {kq hq ca ba wl : Nat} : (oM th mi nd dr me di re kq hq ca ba wl)[6]? = some (.int re) := rfl
theorem oM_7 {th mi nd : Nat} {dr me di re : Int32} {kq hq ca ba wl : Nat} : (oM th mi nd dr me di re kq hq ca ba wl)[7]? = some (.ref kq) := rfl
theorem oM_8 {th mi nd : Nat} {dr me di re : Int32} {kq hq ca ba wl : Nat} : (oM th mi nd dr me di re kq hq ca ba wl)[8]? = some (.ref hq) := rfl
theorem oM_9 {th mi nd : Nat} {dr me di re : Int32} {kq hq ca ba wl : Nat} : (oM th mi nd dr me di re kq hq ca ba wl)[9]? = some (.ref ca) := rfl
theorem oM_10 {th mi nd : Nat} {dr me di re : Int32} {kq hq ca ba wl : Nat} : (oM th mi nd dr me di re kq hq ca ba wl)[10]? = some (.ref ba) := rfl
theorem oM_11 {th mi nd : Nat} {dr me di re : Int32} {kq hq ca ba wl : Nat} : (oM th mi nd dr me di re kq hq ca ba wl)[11]? = some (.ref wl) := rfl
/-- the list of walkers: n of them, in a row of ten; none: the empty row that stood there before -/
def Lst (w : am_Wd) (g : Nat → Nat) (wl ed n : Nat) (wad : Nat → Nat) : Prop := cO w wl 3 [.int (nI n), .ref ed, .int (nI n)] ∧ ((n = 0 ∧ w.2.2.2 1 = some ed ∧ cQ w ed 13 0 (fun _ => none) ∧ g ed = 721) ∨ (cQ w ed 5 10 (wks n wad) ∧ g ed = 106))
/-- the reference's cells -/
def RMx (w : am_Wd) (g : Nat → Nat) (m kq hq ca ba wl ed : Nat) (wad : Nat → Nat) (kd hr : Nat → Nat) (cp br : Nat → Bool) (n : Nat) (ws : Nat → sW) (th mi nd : Nat) (dr me di re : Int32) : Prop :=
  cO w m 11 (oM th mi nd dr me di re kq hq ca ba wl) ∧ Rws w g kq 200 kd ∧ Rws w g hq 300 hr ∧ cI w ca 2 36 (fun c => b2i (cp c)) ∧ cI w ba 2 36 (fun c => b2i (br c)) ∧ Lst w g wl ed n wad ∧ (∀ i, i < n → Mkv w g i (wad i) (ws i)) ∧ g m = 100 ∧ g kq = 101 ∧ g hq = 102 ∧ g ca = 103 ∧ g ba = 104 ∧ g wl = 105
section MOD
variable {w w' : am_Wd} {g : Nat → Nat} {m kq hq ca ba wl ed : Nat} {wad : Nat → Nat} {kd hr : Nat → Nat} {cp br : Nat → Bool} {n : Nat} {ws : Nat → sW} {th mi nd : Nat} {dr me di re : Int32}
theorem Lst.of {w w' : am_Wd} (h : Lst w g wl ed n wad) (e : w'.1 wl = w.1 wl) (e2 : w'.1 ed = w.1 ed) (e3 : w'.2.2.2 = w.2.2.2) : Lst w' g wl ed n wad := by
  refine ⟨cO_of h.1 e, ?_⟩
  rcases h.2 with ⟨a1, a2, a3, a4⟩ | ⟨a1, a2⟩
  · exact Or.inl ⟨a1, by rw [e3]; exact a2, cQ_of a3 e2, a4⟩
  · exact Or.inr ⟨cQ_of a1 e2, a2⟩
/-- what is not of the reference's tags may change -/
theorem rm_fr (R : RMx w g m kq hq ca ba wl ed wad kd hr cp br n ws th mi nd dr me di re) (hn : n ≤ 3) (h : ∀ b, 100 ≤ g b → g b < 800 → w'.1 b = w.1 b) (h2 : w'.2.2.2 = w.2.2.2) : RMx w' g m kq hq ca ba wl ed wad kd hr cp br n ws th mi nd dr me di re := by
  obtain ⟨h1, k1, k2, k3, k4, k5, k6, g1, g2, g3, g4, g5, g6⟩ := R
  have he : w'.1 ed = w.1 ed := by
    rcases k5.2 with ⟨-, -, -, e⟩ | ⟨-, e⟩
    · exact h ed (by omega) (by omega)
    · exact h ed (by omega) (by omega)
  exact ⟨cO_of h1 (h m (by omega) (by omega)), k1.of (h kq (by omega) (by omega)) (fun b z1 z2 => h b (by omega) (by omega)), k2.of (h hq (by omega) (by omega)) (fun b z1 z2 => h b (by omega) (by omega)), cI_of k3 (h ca (by omega) (by omega)), cI_of k4 (h ba (by omega) (by omega)), k5.of (h wl (by omega) (by omega)) he h2, fun i hi => (k6 i hi).of (fun b z1 z2 => h b (by omega) (by omega)) (fun b z1 z2 => h b (by omega) (by omega)), g1, g2, g3, g4, g5, g6⟩
theorem rm_ext (R : RMx w g m kq hq ca ba wl ed wad kd hr cp br n ws th mi nd dr me di re) (hn : n ≤ 3) (hJ : gJ w g) {k s : Nat} (h : ext w w' k s) : RMx w' g m kq hq ca ba wl ed wad kd hr cp br n ws th mi nd dr me di re :=
  rm_fr R hn (fun b h1 _ => h.1 b (by
    rcases Nat.lt_or_ge b w.2.1 with q | q
    · exact q
    · exact absurd (hJ b q) (by omega))) h.2.2.2.2.2
theorem gJ_ext (hJ : gJ w g) {k s : Nat} (h : ext w w' k s) : gJ w' g := fun b hb => hJ b (Nat.le_trans h.2.1 hb)
theorem lt_J (hJ : gJ w g) {b k : Nat} (h : g b = k) (hk : k ≠ 0) : b < w.2.1 := by
  rcases Nat.lt_or_ge b w.2.1 with q | q
  · exact q
  · exact absurd (hJ b q) (by omega)
theorem Mkv.ext (hJ : gJ w g) {i a : Nat} {y : sW} (h : Mkv w g i a y) {k s : Nat} (e : ext w w' k s) : Mkv w' g i a y := h.of (fun b z1 z2 => e.1 b (lt_J hJ rfl (by omega))) (fun b z1 z2 => e.1 b (lt_J hJ rfl (by omega)))
/-- the object's own fields -/
theorem rm_m {th' mi' nd' : Nat} {dr' me' di' re' : Int32} (R : RMx w g m kq hq ca ba wl ed wad kd hr cp br n ws th mi nd dr me di re) (hn : n ≤ 3) : RMx (am_pt w m (.inr (11, oM th' mi' nd' dr' me' di' re' kq hq ca ba wl))) g m kq hq ca ba wl ed wad kd hr cp br n ws th' mi' nd' dr' me' di' re' ∧ frm g 100 101 w (am_pt w m (.inr (11, oM th' mi' nd' dr' me' di' re' kq hq ca ba wl))) := by
  obtain ⟨h1, k1, k2, k3, k4, k5, k6, g1, g2, g3, g4, g5, g6⟩ := R
  have f : frm g 100 101 w (am_pt w m (.inr (11, oM th' mi' nd' dr' me' di' re' kq hq ca ba wl))) := frm_pt (by omega) (by omega)
  have he : (am_pt w m (.inr (11, oM th' mi' nd' dr' me' di' re' kq hq ca ba wl))).1 ed = w.1 ed := by
    rcases k5.2 with ⟨-, -, -, e⟩ | ⟨-, e⟩ <;> exact f.1 ed (by omega)
  exact ⟨⟨pt_s, k1.of (f.1 kq (by omega)) (fun b z1 z2 => f.1 b (by omega)), k2.of (f.1 hq (by omega)) (fun b z1 z2 => f.1 b (by omega)), cI_of k3 (f.1 ca (by omega)), cI_of k4 (f.1 ba (by omega)), k5.of (f.1 wl (by omega)) he rfl, fun i hi => (k6 i hi).of (fun b z1 z2 => f.1 b (by omega)) (fun b z1 z2 => f.1 b (by omega)), g1, g2, g3, g4, g5, g6⟩, f⟩
/-- a walker changed -/
theorem rm_wk (R : RMx w g m kq hq ca ba wl ed wad kd hr cp br n ws th mi nd dr me di re) (hn : n ≤ 3) {i : Nat} {y : sW} (hi : i < n) (h : Mkv w' g i (wad i) y) (f : ∀ b, (g b < 110 + 10 * i ∨ 113 + 10 * i ≤ g b) → (g b < 400 + 100 * i ∨ 436 + 100 * i ≤ g b) → w'.1 b = w.1 b) (f2 : w'.2.2.2 = w.2.2.2) : RMx w' g m kq hq ca ba wl ed wad kd hr cp br n (up ws i y) th mi nd dr me di re := by
  obtain ⟨h1, k1, k2, k3, k4, k5, k6, g1, g2, g3, g4, g5, g6⟩ := R
  have he : w'.1 ed = w.1 ed := by
    rcases k5.2 with ⟨-, -, -, e⟩ | ⟨-, e⟩ <;> exact f ed (by omega) (by omega)
  refine ⟨cO_of h1 (f m (by omega) (by omega)), k1.of (f kq (by omega) (by omega)) (fun b z1 z2 => f b (by omega) (by omega)), k2.of (f hq (by omega) (by omega)) (fun b z1 z2 => f b (by omega) (by omega)), cI_of k3 (f ca (by omega) (by omega)), cI_of k4 (f ba (by omega) (by omega)), k5.of (f wl (by omega) (by omega)) he f2, fun j hj => ?_, g1, g2, g3, g4, g5, g6⟩
  by_cases e : j = i
  · subst e; rw [up_s]; exact h
  · rw [up_n e]
    exact (k6 j hj).of (fun b z1 z2 => f b (by omega) (by omega)) (fun b z1 z2 => f b (by omega) (by omega))
theorem rm_kf (R : RMx w g m kq hq ca ba wl ed wad kd hr cp br n ws th mi nd dr me di re) : am_kf w m 11 = some () := kfc R.1
theorem mk_kf {i a : Nat} {y : sW} (h : Mkv w g i a y) : am_kf w a 10 = some () := by
  obtain ⟨ho, po, ch, lo, ac, bu, sl, may, mp⟩ := y
  obtain ⟨ma, mq, h1, -⟩ := h
  exact kfc h1
/-! lists -/
theorem x56 (h : Lst w g wl ed n wad) : am_x 56 [.ref wl] w = some (.inl (some (.int (nI n))), w) := by
  simp only [bk56_0, bk56_4, bx56, gfc h.1, Option.bind_some, bct_v, bct_t, otl_s, otl_n, List.cons_append, List.nil_append, List.getElem?_cons_zero, List.getElem?_cons_succ, ↓reduceIte]
theorem x58 {a b : Nat} (ha : a < b) (hb : b < 2147483648) : am_x 58 [.int (nI a), .int (nI b), .null] w = some (.inl (some (.int (nI a))), w) := by
  have e1 : (nI a < nI 0) = False := by rw [nI_ltS (by omega) (by decide)]; exact eq_false (by omega)
  have e2 : (nI a < nI b) = True := by rw [nI_ltS (by omega) (by omega)]; exact eq_true ha
  simp only [bx58n, bk58_0a, e1, bk58_4a, e2, bk58_16, ↓reduceIte]
theorem x150 (h : Lst w g wl ed n wad) (hn : n ≤ 3) {i : Nat} (hi : i < n) : am_x 150 [.ref wl, .int (nI i)] w = some (.inl (some (.ref (wad i))), w) := by
  obtain ⟨h1, h2⟩ := h
  have hq : cQ w ed 5 10 (wks n wad) := by
    rcases h2 with ⟨h2, -⟩ | ⟨h2, -⟩
    · omega
    · exact h2
  have r0 := rqc hq (i := i) (Or.inr (Or.inl rfl)) (by omega) (by decide)
  rw [show wks n wad i = some (wad i) from if_pos hi] at r0
  have r0' : am_rq w ed (nI i) = some (.ref (wad i)) := r0
  simp only [bk150_0, bk150_5, bk150_8, bk150_14, bx150, bk107_0, bk107_6, bx107, bk54_0, bk54_4, bk54_6, bx54, gfc h1, kfc h1, x58 hi (by omega), r0', Option.bind_some, bct_v, bct_t, otl_s, otl_n, List.cons_append, List.nil_append, List.getElem?_cons_zero, List.getElem?_cons_succ, ↓reduceIte]
/-! small methods -/
theorem x38 {a : Nat} {po ho ch ma mq : Nat} {lo ac bu sl : Int32} (h : cO w a 10 (oK po ho ch ma mq lo ac bu sl)) (hp : po < 144) : am_x 38 [.ref a] w = some (.inl (some (.int (nI (po / 4)))), w) := by
  simp only [bk38_0, bk38_4, bx38, gfc h, oK_0, nI_divS (show po < 2147483648 by omega) (show 0 < 4 by decide) (show 4 < 2147483648 by decide), Option.bind_some, bct_v, bct_t, otl_s, otl_n, List.cons_append, List.nil_append, List.getElem?_cons_zero, List.getElem?_cons_succ, ↓reduceIte]
theorem x39 {a b j : Nat} (hb : b < 2147483648) (h1 : a ≤ j) (h2 : j ≤ b) : am_x 39 [.int (nI j), .int (nI a), .int (nI b)] w = some (.inl (some (.int (nI 1))), w) := by
  simp only [bk39_0, bk39_14, bk39_5, bk39_10, bx39, nI_ltS (show j < 2147483648 by omega) (show a < 2147483648 by omega), nI_ltS (show b < 2147483648 by omega) (show j < 2147483648 by omega), show ¬ j < a from by omega, show ¬ b < j from by omega, ↓reduceIte]
  exact bk39_15 (by rfl)
theorem x39n {a b : Nat} {z : Int32} (h : z < nI a ∨ nI b < z) : am_x 39 [.int z, .int (nI a), .int (nI b)] w = some (.inl (some (.int (nI 0))), w) := by
  by_cases q : z < nI a
  · simp only [bk39_0, bk39_14, bk39_5, bk39_10, bx39, q, ↓reduceIte]
    exact bk39_15 (by rfl)
  · simp only [bk39_0, bk39_14, bk39_5, bk39_10, bx39, q, h.resolve_left q, ↓reduceIte]
    exact bk39_15 (by rfl)
theorem x97 {c : Nat} (hc : c ≤ 35) : am_x 97 [.int (nI c)] w = some (.inl (some (.int (nI 0))), w) := by
  simp only [bk97_0, bk97_7, bk97_14, bk97_10, bk97_15, bx97, x39 (show 35 < 2147483648 by decide) (Nat.zero_le c) hc, nI_eqS (show 1 < 2147483648 by decide) (show 0 < 2147483648 by decide), Option.bind_some, bct_v, bct_t, otl_s, otl_n, List.cons_append, List.nil_append, List.getElem?_cons_zero, List.getElem?_cons_succ, ↓reduceIte, nI_add, nI_leS, nI_ltS, nI_eqS, nI_m1S, Nat.reduceAdd, Nat.reduceLT, Nat.reduceLeDiff, Nat.reduceMul, Nat.reduceEqDiff, not_true_eq_false, not_false_eq_true]
  try exact bk97_15 (by rfl)
theorem x97n {z : Int32} (h : z < nI 0 ∨ nI 35 < z) : am_x 97 [.int z] w = some (.inl (some (.int (nI 1))), w) := by
  simp only [bk97_0, bk97_7, bk97_14, bk97_10, bk97_15, bx97, x39n h, Option.bind_some, bct_v, bct_t, otl_s, otl_n, List.cons_append, List.nil_append, List.getElem?_cons_zero, List.getElem?_cons_succ, ↓reduceIte, nI_add, nI_leS, nI_ltS, nI_eqS, nI_m1S, Nat.reduceAdd, Nat.reduceLT, Nat.reduceLeDiff, Nat.reduceMul, Nat.reduceEqDiff, not_true_eq_false, not_false_eq_true]
  try exact bk97_15 (by rfl)
end MOD
end
section
/-! THE REFERENCE: edges, walkers' sums. Mine. -/
theorem cnt_ff : ∀ n, cnt n (fun _ => false) = 0
  | 0 => rfl
  | n + 1 => by
    show cnt n (fun _ => false) + (if false = true then 1 else 0) = 0
    rw [cnt_ff n]
    rfl
theorem nar_b (b : Bool) : vp_nar .boolean (b2i b) = b2i b := by cases b <;> rfl
theorem nar_1 : vp_nar .boolean (nI 1) = b2i true := rfl
theorem nar_0 : vp_nar .boolean (nI 0) = b2i false := rfl
def E100 (r c : Int32) : Int32 := if ¬ r < nI 0 ∧ ¬ nI 5 < r then (if ¬ c < nI 0 ∧ ¬ nI 5 < c then nI 6 * r + c else -1) else -1
def G100 (c s : Nat) : Int32 := E100 (nI c / nI 6 + (if s = 0 then -1 else if s = 2 then nI 1 else nI 0)) (bj_irem (nI c) (nI 6) + (if s = 1 then nI 1 else if s = 3 then -1 else nI 0))
theorem G100_ok : all36 (fun c s => decide (G100 c s = no (nb c s))) = true := by decide +kernel
section MO2
variable {w w' : am_Wd} {g : Nat → Nat} {m kq hq ca ba wl ed : Nat} {wad : Nat → Nat} {kd hr : Nat → Nat} {cp br : Nat → Bool} {n : Nat} {ws : Nat → sW} {th mi nd : Nat} {dr me di re : Int32}
variable {i a ho po ch : Nat} {lo ac bu sl : Int32} {may : Nat → Bool} {mp : Nat → Nat}
theorem x39g {z a b : Int32} : am_x 39 [.int z, .int a, .int b] w = some (.inl (some (.int (b2i (decide (¬ z < a ∧ ¬ b < z))))), w) := by
  by_cases h1 : z < a
  · rw [show decide (¬ z < a ∧ ¬ b < z) = false from decide_eq_false (fun q => q.1 h1)]
    simp only [bk39_0, bk39_14, bk39_5, bk39_10, bx39, h1, ↓reduceIte]
    exact bk39_15 (by rfl)
  · by_cases h2 : b < z
    · rw [show decide (¬ z < a ∧ ¬ b < z) = false from decide_eq_false (fun q => q.2 h2)]
      simp only [bk39_0, bk39_14, bk39_5, bk39_10, bx39, h1, h2, ↓reduceIte]
      exact bk39_15 (by rfl)
    · rw [show decide (¬ z < a ∧ ¬ b < z) = true from decide_eq_true ⟨h1, h2⟩]
      simp only [bk39_0, bk39_14, bk39_5, bk39_10, bx39, h1, h2, ↓reduceIte]
      exact bk39_15 (by rfl)
theorem x98 {c : Nat} (hc : c ≤ 3) : am_x 98 [.int (nI c)] w = some (.inl (some (.int (nI 0))), w) := by
  simp only [bk98_0, bk98_6, bk98_13, bk98_9, bk98_14, bx98, x39 (show 3 < 2147483648 by decide) (Nat.zero_le c) hc, nI_eqS (show 1 < 2147483648 by decide) (show 0 < 2147483648 by decide), Option.bind_some, bct_v, bct_t, otl_s, otl_n, List.cons_append, List.nil_append, List.getElem?_cons_zero, List.getElem?_cons_succ, ↓reduceIte, nI_add, nI_leS, nI_ltS, nI_eqS, nI_m1S, Nat.reduceAdd, Nat.reduceLT, Nat.reduceLeDiff, Nat.reduceMul, Nat.reduceEqDiff, not_true_eq_false, not_false_eq_true]
  try exact bk98_14 (by rfl)
theorem x98n {z : Int32} (h : z < nI 0 ∨ nI 3 < z) : am_x 98 [.int z] w = some (.inl (some (.int (nI 1))), w) := by
  simp only [bk98_0, bk98_6, bk98_13, bk98_9, bk98_14, bx98, x39n h, Option.bind_some, bct_v, bct_t, otl_s, otl_n, List.cons_append, List.nil_append, List.getElem?_cons_zero, List.getElem?_cons_succ, ↓reduceIte, nI_add, nI_leS, nI_ltS, nI_eqS, nI_m1S, Nat.reduceAdd, Nat.reduceLT, Nat.reduceLeDiff, Nat.reduceMul, Nat.reduceEqDiff, not_true_eq_false, not_false_eq_true]
  try exact bk98_14 (by rfl)
theorem e100 {r s0 s1 : Int32} : am_run 100 47 [none, none, some (.int r), none] [.int s0, .int s1] w = some (.inl (some (.int (E100 r (s1 + s0)))), w) := by
  unfold E100
  by_cases h1 : ¬ r < nI 0 ∧ ¬ nI 5 < r
  · by_cases h2 : ¬ s1 + s0 < nI 0 ∧ ¬ nI 5 < s1 + s0
    · rw [if_pos h1, if_pos h2]
      simp only [bk100_47, x39g, decide_eq_true h1, bk100_55, b2i_0, reduceCtorEq, bk100_58, decide_eq_true h2, bk100_64, bk100_67, bk100_77, Option.bind_some, bct_v, bct_t, otl_s, otl_n, List.cons_append, List.nil_append, List.getElem?_cons_zero, List.getElem?_cons_succ, ↓reduceIte]
    · rw [if_pos h1, if_neg h2]
      simp only [bk100_47, x39g, decide_eq_true h1, bk100_55, b2i_0, reduceCtorEq, bk100_58, decide_eq_false h2, bk100_64, bk100_76, bk100_77, Option.bind_some, bct_v, bct_t, otl_s, otl_n, List.cons_append, List.nil_append, List.getElem?_cons_zero, List.getElem?_cons_succ, ↓reduceIte]
  · rw [if_neg h1]
    simp only [bk100_47, x39g, decide_eq_false h1, bk100_55, b2i_0, bk100_76, bk100_77, Option.bind_some, bct_v, bct_t, otl_s, otl_n, List.cons_append, List.nil_append, List.getElem?_cons_zero, List.getElem?_cons_succ, ↓reduceIte]
theorem x100 {c s : Nat} (hc : c < 36) (hs : s < 4) : am_x 100 [.int (nI c), .int (nI s)] w = some (.inl (some (.int (no (nb c s)))), w) := by
  have k := of_decide_eq_true (all36_at G100_ok hc hs)
  rw [← k]
  rcases (show s = 0 ∨ s = 1 ∨ s = 2 ∨ s = 3 by omega) with rfl | rfl | rfl | rfl <;>
    (simp only [bx100, bk100_0, bk100_12, bk100_8, bk100_21, bk100_17, bk100_22, bk100_37, bk100_33, bk100_46, bk100_42, e100, nI_add, nI_leS, nI_ltS, nI_eqS, nI_m1S, Nat.reduceAdd, Nat.reduceLT, Nat.reduceLeDiff, Nat.reduceMul, Nat.reduceEqDiff, not_true_eq_false, not_false_eq_true, ↓reduceIte]; rfl)
theorem x142 {c s d : Nat} (hc : c < 36) (hs : s < 4) (h : nb c s = some d) : am_x 142 [.int (nI c), .int (nI s)] w = some (.inl (some (.int (nI (if s = 0 ∨ s = 3 then d else c)))), w) := by
  have k : am_x 100 [.int (nI c), .int (nI s)] w = some (.inl (some (.int (nI d))), w) := by rw [x100 hc hs, h]; rfl
  rcases (show s = 0 ∨ s = 1 ∨ s = 2 ∨ s = 3 by omega) with rfl | rfl | rfl | rfl <;>
    (simp only [bk142_0, bk142_9, bk142_4, bk142_14, bk142_17, bk142_18, bx142, k, Option.bind_some, bct_v, bct_t, otl_s, otl_n, List.cons_append, List.nil_append, List.getElem?_cons_zero, List.getElem?_cons_succ, ↓reduceIte, nI_add, nI_leS, nI_ltS, nI_eqS, nI_m1S, Nat.reduceAdd, Nat.reduceLT, Nat.reduceLeDiff, Nat.reduceMul, Nat.reduceEqDiff, not_true_eq_false, not_false_eq_true]; rfl)
theorem x41 {s : Nat} (hs : s < 4) : am_x 41 [.int (nI s)] w = some (.inl (some (.int (nI (if s = 1 ∨ s = 3 then 0 else 1)))), w) := by
  rcases (show s = 0 ∨ s = 1 ∨ s = 2 ∨ s = 3 by omega) with rfl | rfl | rfl | rfl <;>
    (simp only [bk41_0, bk41_11, bk41_7, bk41_12, bx41, nI_remS (show 0 < 2147483648 by decide) (show 0 < 2 by decide) (show 2 < 2147483648 by decide), nI_remS (show 1 < 2147483648 by decide) (show 0 < 2 by decide) (show 2 < 2147483648 by decide), nI_remS (show 2 < 2147483648 by decide) (show 0 < 2 by decide) (show 2 < 2147483648 by decide), nI_remS (show 3 < 2147483648 by decide) (show 0 < 2 by decide) (show 2 < 2147483648 by decide), Nat.reduceMod, Option.bind_some, bct_v, bct_t, otl_s, otl_n, List.cons_append, List.nil_append, List.getElem?_cons_zero, List.getElem?_cons_succ, ↓reduceIte, nI_add, nI_leS, nI_ltS, nI_eqS, nI_m1S, Nat.reduceAdd, Nat.reduceLT, Nat.reduceLeDiff, Nat.reduceMul, Nat.reduceEqDiff, not_true_eq_false, not_false_eq_true]; rfl)
theorem plc_at {c s d : Nat} (h : nb c s = some d) : plc c s = 2 * (if s = 0 ∨ s = 3 then d else c) + (if s = 1 ∨ s = 3 then 0 else 1) := by
  unfold plc
  rw [h]
theorem way_lt {s : Nat} : (if s = 1 ∨ s = 3 then 0 else 1) < 2 := by split <;> decide
theorem kp_lt {c s d : Nat} (hc : c < 36) (hs : s < 4) (h : nb c s = some d) : (if s = 0 ∨ s = 3 then d else c) < 36 := by
  split
  · exact nb_lt hc hs h
  · exact hc
theorem x143 {c j : Nat} (hc : c < 36) (hj : j < 2) : am_x 143 [.int (nI c), .int (nI j)] w = some (.inl (some (.int (b2i (nb c (j + 1)).isSome))), w) := by
  have k := x100 (w := w) (c := c) (s := j + 1) hc (by omega)
  rcases (show j = 0 ∨ j = 1 by omega) with rfl | rfl
  · cases e : nb c 1 with
    | none =>
      rw [show nb c (0 + 1) = none from e] at k
      have k' : am_x 100 [.int (nI c), .int (nI 1)] w = some (.inl (some (.int (-1))), w) := k
      simp only [bk143_0, bk143_9, bk143_5, bk143_10, bk143_13, bk143_21, bk143_17, bx143, k', Option.bind_some, bct_v, bct_t, otl_s, otl_n, List.cons_append, List.nil_append, List.getElem?_cons_zero, List.getElem?_cons_succ, ↓reduceIte, nI_add, nI_leS, nI_ltS, nI_eqS, nI_m1S, Nat.reduceAdd, Nat.reduceLT, Nat.reduceLeDiff, Nat.reduceMul, Nat.reduceEqDiff, not_true_eq_false, not_false_eq_true]
      exact (bk143_22 (by rfl)).trans rfl
    | some d =>
      have hd := nb_lt hc (by decide) e
      rw [show nb c (0 + 1) = some d from e] at k
      have k' : am_x 100 [.int (nI c), .int (nI 1)] w = some (.inl (some (.int (nI d))), w) := k
      simp only [bk143_0, bk143_9, bk143_5, bk143_10, bk143_13, bk143_21, bk143_17, bx143, k', nI_m1S (show d < 2147483648 by omega), Option.bind_some, bct_v, bct_t, otl_s, otl_n, List.cons_append, List.nil_append, List.getElem?_cons_zero, List.getElem?_cons_succ, ↓reduceIte, nI_add, nI_leS, nI_ltS, nI_eqS, nI_m1S, Nat.reduceAdd, Nat.reduceLT, Nat.reduceLeDiff, Nat.reduceMul, Nat.reduceEqDiff, not_true_eq_false, not_false_eq_true]
      exact (bk143_22 (by rfl)).trans rfl
  · cases e : nb c 2 with
    | none =>
      rw [show nb c (1 + 1) = none from e] at k
      have k' : am_x 100 [.int (nI c), .int (nI 2)] w = some (.inl (some (.int (-1))), w) := k
      simp only [bk143_0, bk143_9, bk143_5, bk143_10, bk143_13, bk143_21, bk143_17, bx143, k', nI_eqS (show 1 < 2147483648 by decide) (show 0 < 2147483648 by decide), Option.bind_some, bct_v, bct_t, otl_s, otl_n, List.cons_append, List.nil_append, List.getElem?_cons_zero, List.getElem?_cons_succ, ↓reduceIte, nI_add, nI_leS, nI_ltS, nI_eqS, nI_m1S, Nat.reduceAdd, Nat.reduceLT, Nat.reduceLeDiff, Nat.reduceMul, Nat.reduceEqDiff, not_true_eq_false, not_false_eq_true]
      exact (bk143_22 (by rfl)).trans rfl
    | some d =>
      have hd := nb_lt hc (by decide) e
      rw [show nb c (1 + 1) = some d from e] at k
      have k' : am_x 100 [.int (nI c), .int (nI 2)] w = some (.inl (some (.int (nI d))), w) := k
      simp only [bk143_0, bk143_9, bk143_5, bk143_10, bk143_13, bk143_21, bk143_17, bx143, k', nI_m1S (show d < 2147483648 by omega), nI_eqS (show 1 < 2147483648 by decide) (show 0 < 2147483648 by decide), Option.bind_some, bct_v, bct_t, otl_s, otl_n, List.cons_append, List.nil_append, List.getElem?_cons_zero, List.getElem?_cons_succ, ↓reduceIte, nI_add, nI_leS, nI_ltS, nI_eqS, nI_m1S, Nat.reduceAdd, Nat.reduceLT, Nat.reduceLeDiff, Nat.reduceMul, Nat.reduceEqDiff, not_true_eq_false, not_false_eq_true]
      exact (bk143_22 (by rfl)).trans rfl
theorem shr_ok : ∀ k, k < 24 → ((nI k &&& 31).toBitVec.smod 32).toNat = k := by decide +kernel
theorem opn_s {n h : Nat} (hn : n < 16777216) (hh : h < 24) : ((bj_ishr (nI n) (nI h) &&& nI 1) = nI 1) = (n.testBit h = true) := by
  have e : bj_ishr (nI n) (nI h) = nI (n / 2 ^ h) := pk_shrN (by omega) (nI h &&& 31) h (shr_ok h hh)
  have hl : n / 2 ^ h < 2 ^ 32 := Nat.lt_of_le_of_lt (Nat.div_le_self _ _) (by omega)
  have e2 : nI (n / 2 ^ h) &&& nI 1 = nI (n / 2 ^ h % 2) := pk_andN hl (m := nI 1) 1 (by decide)
  have e3 : n.testBit h = decide (n / 2 ^ h % 2 = 1) := Nat.testBit_eq_decide_div_mod_eq
  rw [e, e2, e3, nI_eqS (by omega) (by decide)]
  have h3 : n / 2 ^ h % 2 = 0 ∨ n / 2 ^ h % 2 = 1 := by omega
  rcases h3 with q | q <;> rw [q] <;> decide
theorem x42 (R : RMx w g m kq hq ca ba wl ed wad kd hr cp br n ws th mi nd dr me di re) (hh : hrok hr) (hm : mi ≤ 3000) {c j : Nat} (hc : c < 36) (hj : j < 2) : am_x 42 [.ref m, .int (nI c), .int (nI j)] w = some (.inl (some (.int (b2i ((hr (2 * c + j)).testBit (mi / 60 % 24))))), w) := by
  have e := opn_s (hh (2 * c + j)) (h := mi / 60 % 24) (by omega)
  simp only [bx42, bk42_0, gfc R.1, oM_0, oM_1, oM_2, oM_3, oM_4, oM_5, oM_6, oM_7, oM_8, oM_9, oM_10, oM_11, bk42_4, R.2.2.1.row hc, bk42_6, R.2.2.1.at hc hj, bk42_8, bk42_12, nI_divS (show mi < 2147483648 by omega) (show 0 < 60 by decide) (show 60 < 2147483648 by decide), nI_remS (show mi / 60 < 2147483648 by omega) (show 0 < 24 by decide) (show 24 < 2147483648 by decide), e, Option.bind_some, bct_v, bct_t, otl_s, otl_n, List.cons_append, List.nil_append, List.getElem?_cons_zero, List.getElem?_cons_succ, ↓reduceIte]
  cases (hr (2 * c + j)).testBit (mi / 60 % 24) with
  | true => rw [if_neg (fun q => q rfl), bk42_25, bk42_30 (by rfl)]; rfl
  | false => rw [if_pos (fun q => nomatch q), bk42_29, bk42_30 (by rfl)]; rfl
theorem x101 (R : RMx w g m kq hq ca ba wl ed wad kd hr cp br n ws th mi nd dr me di re) (hk : kdok kd) (hh : hrok hr) (hm : mi ≤ 3000) {c j : Nat} (hc : c < 36) (hj : j < 2) : am_x 101 [.ref m, .int (nI c), .int (nI j)] w = some (.inl (some (.int (b2i (clE (kd (2 * c + j)) (hr (2 * c + j)) (mi / 60 % 24))))), w) := by
  have r0 := R.2.1.row hc
  have r1 := R.2.1.at hc hj
  have z := x42 R hh hm hc hj
  have k := hk (2 * c + j)
  unfold clE
  rcases (show kd (2 * c + j) = 0 ∨ kd (2 * c + j) = 1 ∨ kd (2 * c + j) = 2 by omega) with q | q | q
  · rw [q] at r1 ⊢
    simp only [bk101_0, bk101_4, bk101_6, bk101_8, bk101_33, bk101_12, bk101_16, bk101_18, bk101_20, bk101_37, bk101_24, bk101_30, bx101, gfc R.1, oM_0, oM_1, oM_2, oM_3, oM_4, oM_5, oM_6, oM_7, oM_8, oM_9, oM_10, oM_11, r0, r1, Option.bind_some, bct_v, bct_t, otl_s, otl_n, List.cons_append, List.nil_append, List.getElem?_cons_zero, List.getElem?_cons_succ, ↓reduceIte, nI_add, nI_leS, nI_ltS, nI_eqS, nI_m1S, Nat.reduceAdd, Nat.reduceLT, Nat.reduceLeDiff, Nat.reduceMul, Nat.reduceEqDiff, not_true_eq_false, not_false_eq_true]
    exact bk101_38 (by rfl)
  · rw [q] at r1 ⊢
    simp only [bk101_0, bk101_4, bk101_6, bk101_8, bk101_33, bk101_12, bk101_16, bk101_18, bk101_20, bk101_37, bk101_24, bk101_30, bx101, gfc R.1, oM_0, oM_1, oM_2, oM_3, oM_4, oM_5, oM_6, oM_7, oM_8, oM_9, oM_10, oM_11, r0, r1, Option.bind_some, bct_v, bct_t, otl_s, otl_n, List.cons_append, List.nil_append, List.getElem?_cons_zero, List.getElem?_cons_succ, ↓reduceIte, nI_add, nI_leS, nI_ltS, nI_eqS, nI_m1S, Nat.reduceAdd, Nat.reduceLT, Nat.reduceLeDiff, Nat.reduceMul, Nat.reduceEqDiff, not_true_eq_false, not_false_eq_true]
    exact bk101_38 (by rfl)
  · rw [q] at r1 ⊢
    cases y : (hr (2 * c + j)).testBit (mi / 60 % 24) with
    | true =>
      rw [y] at z
      simp only [bk101_0, bk101_4, bk101_6, bk101_8, bk101_33, bk101_12, bk101_16, bk101_18, bk101_20, bk101_37, bk101_24, bk101_30, bx101, gfc R.1, oM_0, oM_1, oM_2, oM_3, oM_4, oM_5, oM_6, oM_7, oM_8, oM_9, oM_10, oM_11, r0, r1, rm_kf R, z, b2i_0, reduceCtorEq, Option.bind_some, bct_v, bct_t, otl_s, otl_n, List.cons_append, List.nil_append, List.getElem?_cons_zero, List.getElem?_cons_succ, ↓reduceIte, nI_add, nI_leS, nI_ltS, nI_eqS, nI_m1S, Nat.reduceAdd, Nat.reduceLT, Nat.reduceLeDiff, Nat.reduceMul, Nat.reduceEqDiff, not_true_eq_false, not_false_eq_true]
      exact bk101_38 (by rfl)
    | false =>
      rw [y] at z
      simp only [bk101_0, bk101_4, bk101_6, bk101_8, bk101_33, bk101_12, bk101_16, bk101_18, bk101_20, bk101_37, bk101_24, bk101_30, bx101, gfc R.1, oM_0, oM_1, oM_2, oM_3, oM_4, oM_5, oM_6, oM_7, oM_8, oM_9, oM_10, oM_11, r0, r1, rm_kf R, z, b2i_0, Option.bind_some, bct_v, bct_t, otl_s, otl_n, List.cons_append, List.nil_append, List.getElem?_cons_zero, List.getElem?_cons_succ, ↓reduceIte, nI_add, nI_leS, nI_ltS, nI_eqS, nI_m1S, Nat.reduceAdd, Nat.reduceLT, Nat.reduceLeDiff, Nat.reduceMul, Nat.reduceEqDiff, not_true_eq_false, not_false_eq_true]
      exact bk101_38 (by rfl)
theorem x173 (R : RMx w g m kq hq ca ba wl ed wad kd hr cp br n ws th mi nd dr me di re) (hk : kdok kd) (hh : hrok hr) (hm : mi ≤ 3000) {c s : Nat} (hc : c < 36) (hs : s < 4) : am_x 173 [.ref m, .int (nI c), .int (nI s)] w = some (.inl (some (.int (b2i (clsS kd hr (mi / 60 % 24) c s)))), w) := by
  have k := x100 (w := w) hc hs
  unfold clsS
  cases e : nb c s with
  | none =>
    rw [e] at k
    have k' : am_x 100 [.int (nI c), .int (nI s)] w = some (.inl (some (.int (-1))), w) := k
    simp only [bx173, bk173_0, k', bk173_5, bk173_25, Option.bind_some, bct_v, bct_t, otl_s, otl_n, List.cons_append, List.nil_append, List.getElem?_cons_zero, List.getElem?_cons_succ, ↓reduceIte]
    exact bk173_30 (by rfl)
  | some d =>
    have hd := nb_lt hc hs e
    rw [e] at k
    have k' : am_x 100 [.int (nI c), .int (nI s)] w = some (.inl (some (.int (nI d))), w) := k
    have z := x101 R hk hh hm (kp_lt hc hs e) (way_lt (s := s))
    rw [← plc_at e] at z
    simp only [bx173, bk173_0, k', bk173_5, nI_m1S (show d < 2147483648 by omega), bk173_9, x142 hc hs e, bk173_15, x41 hs, bk173_19, rm_kf R, z, bk173_22, b2i_0, Option.bind_some, bct_v, bct_t, otl_s, otl_n, List.cons_append, List.nil_append, List.getElem?_cons_zero, List.getElem?_cons_succ, ↓reduceIte]
    cases clE (kd (plc c s)) (hr (plc c s)) (mi / 60 % 24) with
    | true => rw [if_neg (fun q => nomatch q), bk173_25, bk173_30 (by rfl)]; rfl
    | false => rw [if_pos rfl, bk173_29, bk173_30 (by rfl)]; rfl
theorem x174 (h : Mkv w g i a (ho, po, ch, lo, ac, bu, sl, may, mp)) {c s : Nat} (hc : c < 36) (hs : s < 4) : am_x 174 [.ref a, .int (nI c), .int (nI s)] w = some (.inl (some (.int (nI (kno mp c s)))), w) := by
  obtain ⟨ma, mq, h1, h2, h3, -⟩ := h
  have k := x100 (w := w) hc hs
  unfold kno
  cases e : nb c s with
  | none =>
    rw [e] at k
    have k' : am_x 100 [.int (nI c), .int (nI s)] w = some (.inl (some (.int (-1))), w) := k
    simp only [bk174_0, bk174_5, bk174_13, bk174_9, bk174_17, bk174_28, bk174_22, bk174_23, bk174_27, bx174, k', not_true_eq_false, Option.bind_some, bct_v, bct_t, otl_s, otl_n, List.cons_append, List.nil_append, List.getElem?_cons_zero, List.getElem?_cons_succ, ↓reduceIte]
  | some d =>
    have hd := nb_lt hc hs e
    rw [e] at k
    have k' : am_x 100 [.int (nI c), .int (nI s)] w = some (.inl (some (.int (nI d))), w) := k
    have r0 := h3.row (kp_lt hc hs e)
    have r1 := h3.at (kp_lt hc hs e) (way_lt (s := s))
    rw [← plc_at e] at r1
    simp only [bk174_0, bk174_5, bk174_13, bk174_9, bk174_17, bk174_28, bk174_22, bk174_23, bk174_27, bx174, k', nI_m1S (show d < 2147483648 by omega), not_false_eq_true, gfc h1, oK_0, oK_1, oK_2, oK_3, oK_4, oK_5, oK_6, oK_7, oK_8, x142 hc hs e, r0, x41 hs, r1, Option.bind_some, bct_v, bct_t, otl_s, otl_n, List.cons_append, List.nil_append, List.getElem?_cons_zero, List.getElem?_cons_succ, ↓reduceIte]
theorem x175 (h : Mkv w g i a (ho, po, ch, lo, ac, bu, sl, may, mp)) (hi : i < 3) {c s : Nat} (hc : c < 36) (hs : s < 4) (b : Bool) : ∃ w', am_x 175 [.ref a, .int (nI c), .int (nI s), .int (b2i b)] w = some (.inl none, w') ∧ Mkv w' g i a (ho, po, ch, lo, ac, bu, sl, may, putM mp c s b) ∧ frm g (400 + 100 * i) (436 + 100 * i) w w' := by
  have h0 := h
  obtain ⟨ma, mq, h1, h2, h3, g1, g2, g3⟩ := h
  have k := x100 (w := w) hc hs
  unfold putM
  cases e : nb c s with
  | none =>
    rw [e] at k
    have k' : am_x 100 [.int (nI c), .int (nI s)] w = some (.inl (some (.int (-1))), w) := k
    rw [if_pos rfl]
    refine ⟨w, ?_, h0, frm_rf⟩
    simp only [bx175, bk175_0, k', bk175_5, bk175_33, Option.bind_some, bct_v, bct_t, otl_s, otl_n, List.cons_append, List.nil_append, List.getElem?_cons_zero, List.getElem?_cons_succ, ↓reduceIte]
  | some d =>
    have hd := nb_lt hc hs e
    rw [e] at k
    have k' : am_x 100 [.int (nI c), .int (nI s)] w = some (.inl (some (.int (nI d))), w) := k
    have r0 := h3.row (kp_lt hc hs e)
    obtain ⟨w', p1, p2, p3⟩ := h3.put (by omega) (kp_lt hc hs e) (way_lt (s := s)) (v := if b = true then 2 else 1)
    rw [← plc_at e] at p2
    rw [if_neg (fun q => nomatch q)]
    refine ⟨w', ?_, ⟨ma, mq, cO_of h1 (p3.1 a (by omega)), h2.of (p3.1 ma (by omega)), p2, g1, g2, g3⟩, frm_wk p3 (by omega) (by omega)⟩
    cases b with
    | true =>
      have p1' : am_wi 0 w (mq + 1 + (if s = 0 ∨ s = 3 then d else c)) (nI (if s = 1 ∨ s = 3 then 0 else 1)) (nI 2) = some w' := p1
      simp only [bk175_0, bk175_5, bk175_33, bk175_9, bk175_13, bk175_18, bk175_19, bk175_23, bk175_31, bk175_27, bk175_32, bx175, k', nI_m1S (show d < 2147483648 by omega), gfc h1, oK_0, oK_1, oK_2, oK_3, oK_4, oK_5, oK_6, oK_7, oK_8, x142 hc hs e, r0, x41 hs, b2i_0, reduceCtorEq, p1', Option.bind_some, bct_v, bct_t, otl_s, otl_n, List.cons_append, List.nil_append, List.getElem?_cons_zero, List.getElem?_cons_succ, ↓reduceIte]
    | false =>
      have p1' : am_wi 0 w (mq + 1 + (if s = 0 ∨ s = 3 then d else c)) (nI (if s = 1 ∨ s = 3 then 0 else 1)) (nI 1) = some w' := p1
      simp only [bk175_0, bk175_5, bk175_33, bk175_9, bk175_13, bk175_18, bk175_19, bk175_23, bk175_31, bk175_27, bk175_32, bx175, k', nI_m1S (show d < 2147483648 by omega), gfc h1, oK_0, oK_1, oK_2, oK_3, oK_4, oK_5, oK_6, oK_7, oK_8, x142 hc hs e, r0, x41 hs, b2i_0, p1', Option.bind_some, bct_v, bct_t, otl_s, otl_n, List.cons_append, List.nil_append, List.getElem?_cons_zero, List.getElem?_cons_succ, ↓reduceIte]
/-- sums over rows of yes and no -/
theorem x44 {b n : Nat} {f : Nat → Int32} {p : Nat → Bool} (h : cI w b 2 n f) (hf : ∀ c, c < n → f c = b2i (p c)) (hn : n < 2147483648) : am_x 44 [.ref b] w = some (.inl (some (.int (nI (cnt n p)))), w) := by
  simp only [bx44, bk44_0, lenI h (by decide), bk44_6, Option.bind_some, bct_v, bct_t, otl_s, otl_n, List.cons_append, List.nil_append, List.getElem?_cons_zero, List.getElem?_cons_succ, ↓reduceIte]
  have e := csum (n := n) (p := p) (Q := fun k a => am_run 44 10 [none, some (.int (nI a)), some (.ref b), some (.int (nI n)), some (.int (nI k)), none] [] w) (fun k a hk => by
    try dsimp only
    have r := ric h (i := k) rfl hk hn
    rw [hf k hk] at r
    rw [bk44_10, if_neg (by rw [nI_leS (by omega) (by omega)]; omega)]
    simp only [bk44_16, r, bk44_20, b2i_0, Option.bind_some, bct_v, bct_t, otl_s, otl_n, List.cons_append, List.nil_append, List.getElem?_cons_zero, List.getElem?_cons_succ, ↓reduceIte]
    cases p k with
    | true => rw [if_neg (fun q => nomatch q), bk44_28, bk44_33, nI_add, nI_add]; rfl
    | false => rw [if_pos rfl, bk44_32, bk44_33, nI_add, nI_add]; rfl)
  refine Eq.trans e ?_
  try dsimp only
  rw [bk44_10, if_pos (by rw [nI_leS (by omega) (by omega)]; omega), bk44_41]
theorem x37 (h : Mkv w g i a (ho, po, ch, lo, ac, bu, sl, may, mp)) : am_x 37 [.ref a] w = some (.inl (some (.int (nI (cnt 144 may)))), w) := by
  obtain ⟨ma, mq, h1, h2, h3, -⟩ := h
  simp only [bx37, bk37_0, gfc h1, oK_0, oK_1, oK_2, oK_3, oK_4, oK_5, oK_6, oK_7, oK_8, bk37_6, h2.len, bk37_9, Option.bind_some, bct_v, bct_t, otl_s, otl_n, List.cons_append, List.nil_append, List.getElem?_cons_zero, List.getElem?_cons_succ, ↓reduceIte]
  have e := csum (n := 144) (p := may) (Q := fun k a => am_run 37 13 [none, some (.int (nI a)), some (.ref ma), some (.int (nI 144)), some (.int (nI k)), none] [] w) (fun k a hk => by
    try dsimp only
    have r := h2.at hk
    rw [bk37_13, if_neg (by rw [nI_leS (by omega) (by omega)]; omega)]
    simp only [bk37_19, r, bk37_23, b2i_0, Option.bind_some, bct_v, bct_t, otl_s, otl_n, List.cons_append, List.nil_append, List.getElem?_cons_zero, List.getElem?_cons_succ, ↓reduceIte]
    cases may k with
    | true => rw [if_neg (fun q => nomatch q), bk37_31, bk37_36, nI_add, nI_add]; rfl
    | false => rw [if_pos rfl, bk37_35, bk37_36, nI_add, nI_add]; rfl)
  refine Eq.trans e ?_
  try dsimp only
  rw [bk37_13, if_pos (by rw [nI_leS (by decide) (by decide)]; decide), bk37_44]
theorem x95 (h : Mkv w g i a (ho, po, ch, lo, ac, bu, sl, may, mp)) : am_x 95 [.ref a] w = some (.inl (some (.int (no (sureP may)))), w) := by
  have z := x37 h
  have kf := mk_kf h
  have hl := cnt_le may 144
  obtain ⟨ma, mq, h1, h2, h3, -⟩ := h
  simp only [bx95, bk95_0, kf, z, bk95_4, nI_eqS (show cnt 144 may < 2147483648 by omega) (show 1 < 2147483648 by decide), Option.bind_some, bct_v, bct_t, otl_s, otl_n, List.cons_append, List.nil_append, List.getElem?_cons_zero, List.getElem?_cons_succ, ↓reduceIte]
  unfold sureP
  by_cases h : cnt 144 may = 1
  · rw [if_pos h, if_pos h, bk95_10]
    cases e : fst1 144 may with
    | none =>
      exfalso
      have : cnt 144 may = cnt 144 (fun _ => false) := cnt_cg 144 (fun c hc => fst1_none e c hc)
      rw [this] at h
      have : cnt 144 (fun _ => false) = 0 := cnt_ff 144
      omega
    | some p =>
      obtain ⟨p1, p2, p3⟩ := fst1_some e
      have go : ∀ k, k ≤ p → am_run 95 12 [some (.ref a), some (.int (nI 0))] [] w = am_run 95 12 [some (.ref a), some (.int (nI k))] [] w := by
        intro k
        induction k with
        | zero => exact fun _ => rfl
        | succ k ih =>
          intro hk
          have r := h2.at (p := k) (by omega)
          rw [p3 k (by omega)] at r
          rw [ih (by omega), bk95_12]
          simp only [gfc h1, oK_0, oK_1, oK_2, oK_3, oK_4, oK_5, oK_6, oK_7, oK_8, bk95_16, r, bk95_18, b2i_0, not_true_eq_false, bk95_21, nI_add, Option.bind_some, bct_v, bct_t, otl_s, otl_n, List.cons_append, List.nil_append, List.getElem?_cons_zero, List.getElem?_cons_succ, ↓reduceIte]
      have r := h2.at (p := p) (by omega)
      rw [p2] at r
      rw [go p (Nat.le_refl p), bk95_12]
      simp only [gfc h1, oK_0, oK_1, oK_2, oK_3, oK_4, oK_5, oK_6, oK_7, oK_8, bk95_16, r, bk95_18, b2i_0, reduceCtorEq, not_false_eq_true, bk95_27, Option.bind_some, bct_v, bct_t, otl_s, otl_n, List.cons_append, List.nil_append, List.getElem?_cons_zero, List.getElem?_cons_succ, ↓reduceIte]
      rfl
  · rw [if_neg h, if_neg h, bk95_8]
    rfl
end MO2
end
section
/-! THE REFERENCE: rows that are made: how far, what may be. Mine. -/
/-- a new row of whole numbers, with that in it -/
def nwr (w : am_Wd) (t n : Nat) (M : Nat → Int32) : am_Wd := am_pt (am_nw w (.inl (t, n, am_in t)) n) w.2.1 (.inl (t, n, .inl M))
theorem nwr_at {w : am_Wd} {t n : Nat} {M : Nat → Int32} : cI (nwr w t n M) w.2.1 t n M := pt_s
theorem nwr_ext {w : am_Wd} {t n : Nat} {M : Nat → Int32} : ext w (nwr w t n M) 1 n := ext_pt ext_nw (Nat.le_refl _)
theorem nwr_put {w : am_Wd} {t n k : Nat} {M : Nat → Int32} {v : Int32} (hk : k < n) (hn : n < 2147483648) : am_wi t (nwr w t n M) w.2.1 (nI k) v = some (nwr w t n (upd M k v)) := by
  rw [wic nwr_at hk hn]
  unfold nwr
  rw [pt_pt]
theorem nwr_0 {w : am_Wd} {t n : Nat} (ht : am_in t = .inl (fun _ => 0)) : am_nw w (.inl (t, n, am_in t)) n = nwr w t n (fun _ => 0) := by
  unfold nwr
  rw [pt_id]
  rw [nw_s, ht]
theorem upd_b {p : Nat → Bool} {k : Nat} {b : Bool} : upd (fun s => b2i (p s)) k (b2i b) = fun s => b2i (up p k b s) := upB p k b
/-! how far each cell is -/
def lnk (mp : Nat → Nat) (f far c s d : Nat) : Bool := fst1 (far + 1) (fun k => rch mp f k c) == some far && kno mp c s == 1 && nb c s == some d
def cov (mp : Nat → Nat) (f far : Nat) : Nat → Nat → Bool
  | 0, _ => false
  | j + 1, d => cov mp f far j d || lnk mp f far (j / 4) (j % 4) d
def Dj (mp : Nat → Nat) (f far j d : Nat) : Option Nat := match fst1 (far + 1) (fun k => rch mp f k d) with
  | some k => some k
  | none => if cov mp f far j d = true then some (far + 1) else none
theorem cov_iff {mp : Nat → Nat} {f far d : Nat} : ∀ j, cov mp f far j d = true ↔ ∃ i, i < j ∧ lnk mp f far (i / 4) (i % 4) d = true
  | 0 => ⟨fun h => (nomatch h), fun ⟨i, hi, _⟩ => absurd hi (by omega)⟩
  | j + 1 => by
    show (cov mp f far j d || lnk mp f far (j / 4) (j % 4) d) = true ↔ _
    rw [Bool.or_eq_true, cov_iff j]
    constructor
    · rintro (⟨i, h1, h2⟩ | h)
      · exact ⟨i, by omega, h2⟩
      · exact ⟨j, by omega, h⟩
    · rintro ⟨i, h1, h2⟩
      by_cases e : i = j
      · subst e; exact Or.inr h2
      · exact Or.inl ⟨i, by omega, h2⟩
theorem rch_mono {mp : Nat → Nat} {f d : Nat} {k : Nat} (h : rch mp f k d = true) : rch mp f (k + 1) d = true := by
  show stepR mp (rch mp f k) d = true
  unfold stepR
  rw [h]
  rfl
/-- one step from a cell -/
theorem rch_step {mp : Nat → Nat} {f c s d k : Nat} (hc : c < 36) (hs : s < 4) (h : rch mp f k c = true) (h1 : kno mp c s = 1) (h2 : nb c s = some d) : rch mp f (k + 1) d = true := by
  show stepR mp (rch mp f k) d = true
  have hb := (nb_back hc hs h2).1
  have e : mvd (freeM mp (rch mp f k) s) s d = true := by
    unfold mvd
    rw [hb]
    show (rch mp f k c && kno mp c s == 1) = true
    rw [h, h1]
    rfl
  unfold stepR
  rcases (show s = 0 ∨ s = 1 ∨ s = 2 ∨ s = 3 by omega) with rfl | rfl | rfl | rfl <;> rw [e] <;> simp
theorem rch_back {mp : Nat → Nat} {f d k : Nat} (hd : d < 36) (h : rch mp f (k + 1) d = true) : rch mp f k d = true ∨ ∃ c s, c < 36 ∧ s < 4 ∧ rch mp f k c = true ∧ kno mp c s = 1 ∧ nb c s = some d := by
  have h : stepR mp (rch mp f k) d = true := h
  have one : ∀ s, s < 4 → mvd (freeM mp (rch mp f k) s) s d = true → ∃ c s, c < 36 ∧ s < 4 ∧ rch mp f k c = true ∧ kno mp c s = 1 ∧ nb c s = some d := by
    intro s hs hm
    unfold mvd at hm
    cases e : nb d ((s + 2) % 4) with
    | none => rw [e] at hm; cases hm
    | some c =>
      rw [e] at hm
      have hm : (rch mp f k c && kno mp c s == 1) = true := hm
      obtain ⟨m1, m2⟩ := Bool.and_eq_true_iff.mp hm
      have hc := nb_lt hd (by omega) e
      have hb := (nb_back hd (show (s + 2) % 4 < 4 by omega) e).1
      rw [show ((s + 2) % 4 + 2) % 4 = s by omega] at hb
      exact ⟨c, s, hc, hs, m1, beq_iff_eq.mp m2, hb⟩
  unfold stepR at h
  simp only [Bool.or_eq_true] at h
  rcases h with (((h | h) | h) | h) | h
  · exact Or.inl h
  · exact Or.inr (one 0 (by decide) h)
  · exact Or.inr (one 1 (by decide) h)
  · exact Or.inr (one 2 (by decide) h)
  · exact Or.inr (one 3 (by decide) h)
theorem Dj_next {mp : Nat → Nat} {f far d : Nat} (hd : d < 36) : Dj mp f far 144 d = Dj mp f (far + 1) 0 d := by
  unfold Dj
  show _ = (match fst1 (far + 1 + 1) (fun k => rch mp f k d) with | some k => some k | none => if false = true then _ else none)
  rw [show fst1 (far + 1 + 1) (fun k => rch mp f k d) = (match fst1 (far + 1) (fun k => rch mp f k d) with | some c => some c | none => if rch mp f (far + 1) d = true then some (far + 1) else none) from rfl]
  cases e : fst1 (far + 1) (fun k => rch mp f k d) with
  | some k => rfl
  | none =>
    have hn := fst1_none e
    have eq : cov mp f far 144 d = rch mp f (far + 1) d := by
      apply Bool.eq_iff_iff.mpr
      rw [cov_iff]
      constructor
      · rintro ⟨i, hi, hl⟩
        unfold lnk at hl
        simp only [Bool.and_eq_true, beq_iff_eq] at hl
        obtain ⟨⟨l1, l2⟩, l3⟩ := hl
        exact rch_step (by omega) (by omega) (fst1_some l1).2.1 l2 l3
      · intro h
        rcases rch_back hd h with h | ⟨c, s, hc, hs, r1, r2, r3⟩
        · rw [hn far (by omega)] at h
          cases h
        · refine ⟨4 * c + s, by omega, ?_⟩
          rw [show (4 * c + s) / 4 = c by omega, show (4 * c + s) % 4 = s by omega]
          unfold lnk
          have e1 : fst1 (far + 1) (fun k => rch mp f k c) = some far := fst1_is (by omega) r1 fun j hj => by
            cases q : rch mp f j c with
            | false => rfl
            | true =>
              have := rch_step hc hs q r2 r3
              rw [hn (j + 1) (by omega)] at this
              cases this
          rw [e1, r2, r3]
          simp
    rw [eq]
    by_cases h : rch mp f (far + 1) d = true
    · simp only [if_pos h]
    · simp only [if_neg h]
      rfl
/-- no way is longer than 35 -/
theorem cnt_le2 {p q : Nat → Bool} : ∀ n, (∀ c, c < n → p c = true → q c = true) → cnt n p ≤ cnt n q ∧ ((∃ c, c < n ∧ q c = true ∧ p c = false) → cnt n p + 1 ≤ cnt n q)
  | 0, _ => ⟨Nat.le_refl 0, fun ⟨c, h, _⟩ => absurd h (by omega)⟩
  | n + 1, h => by
    obtain ⟨h1, h2⟩ := cnt_le2 n (fun c hc => h c (by omega))
    have hn := h n (by omega)
    show cnt n p + (if p n = true then 1 else 0) ≤ cnt n q + (if q n = true then 1 else 0) ∧ (_ → cnt n p + (if p n = true then 1 else 0) + 1 ≤ cnt n q + (if q n = true then 1 else 0))
    refine ⟨?_, fun ⟨c, c1, c2, c3⟩ => ?_⟩
    · by_cases e : p n = true
      · rw [if_pos e, if_pos (hn e)]; omega
      · rw [if_neg e]; omega
    · by_cases e : c = n
      · subst e
        rw [if_pos c2, if_neg (by rw [c3]; decide)]
        omega
      · have := h2 ⟨c, by omega, c2, c3⟩
        by_cases e : p n = true
        · rw [if_pos e, if_pos (hn e)]; omega
        · rw [if_neg e]; omega
theorem step_cg {mp : Nat → Nat} {p q : Nat → Bool} (h : ∀ c, c < 36 → p c = q c) {d : Nat} (hd : d < 36) : stepR mp p d = stepR mp q d := by
  have e : ∀ s, s < 4 → mvd (freeM mp p s) s d = mvd (freeM mp q s) s d := by
    intro s hs
    unfold mvd
    cases e : nb d ((s + 2) % 4) with
    | none => rfl
    | some c =>
      have hc := nb_lt hd (by omega) e
      show freeM mp p s c = freeM mp q s c
      unfold freeM
      rw [h c hc]
  unfold stepR
  rw [h d hd, e 0 (by decide), e 1 (by decide), e 2 (by decide), e 3 (by decide)]
theorem rch_stab {mp : Nat → Nat} {f k : Nat} (h : ∀ d, d < 36 → rch mp f (k + 1) d = rch mp f k d) : ∀ j, k ≤ j → ∀ d, d < 36 → rch mp f (j + 1) d = rch mp f j d := by
  intro j hj
  induction j with
  | zero => rw [show k = 0 by omega] at h; exact h
  | succ j ih =>
    by_cases e : k = j + 1
    · rw [← e]; exact h
    · intro d hd
      exact step_cg (ih (by omega)) hd
theorem rch_36 {mp : Nat → Nat} {f d : Nat} (hf : f < 36) (hd : d < 36) : rch mp f 36 d = rch mp f 35 d := by
  by_cases h : ∃ k, k ≤ 35 ∧ ∀ d, d < 36 → rch mp f (k + 1) d = rch mp f k d
  · obtain ⟨k, hk, h⟩ := h
    exact rch_stab h 35 hk d hd
  · exfalso
    have gr : ∀ k, k ≤ 36 → k + 1 ≤ cnt 36 (rch mp f k) := by
      intro k
      induction k with
      | zero =>
        intro _
        have := (cnt_le2 (p := fun _ => false) (q := rch mp f 0) 36 (fun _ _ q => nomatch q)).2 ⟨f, hf, decide_eq_true (rfl : f = f), rfl⟩
        omega
      | succ k ih =>
        intro hk
        have i1 := ih (by omega)
        have := (cnt_le2 (p := rch mp f k) (q := rch mp f (k + 1)) 36 (fun _ _ q => rch_mono q)).2 (by
          apply Classical.byContradiction
          intro hn
          refine h ⟨k, by omega, fun d hd => ?_⟩
          cases q : rch mp f (k + 1) d with
          | false =>
            cases q2 : rch mp f k d with
            | false => rfl
            | true => rw [rch_mono q2] at q; cases q
          | true =>
            cases q2 : rch mp f k d with
            | true => rfl
            | false => exact absurd ⟨d, hd, q, q2⟩ hn)
        omega
    have := gr 36 (Nat.le_refl 36)
    have := cnt_le (rch mp f 36) 36
    omega
theorem Dj_way {mp : Nat → Nat} {f d : Nat} (hf : f < 36) (hd : d < 36) : Dj mp f 35 144 d = wayS mp f d := by
  rw [Dj_next hd]
  unfold Dj wayS
  show (match fst1 37 (fun k => rch mp f k d) with | some k => some k | none => if false = true then _ else none) = _
  rw [show fst1 37 (fun k => rch mp f k d) = (match fst1 36 (fun k => rch mp f k d) with | some c => some c | none => if rch mp f 36 d = true then some 36 else none) from rfl]
  cases e : fst1 36 (fun k => rch mp f k d) with
  | some k => rfl
  | none =>
    have := fst1_none e 35 (by decide)
    rw [if_neg (by rw [rch_36 hf hd, this]; decide)]
    rfl
def okD (M : Nat → Int32) (D : Nat → Option Nat) : Prop := ∀ c, c < 36 → M c = no (D c)
theorem Dj_le {mp : Nat → Nat} {f far j d k : Nat} (h : Dj mp f far j d = some k) : k ≤ far + 1 := by
  unfold Dj at h
  cases e : fst1 (far + 1) (fun k => rch mp f k d) with
  | some c =>
    rw [e] at h
    have := (fst1_some e).1
    have : some c = some k := h
    cases this
    omega
  | none =>
    rw [e] at h
    have h : (if cov mp f far j d = true then some (far + 1) else none) = some k := h
    by_cases q : cov mp f far j d = true
    · rw [if_pos q] at h; cases h; omega
    · rw [if_neg q] at h; cases h
theorem Dj_far {mp : Nat → Nat} {f far j d : Nat} : (Dj mp f far j d = some far) = (fst1 (far + 1) (fun k => rch mp f k d) = some far) := by
  unfold Dj
  cases e : fst1 (far + 1) (fun k => rch mp f k d) with
  | some c => rfl
  | none =>
    refine propext ⟨fun h => ?_, fun h => (nomatch h)⟩
    have h : (if cov mp f far j d = true then some (far + 1) else none) = some far := h
    by_cases q : cov mp f far j d = true
    · rw [if_pos q] at h
      have := Option.some.inj h
      omega
    · rw [if_neg q] at h; cases h
theorem no_eq {o : Option Nat} {k n : Nat} (ho : ∀ j, o = some j → j ≤ n) (hn : n < 2147483648) (hk : k < 2147483648) : (no o = nI k) = (o = some k) := by
  cases o with
  | none =>
    refine propext ⟨fun h => ?_, fun h => (nomatch h)⟩
    have : nI k = (-1 : Int32) := h.symm
    rw [nI_m1S hk] at this
    exact this.elim
  | some j =>
    have := ho j rfl
    show (nI j = nI k) = _
    rw [nI_eqS (by omega) hk]
    exact propext ⟨fun h => by rw [h], fun h => Option.some.inj h⟩
section FAR
variable {w : am_Wd} {g : Nat → Nat} {i a ho po ch : Nat} {lo ac bu sl : Int32} {may : Nat → Bool} {mp : Nat → Nat}
theorem it208 (hJ : gJ w g) (hp : mpo mp) (h : Mkv w g i a (ho, po, ch, lo, ac, bu, sl, may, mp)) {f far c s : Nat} (hc : c < 36) (hs : s < 4) (hfar : far < 36) {M : Nat → Int32} (hM : okD M (Dj mp f far (4 * c + s))) (hD : Dj mp f far (4 * c + s) c = some far) :
    ∃ M', okD M' (Dj mp f far (4 * c + s + 1)) ∧ am_run 208 59 [none, some (.ref a), none, some (.ref w.2.1), some (.int (nI far)), some (.int (nI c)), some (.int (nI s))] [] (nwr w 0 36 M) = am_run 208 59 [none, some (.ref a), none, some (.ref w.2.1), some (.int (nI far)), some (.int (nI c)), some (.int (nI (s + 1)))] [] (nwr w 0 36 M') := by
  have h' := h.ext hJ (nwr_ext (w := w) (t := 0) (n := 36) (M := M))
  have r := ric (nwr_at (w := w) (t := 0) (n := 36) (M := M)) (i := c) rfl hc (by decide)
  rw [hM c hc, hD] at r
  have r' : am_ri 0 (nwr w 0 36 M) w.2.1 (nI c) = some (nI far) := r
  have z := x174 h' hc hs
  have x1 := x100 (w := nwr w 0 36 M) hc hs
  have D1 : fst1 (far + 1) (fun k => rch mp f k c) = some far := Dj_far.mp hD
  have dv : (4 * c + s) / 4 = c := by omega
  have dm : (4 * c + s) % 4 = s := by omega
  have Dnext : ∀ d, Dj mp f far (4 * c + s + 1) d = match fst1 (far + 1) (fun k => rch mp f k d) with | some k => some k | none => if (cov mp f far (4 * c + s) d || lnk mp f far c s d) = true then some (far + 1) else none := by
    intro d
    unfold Dj
    show (match fst1 (far + 1) (fun k => rch mp f k d) with | some k => some k | none => if (cov mp f far (4 * c + s) d || lnk mp f far ((4 * c + s) / 4) ((4 * c + s) % 4) d) = true then some (far + 1) else none) = _
    rw [dv, dm]
  rw [bk208_59, if_neg (by rw [nI_leS (by decide) (by omega)]; omega)]
  by_cases k1 : kno mp c s = 1
  · cases e : nb c s with
    | none =>
      exfalso
      unfold kno at k1
      rw [e] at k1
      cases k1
    | some d =>
      have hd := nb_lt hc hs e
      rw [e] at x1
      have x1' : am_x 100 [.int (nI c), .int (nI s)] (nwr w 0 36 M) = some (.inl (some (.int (nI d))), nwr w 0 36 M) := x1
      rw [k1] at z
      have rd := ric (nwr_at (w := w) (t := 0) (n := 36) (M := M)) (i := d) rfl hd (by decide)
      rw [hM d hd] at rd
      have hl : ∀ x, lnk mp f far c s x = decide (x = d) := by
        intro x
        unfold lnk
        rw [D1, k1, e]
        by_cases q : x = d
        · subst q; simp
        · rw [decide_eq_false q]
          have : ¬ d = x := fun y => q y.symm
          simp [this]
      cases q : Dj mp f far (4 * c + s) d with
      | some k =>
        have hk := Dj_le q
        rw [q] at rd
        have rd' : am_ri 0 (nwr w 0 36 M) w.2.1 (nI d) = some (nI k) := rd
        refine ⟨M, fun x hx => ?_, ?_⟩
        · rw [hM x hx, Dnext x, hl x]
          by_cases y : x = d
          · subst y
            rw [q]
            unfold Dj at q
            cases e2 : fst1 (far + 1) (fun k => rch mp f k x) with
            | some k2 => rw [e2] at q; exact congrArg no q.symm
            | none =>
              rw [e2] at q
              have q : (if cov mp f far (4 * c + s) x = true then some (far + 1) else none) = some k := q
              by_cases y2 : cov mp f far (4 * c + s) x = true
              · rw [if_pos y2] at q
                show _ = no (if (cov mp f far (4 * c + s) x || decide (x = x)) = true then some (far + 1) else none)
                rw [y2, if_pos (by simp), q]
              · rw [if_neg y2] at q; cases q
          · rw [decide_eq_false y, Bool.or_false]
            rfl
        · simp only [bk208_65, r', bk208_69, not_true_eq_false, bk208_74, z, bk208_82, bk208_86, x1', bk208_94, rd', bk208_95, nI_m1S (show k < 2147483648 by omega), not_false_eq_true, bk208_112, nI_add, Option.bind_some, bct_v, bct_t, otl_s, otl_n, List.cons_append, List.nil_append, List.getElem?_cons_zero, List.getElem?_cons_succ, ↓reduceIte]
      | none =>
        rw [q] at rd
        have rd' : am_ri 0 (nwr w 0 36 M) w.2.1 (nI d) = some (-1) := rd
        have pw := nwr_put (w := w) (t := 0) (n := 36) (k := d) (M := M) (v := nI (far + 1)) hd (by decide)
        refine ⟨upd M d (nI (far + 1)), fun x hx => ?_, ?_⟩
        · rw [Dnext x, hl x]
          by_cases y : x = d
          · subst y
            rw [pk_us]
            unfold Dj at q
            cases e2 : fst1 (far + 1) (fun k => rch mp f k x) with
            | some k2 => rw [e2] at q; cases q
            | none =>
              show _ = no (if (cov mp f far (4 * c + s) x || decide (x = x)) = true then some (far + 1) else none)
              rw [decide_eq_true rfl, Bool.or_true, if_pos rfl]
              rfl
          · rw [pk_un y, hM x hx, decide_eq_false y, Bool.or_false]
            rfl
        · simp only [bk208_65, r', bk208_69, not_true_eq_false, bk208_74, z, bk208_82, bk208_86, x1', bk208_94, rd', bk208_95, bk208_99, bk208_107, nI_add, pw, bk208_112, Option.bind_some, bct_v, bct_t, otl_s, otl_n, List.cons_append, List.nil_append, List.getElem?_cons_zero, List.getElem?_cons_succ, ↓reduceIte]
  · have k2 : (nI (kno mp c s) = nI 1) = False := by
      have hk := kno_le hp c s
      rw [nI_eqS (by omega) (by decide)]
      exact eq_false k1
    refine ⟨M, fun x hx => ?_, ?_⟩
    · rw [hM x hx, Dnext x]
      have : lnk mp f far c s x = false := by
        unfold lnk
        have : (kno mp c s == 1) = false := by
          cases y : (kno mp c s == 1) with
          | false => rfl
          | true => exact absurd (beq_iff_eq.mp y) k1
        rw [this]
        simp
      rw [this, Bool.or_false]
      rfl
    · simp only [bk208_65, r', bk208_69, not_true_eq_false, bk208_74, z, bk208_82, k2, not_false_eq_true, bk208_112, nI_add, Option.bind_some, bct_v, bct_t, otl_s, otl_n, List.cons_append, List.nil_append, List.getElem?_cons_zero, List.getElem?_cons_succ, ↓reduceIte]
end FAR
end
section
/-! THE REFERENCE: how far each cell is; the way home; safety. Mine. -/
section FAR2
variable {w : am_Wd} {g : Nat → Nat} {i a ho po ch : Nat} {lo ac bu sl : Int32} {may : Nat → Bool} {mp : Nat → Nat}
theorem na_nwr {w : am_Wd} {t n : Nat} (hn : n ≤ 4096) (ht : am_in t = .inl (fun _ => 0)) : am_na w t (nI n) = some (nwr w t n (fun _ => 0)) := by
  rw [nac hn, nwr_0 ht]
theorem cell208 (hJ : gJ w g) (hp : mpo mp) (h : Mkv w g i a (ho, po, ch, lo, ac, bu, sl, may, mp)) {f far c : Nat} (hc : c < 36) (hfar : far < 36) {M : Nat → Int32} (hM : okD M (Dj mp f far (4 * c))) :
    ∃ M', okD M' (Dj mp f far (4 * (c + 1))) ∧ am_run 208 49 [none, some (.ref a), none, some (.ref w.2.1), some (.int (nI far)), some (.int (nI c)), none] [] (nwr w 0 36 M) = am_run 208 49 [none, some (.ref a), none, some (.ref w.2.1), some (.int (nI far)), some (.int (nI (c + 1))), none] [] (nwr w 0 36 M') := by
  rw [bk208_49, if_neg (by rw [nI_leS (by omega) (by omega)]; omega), bk208_56]
  have same : ∀ j d, j ≤ 4 → fst1 (far + 1) (fun k => rch mp f k c) ≠ some far → Dj mp f far (4 * c + j) d = Dj mp f far (4 * c) d := by
    intro j d hj hn
    unfold Dj
    have e : cov mp f far (4 * c + j) d = cov mp f far (4 * c) d := by
      apply Bool.eq_iff_iff.mpr
      rw [cov_iff, cov_iff]
      constructor
      · rintro ⟨q, hq, hl⟩
        refine ⟨q, ?_, hl⟩
        rcases Nat.lt_or_ge q (4 * c) with z | z
        · exact z
        · exfalso
          rw [show q / 4 = c by omega] at hl
          unfold lnk at hl
          simp only [Bool.and_eq_true, beq_iff_eq] at hl
          exact hn hl.1.1
      · rintro ⟨q, hq, hl⟩
        exact ⟨q, by omega, hl⟩
    rw [e]
  by_cases q : Dj mp f far (4 * c) c = some far
  · have keep : ∀ j, j ≤ 4 → Dj mp f far (4 * c + j) c = some far := fun j _ => by
      rw [Dj_far] at q ⊢
      exact q
    obtain ⟨M1, m1, e1⟩ := it208 hJ hp h (s := 0) hc (by decide) hfar hM (keep 0 (by decide))
    obtain ⟨M2, m2, e2⟩ := it208 hJ hp h (s := 1) hc (by decide) hfar m1 (keep 1 (by decide))
    obtain ⟨M3, m3, e3⟩ := it208 hJ hp h (s := 2) hc (by decide) hfar m2 (keep 2 (by decide))
    obtain ⟨M4, m4, e4⟩ := it208 hJ hp h (s := 3) hc (by decide) hfar m3 (keep 3 (by decide))
    refine ⟨M4, m4, ?_⟩
    rw [e1, e2, e3, e4, bk208_59, if_pos (by rw [nI_leS (by decide) (by decide)]; decide), bk208_118, nI_add]
  · refine ⟨M, fun d hd => ?_, ?_⟩
    · rw [hM d hd]
      exact congrArg no (same 4 d (by decide) (fun z => q (Dj_far.mpr z))).symm
    · have r := ric (nwr_at (w := w) (t := 0) (n := 36) (M := M)) (i := c) rfl hc (by decide)
      rw [hM c hc] at r
      have hne : ¬ no (Dj mp f far (4 * c) c) = nI far := by
        rw [no_eq (n := far + 1) (fun j hj => Dj_le hj) (by omega) (by omega)]
        exact q
      rw [bk208_59, if_neg (by rw [nI_leS (by decide) (by decide)]; decide)]
      simp only [bk208_65, r, bk208_69, hne, not_false_eq_true, bk208_118, nI_add, Option.bind_some, bct_v, bct_t, otl_s, otl_n, List.cons_append, List.nil_append, List.getElem?_cons_zero, List.getElem?_cons_succ, ↓reduceIte]
theorem round208 (hJ : gJ w g) (hp : mpo mp) (h : Mkv w g i a (ho, po, ch, lo, ac, bu, sl, may, mp)) {f far : Nat} (hfar : far < 36) {M : Nat → Int32} (hM : okD M (Dj mp f far 0)) :
    ∃ M', okD M' (Dj mp f far 144) ∧ am_run 208 39 [none, some (.ref a), none, some (.ref w.2.1), some (.int (nI far)), none, none] [] (nwr w 0 36 M) = am_run 208 39 [none, some (.ref a), none, some (.ref w.2.1), some (.int (nI (far + 1))), none, none] [] (nwr w 0 36 M') := by
  rw [bk208_39, if_neg (by rw [nI_leS (by omega) (by omega)]; omega), bk208_46]
  obtain ⟨M', m1, e⟩ := loopN (n := 36) (Q := fun c M => am_run 208 49 [none, some (.ref a), none, some (.ref w.2.1), some (.int (nI far)), some (.int (nI c)), none] [] (nwr w 0 36 M)) (I := fun c M => okD M (Dj mp f far (4 * c))) (b := M) hM (fun c M hc hI => cell208 hJ hp h hc hfar hI)
  refine ⟨M', m1, e.trans ?_⟩
  try dsimp only
  rw [bk208_49, if_pos (by rw [nI_leS (by decide) (by decide)]; decide), bk208_124, nI_add]
theorem x208 (hJ : gJ w g) (hp : mpo mp) (h : Mkv w g i a (ho, po, ch, lo, ac, bu, sl, may, mp)) {f x : Nat} (hf : f < 36) :
    ∃ M, (∀ c, c < 36 → M c = no (wayS mp f c)) ∧ am_x 208 [.ref x, .ref a, .int (nI f)] w = some (.inl (some (.ref w.2.1)), nwr w 0 36 M) := by
  have nl : ∀ c, c < 36 → am_wi 0 w 0 0 0 = am_wi 0 w 0 0 0 := fun _ _ => rfl
  obtain ⟨M, m1, e1⟩ := loopN (n := 36) (Q := fun c M => am_run 208 8 [none, some (.ref a), some (.int (nI f)), some (.ref w.2.1), some (.int (nI c)), none, none] [] (nwr w 0 36 M)) (I := fun c M => ∀ d, d < c → M d = no (Dj mp f 0 0 d)) (b := fun _ => 0) (fun d hd => absurd hd (by omega)) (fun c M hc hI => by
    have e0 : ∀ d, Dj mp f 0 0 d = if d = f then some 0 else none := by
      intro d
      unfold Dj
      show (match (match fst1 0 (fun k => rch mp f k d) with | some c => some c | none => if decide (d = f) = true then some 0 else none) with | some k => some k | none => if false = true then _ else none) = _
      show (match (if decide (d = f) = true then some 0 else none : Option Nat) with | some k => some k | none => if false = true then _ else none) = _
      by_cases q : d = f
      · rw [if_pos (decide_eq_true q), if_pos q]
      · rw [if_neg (by rw [decide_eq_false q]; decide), if_neg q]; rfl
    refine ⟨upd M c (no (Dj mp f 0 0 c)), fun d hd => ?_, ?_⟩
    · by_cases q : d = c
      · subst q; rw [pk_us]
      · rw [pk_un q]; exact hI d (by omega)
    · try dsimp only
      rw [bk208_8, if_neg (by rw [nI_leS (by omega) (by omega)]; omega), bk208_15]
      by_cases q : c = f
      · have pw := nwr_put (w := w) (t := 0) (n := 36) (k := c) (M := M) (v := nI 0) hc (by decide)
        rw [if_neg (fun z => z (congrArg nI q)), bk208_24, bk208_29]
        simp only [pw, bk208_30, nI_add, Option.bind_some, bct_v, bct_t, otl_s, otl_n, List.cons_append, List.nil_append, List.getElem?_cons_zero, List.getElem?_cons_succ, ↓reduceIte]
        rw [e0 c, if_pos q]
        rfl
      · have pw := nwr_put (w := w) (t := 0) (n := 36) (k := c) (M := M) (v := (-1 : Int32)) hc (by decide)
        rw [if_pos (fun z => q (by rw [nI_eqS (by omega) (by omega)] at z; exact z)), bk208_28, bk208_29]
        simp only [pw, bk208_30, nI_add, Option.bind_some, bct_v, bct_t, otl_s, otl_n, List.cons_append, List.nil_append, List.getElem?_cons_zero, List.getElem?_cons_succ, ↓reduceIte]
        rw [e0 c, if_neg q]
        rfl)
  obtain ⟨M', m2, e2⟩ := loopN (n := 36) (Q := fun far M => am_run 208 39 [none, some (.ref a), none, some (.ref w.2.1), some (.int (nI far)), none, none] [] (nwr w 0 36 M)) (I := fun far M => okD M (Dj mp f far 0)) (b := M) m1 (fun far M hfar hI => by
    obtain ⟨M', k1, k2⟩ := round208 hJ hp h hfar hI
    exact ⟨M', fun d hd => (k1 d hd).trans (congrArg no (Dj_next hd)), k2⟩)
  refine ⟨M', fun c hc => ?_, ?_⟩
  · rw [m2 c hc, ← Dj_next hc, Dj_way hf hc]
  · rw [bx208, bk208_0, na_nwr (by decide) rfl]
    try dsimp only at e1 e2
    show am_run 208 4 _ _ (nwr w 0 36 (fun _ => 0)) = _
    rw [bk208_4, e1, bk208_8, if_pos (by rw [nI_leS (by decide) (by decide)]; decide), bk208_36, e2, bk208_39, if_pos (by rw [nI_leS (by decide) (by decide)]; decide), bk208_130]
end FAR2
end
section
/-! THE REFERENCE: the way home, what it costs, safety, refusals, the goal. Mine. -/
section SAFE
variable {w : am_Wd} {g : Nat → Nat} {m kq hq ca ba wl ed : Nat} {wad : Nat → Nat} {kd hr : Nat → Nat} {cp br : Nat → Bool} {n : Nat} {ws : Nat → sW} {th mi nd : Nat} {dr me di re : Int32}
variable {i ho po ch : Nat} {lo ac bu sl : Int32} {may : Nat → Bool} {mp : Nat → Nat}
theorem rm_get (R : RMx w g m kq hq ca ba wl ed wad kd hr cp br n ws th mi nd dr me di re) (hi : i < n) (hy : ws i = (ho, po, ch, lo, ac, bu, sl, may, mp)) : Mkv w g i (wad i) (ho, po, ch, lo, ac, bu, sl, may, mp) := hy ▸ R.2.2.2.2.2.2.1 i hi
theorem x226 (R : RMx w g m kq hq ca ba wl ed wad kd hr cp br n ws th mi nd dr me di re) (hJ : gJ w g) (hi : i < n) (hy : ws i = (ho, po, ch, lo, ac, bu, sl, may, mp)) (hp : mpo mp) (hho : ho < 36) : ∃ w', am_x 226 [.ref m, .ref (wad i)] w = some (.inl (some (.int (wayW may mp ho))), w') ∧ ext w w' 1 36 := by
  have h := rm_get R hi hy
  have z := x95 h
  have kf := mk_kf h
  simp only [bx226, bk226_0, kf, z, bk226_4, sure_no, Option.bind_some, bct_v, bct_t, otl_s, otl_n, List.cons_append, List.nil_append, List.getElem?_cons_zero, List.getElem?_cons_succ, ↓reduceIte]
  unfold wayW
  cases e : sureP may with
  | none =>
    refine ⟨w, ?_, ext_wk ext_rf (by decide) (by decide)⟩
    rw [if_neg (fun q => q rfl), bk226_8, bk226_29]
  | some p =>
    have hp1 := (sure_lt e).1
    rw [e] at z
    have z' : am_x 95 [.ref (wad i)] w = some (.inl (some (.int (nI p))), w) := z
    obtain ⟨M, k1, k2⟩ := x208 hJ hp h (f := p / 4) (x := m) (by omega)
    have h' := h.ext hJ (nwr_ext (w := w) (t := 0) (n := 36) (M := M))
    obtain ⟨ma, mq, h1, -⟩ := h'
    have r := ric (nwr_at (w := w) (t := 0) (n := 36) (M := M)) (i := ho) rfl hho (by decide)
    rw [k1 ho hho] at r
    refine ⟨nwr w 0 36 M, ?_, nwr_ext⟩
    rw [if_pos (fun q => nomatch q)]
    simp only [bk226_13, kf, z', bk226_19, rm_kf R, nI_divS (show p < 2147483648 by omega) (show 0 < 4 by decide) (show 4 < 2147483648 by decide), k2, bk226_24, gfc h1, oK_0, oK_1, oK_2, oK_3, oK_4, oK_5, oK_6, oK_7, oK_8, bk226_28, r, bk226_29, Option.bind_some, bct_v, bct_t, otl_s, otl_n, List.cons_append, List.nil_append, List.getElem?_cons_zero, List.getElem?_cons_succ, ↓reduceIte]
theorem x245 (R : RMx w g m kq hq ca ba wl ed wad kd hr cp br n ws th mi nd dr me di re) (hn : n ≤ 3) (hJ : gJ w g) (hi : i < n) (hy : ws i = (ho, po, ch, lo, ac, bu, sl, may, mp)) (hp : mpo mp) (hho : ho < 36) : ∃ w', am_x 245 [.ref m, .ref (wad i)] w = some (.inl (some (.int (costI (wayW may mp ho)))), w') ∧ ext w w' 2 72 := by
  obtain ⟨w1, a1, e1⟩ := x226 R hJ hi hy hp hho
  have R1 := rm_ext R hn hJ e1
  obtain ⟨w2, a2, e2⟩ := x226 R1 (gJ_ext hJ e1) hi hy hp hho
  refine ⟨w2, ?_, ext_tr e1 e2⟩
  simp only [bx245, bk245_0, rm_kf R, a1, bk245_5, Option.bind_some, bct_v, bct_t, otl_s, otl_n, List.cons_append, List.nil_append, List.getElem?_cons_zero, List.getElem?_cons_succ, ↓reduceIte]
  unfold costI
  by_cases q : nI 0 ≤ wayW may mp ho
  · rw [if_pos q, if_pos q]
    simp only [bk245_16, rm_kf R1, a2, bk245_22, bk245_25, Option.bind_some, bct_v, bct_t, otl_s, otl_n, List.cons_append, List.nil_append, List.getElem?_cons_zero, List.getElem?_cons_succ, ↓reduceIte]
  · rw [if_neg q, if_neg q]
    simp only [bk245_8, rm_kf R1, a2, bk245_13, bk245_25, Option.bind_some, bct_v, bct_t, otl_s, otl_n, List.cons_append, List.nil_append, List.getElem?_cons_zero, List.getElem?_cons_succ, ↓reduceIte]
theorem x251 (R : RMx w g m kq hq ca ba wl ed wad kd hr cp br n ws th mi nd dr me di re) (hn : n ≤ 3) (hJ : gJ w g) (hi : i < n) (hy : ws i = (ho, po, ch, lo, ac, bu, sl, may, mp)) (hp : mpo mp) (hho : ho < 36) : ∃ w', am_x 251 [.ref m, .ref (wad i)] w = some (.inl (some (.int (b2i (safeB ch (costI (wayW may mp ho)))))), w') ∧ ext w w' 4 144 := by
  obtain ⟨w1, a1, e1⟩ := x245 R hn hJ hi hy hp hho
  have R1 := rm_ext R hn hJ e1
  have hJ1 := gJ_ext hJ e1
  have h1 := rm_get R1 hi hy
  obtain ⟨ma, mq, c1, -⟩ := h1
  unfold safeB
  by_cases q : nI 0 ≤ costI (wayW may mp ho)
  · obtain ⟨w2, a2, e2⟩ := x245 R1 hn hJ1 hi hy hp hho
    refine ⟨w2, ?_, ext_tr e1 e2⟩
    rw [if_pos q]
    simp only [bx251, bk251_0, rm_kf R, a1, bk251_5, if_pos q, bk251_25, gfc c1, oK_0, oK_1, oK_2, oK_3, oK_4, oK_5, oK_6, oK_7, oK_8, bk251_29, rm_kf R1, a2, bk251_36, Option.bind_some, bct_v, bct_t, otl_s, otl_n, List.cons_append, List.nil_append, List.getElem?_cons_zero, List.getElem?_cons_succ, ↓reduceIte]
    by_cases y : nI ch - nI 1 < costI (wayW may mp ho)
    · rw [if_pos y, bk251_43, bk251_44 (by rfl), decide_eq_false (fun z => z y)]; rfl
    · rw [if_neg y, bk251_39, bk251_44 (by rfl), decide_eq_true y]; rfl
  · refine ⟨w1, ?_, ext_wk e1 (by decide) (by decide)⟩
    rw [if_neg q]
    simp only [bx251, bk251_0, rm_kf R, a1, bk251_5, if_neg q, bk251_8, gfc c1, oK_0, oK_1, oK_2, oK_3, oK_4, oK_5, oK_6, oK_7, oK_8, bk251_12, Option.bind_some, bct_v, bct_t, otl_s, otl_n, List.cons_append, List.nil_append, List.getElem?_cons_zero, List.getElem?_cons_succ, ↓reduceIte]
    by_cases y : nI ch ≤ nI 20
    · rw [if_pos y, bk251_21, bk251_44 (by rfl), decide_eq_false (fun z => z y)]; rfl
    · rw [if_neg y, bk251_17, bk251_44 (by rfl), decide_eq_true y]; rfl
theorem x258 (R : RMx w g m kq hq ca ba wl ed wad kd hr cp br n ws th mi nd dr me di re) (hn : n ≤ 3) (hJ : gJ w g) (hm : mi ≤ 3000) (hi : i < n) (hy : ws i = (ho, po, ch, lo, ac, bu, sl, may, mp)) (hp : mpo mp) (hho : ho < 36) (hc : ch ≤ 500) (f : Bool) : ∃ w', am_x 258 [.ref m, .ref (wad i), .int (b2i f)] w = some (.inl (some (.int (b2i (refW mi (ho, po, ch, lo, ac, bu, sl, may, mp) f)))), w') ∧ ext w w' 4 144 := by
  have h1 := rm_get R hi hy
  obtain ⟨ma, mq, c1, -⟩ := h1
  unfold refW
  dsimp only
  have e0 : (nI ch = nI 0) = (ch = 0) := nI_eqS (by omega) (by decide)
  have em : (nI mi = nI 3000) = (mi = 3000) := nI_eqS (by omega) (by decide)
  have la : ∀ w', am_gf w' m 11 1 = some (.int (nI mi)) → am_run 258 19 [some (.ref m), none, none] [] w' = some (.inl (some (.int (b2i (decide (3000 ≤ mi))))), w') := by
    intro w' hw
    rw [bk258_19, hw]
    show am_run 258 23 [none, none, none] [.int (nI mi)] w' = _
    rw [bk258_23]
    simp only [em]
    by_cases q : mi = 3000
    · rw [if_neg (fun z => z q), bk258_29, bk258_34 (by rfl), decide_eq_true (by omega)]; rfl
    · rw [if_pos q, bk258_33, bk258_34 (by rfl), decide_eq_false (by omega)]; rfl
  by_cases q : ch = 0
  · refine ⟨w, ?_, ext_wk ext_rf (by decide) (by decide)⟩
    rw [decide_eq_true q, Bool.true_or, Bool.true_or]
    simp only [bx258, bk258_0, gfc c1, oK_0, oK_1, oK_2, oK_3, oK_4, oK_5, oK_6, oK_7, oK_8, bk258_4, e0, if_pos q, bk258_29, Option.bind_some, bct_v, bct_t, otl_s, otl_n, List.cons_append, List.nil_append, List.getElem?_cons_zero, List.getElem?_cons_succ, ↓reduceIte]
    exact bk258_34 (by rfl)
  · rw [decide_eq_false q, Bool.false_or]
    cases f with
    | true =>
      refine ⟨w, ?_, ext_wk ext_rf (by decide) (by decide)⟩
      simp only [bx258, bk258_0, gfc c1, oK_0, oK_1, oK_2, oK_3, oK_4, oK_5, oK_6, oK_7, oK_8, bk258_4, e0, if_neg q, bk258_7, b2i_0, reduceCtorEq, not_false_eq_true, Option.bind_some, bct_v, bct_t, otl_s, otl_n, List.cons_append, List.nil_append, List.getElem?_cons_zero, List.getElem?_cons_succ, ↓reduceIte]
      rw [la w (gfc R.1)]
      rfl
    | false =>
      obtain ⟨w1, a1, e1⟩ := x251 R hn hJ hi hy hp hho
      have R1 := rm_ext R hn hJ e1
      refine ⟨w1, ?_, e1⟩
      simp only [bx258, bk258_0, gfc c1, oK_0, oK_1, oK_2, oK_3, oK_4, oK_5, oK_6, oK_7, oK_8, bk258_4, e0, if_neg q, bk258_7, b2i_0, not_true_eq_false, bk258_11, rm_kf R, a1, bk258_16, Option.bind_some, bct_v, bct_t, otl_s, otl_n, List.cons_append, List.nil_append, List.getElem?_cons_zero, List.getElem?_cons_succ, ↓reduceIte]
      cases safeB ch (costI (wayW may mp ho)) with
      | true =>
        rw [if_neg (fun z => nomatch z), la w1 (gfc R1.1)]
        rfl
      | false =>
        rw [if_pos rfl, bk258_29, bk258_34 (by rfl)]
        rfl
end SAFE
end
section
/-! THE REFERENCE: the goal. Mine. -/
def bsc (mp : Nat → Nat) (f : Nat) : Nat → Option Nat
  | 0 => none
  | c + 1 => if unkA mp c = true then (match wayS mp f c with
    | none => bsc mp f c
    | some k => match bsc mp f c with
      | none => some c
      | some b => match wayS mp f b with
        | none => some c
        | some kb => if kb ≤ k then some b else some c) else bsc mp f c
def isB (mp : Nat → Nat) (f n b kb : Nat) : Prop := b < n ∧ unkA mp b = true ∧ wayS mp f b = some kb ∧ ∀ c k, c < n → unkA mp c = true → wayS mp f c = some k → kb ≤ k ∧ (k = kb → b ≤ c)
theorem bsc_ok {mp : Nat → Nat} {f : Nat} : ∀ n, (bsc mp f n = none ∧ ∀ c, c < n → unkA mp c = true → wayS mp f c = none) ∨ ∃ b kb, bsc mp f n = some b ∧ isB mp f n b kb
  | 0 => Or.inl ⟨rfl, fun c h => absurd h (by omega)⟩
  | n + 1 => by
    have ih := bsc_ok (mp := mp) (f := f) n
    show ((if unkA mp n = true then _ else bsc mp f n) = none ∧ _) ∨ ∃ b kb, (if unkA mp n = true then _ else bsc mp f n) = some b ∧ _
    by_cases u : unkA mp n = true
    · rw [if_pos u]
      cases e : wayS mp f n with
      | none =>
        rcases ih with ⟨h1, h2⟩ | ⟨b, kb, h1, b1, b2, b3, b4⟩
        · refine Or.inl ⟨h1, fun c hc hu => ?_⟩
          by_cases q : c = n
          · subst q; exact e
          · exact h2 c (by omega) hu
        · refine Or.inr ⟨b, kb, h1, by omega, b2, b3, fun c k hc hu hw => ?_⟩
          by_cases q : c = n
          · subst q; rw [e] at hw; cases hw
          · exact b4 c k (by omega) hu hw
      | some k =>
        rcases ih with ⟨h1, h2⟩ | ⟨b, kb, h1, b1, b2, b3, b4⟩
        · refine Or.inr ⟨n, k, by rw [h1], by omega, u, e, fun c k' hc hu hw => ?_⟩
          by_cases q : c = n
          · subst q; rw [e] at hw; cases hw; exact ⟨Nat.le_refl _, fun _ => Nat.le_refl _⟩
          · rw [h2 c (by omega) hu] at hw; cases hw
        · rw [h1]
          dsimp only
          rw [b3]
          dsimp only
          by_cases q : kb ≤ k
          · rw [if_pos q]
            refine Or.inr ⟨b, kb, rfl, by omega, b2, b3, fun c k' hc hu hw => ?_⟩
            by_cases y : c = n
            · subst y; rw [e] at hw; cases hw; exact ⟨q, fun _ => by omega⟩
            · exact b4 c k' (by omega) hu hw
          · rw [if_neg q]
            refine Or.inr ⟨n, k, rfl, by omega, u, e, fun c k' hc hu hw => ?_⟩
            by_cases y : c = n
            · subst y; rw [e] at hw; cases hw; exact ⟨Nat.le_refl _, fun _ => Nat.le_refl _⟩
            · have := (b4 c k' (by omega) hu hw).1
              exact ⟨by omega, fun z => by omega⟩
    · rw [if_neg u]
      rcases ih with ⟨h1, h2⟩ | ⟨b, kb, h1, b1, b2, b3, b4⟩
      · refine Or.inl ⟨h1, fun c hc hu => ?_⟩
        by_cases q : c = n
        · subst q; exact absurd hu u
        · exact h2 c (by omega) hu
      · refine Or.inr ⟨b, kb, h1, by omega, b2, b3, fun c k hc hu hw => ?_⟩
        by_cases q : c = n
        · subst q; exact absurd hu u
        · exact b4 c k (by omega) hu hw
theorem bsc_goal {mp : Nat → Nat} {f : Nat} : bsc mp f 36 = goalS mp f := by
  unfold goalS
  rcases bsc_ok (mp := mp) (f := f) 36 with ⟨h1, h2⟩ | ⟨b, kb, h1, b1, b2, b3, b4⟩
  · rw [h1]
    have : fst1 36 (fun k => (fst1 36 fun c => rch mp f k c && unkA mp c).isSome) = none := fst1_no fun k hk => by
      have : fst1 36 (fun c => rch mp f k c && unkA mp c) = none := fst1_no fun c hc => by
        cases u : unkA mp c with
        | false => rw [Bool.and_false]
        | true =>
          have := fst1_none (h2 c hc u) k hk
          rw [Bool.and_true]
          exact this
      rw [this]
      rfl
    rw [this]
  · rw [h1]
    obtain ⟨w1, w2, w3⟩ := fst1_some b3
    have e2 : fst1 36 (fun c => rch mp f kb c && unkA mp c) = some b := fst1_is b1 (by
      show (rch mp f kb b && unkA mp b) = true
      rw [w2, b2]
      rfl) fun c hc => by
        cases u : unkA mp c with
        | false => rw [Bool.and_false]
        | true =>
          rw [Bool.and_true]
          cases r : rch mp f kb c with
          | false => rfl
          | true =>
            exfalso
            cases e : wayS mp f c with
            | none =>
              have := fst1_none e kb w1
              rw [r] at this
              cases this
            | some k =>
              obtain ⟨x1, x2, x3⟩ := fst1_some e
              have y := b4 c k (by omega) u e
              have : k ≤ kb := by
                rcases Nat.lt_or_ge kb k with z | z
                · have := x3 kb z
                  rw [r] at this
                  cases this
                · exact z
              have := y.2 (by omega)
              omega
    have e1 : fst1 36 (fun k => (fst1 36 fun c => rch mp f k c && unkA mp c).isSome) = some kb := fst1_is w1 (by
      show (fst1 36 fun c => rch mp f kb c && unkA mp c).isSome = true
      rw [e2]
      rfl) fun k hk => by
        have : fst1 36 (fun c => rch mp f k c && unkA mp c) = none := fst1_no fun c hc => by
          cases u : unkA mp c with
          | false => rw [Bool.and_false]
          | true =>
            rw [Bool.and_true]
            cases r : rch mp f k c with
            | false => rfl
            | true =>
              exfalso
              cases e : wayS mp f c with
              | none =>
                have := fst1_none e k (by omega)
                rw [r] at this
                cases this
              | some k' =>
                obtain ⟨x1, x2, x3⟩ := fst1_some e
                have y := (b4 c k' hc u e).1
                have := x3 k (by omega)
                rw [r] at this
                cases this
        rw [this]
        rfl
    rw [e1]
    exact e2.symm
theorem bor_b (a b : Bool) : b2i a ||| b2i b = b2i (a || b) := by cases a <;> cases b <;> decide
section GOAL
variable {w : am_Wd} {g : Nat → Nat} {m kq hq ca ba wl ed : Nat} {wad : Nat → Nat} {kd hr : Nat → Nat} {cp br : Nat → Bool} {n : Nat} {ws : Nat → sW} {th mi nd : Nat} {dr me di re : Int32}
variable {i ho po ch a : Nat} {lo ac bu sl : Int32} {may : Nat → Bool} {mp : Nat → Nat}
theorem side229 (h : Mkv w g i a (ho, po, ch, lo, ac, bu, sl, may, mp)) (hp : mpo mp) {mr : Nat} {l3 : Int32} {c s : Nat} (hc : c < 36) (hs : s < 4) (b : Bool) :
    am_run 229 41 [none, some (.ref a), some (.ref mr), some (.int l3), some (.int (nI c)), some (.int (b2i b)), some (.int (nI s))] [] w = am_run 229 41 [none, some (.ref a), some (.ref mr), some (.int l3), some (.int (nI c)), some (.int (b2i (b || unkP mp s c))), some (.int (nI (s + 1)))] [] w := by
  have z := x174 h hc hs
  have hk := kno_le hp c s
  have e0 : (nI (kno mp c s) = nI 0) = (kno mp c s = 0) := nI_eqS (by omega) (by decide)
  rw [bk229_41, if_neg (by rw [nI_leS (by decide) (by omega)]; omega)]
  simp only [bk229_47, z, bk229_57, e0, Option.bind_some, bct_v, bct_t, otl_s, otl_n, List.cons_append, List.nil_append, List.getElem?_cons_zero, List.getElem?_cons_succ, ↓reduceIte]
  unfold unkP
  by_cases q : kno mp c s = 0
  · rw [if_neg (fun y => y q)]
    simp only [bk229_60, bk229_65, nI_add, Option.bind_some, bct_v, bct_t, otl_s, otl_n, List.cons_append, List.nil_append, List.getElem?_cons_zero, List.getElem?_cons_succ, ↓reduceIte]
    have := bor_b b true
    rw [show b2i true = nI 1 from rfl] at this
    rw [this, q]
    rfl
  · rw [if_pos q]
    simp only [bk229_64, bk229_65, nI_add, Option.bind_some, bct_v, bct_t, otl_s, otl_n, List.cons_append, List.nil_append, List.getElem?_cons_zero, List.getElem?_cons_succ, ↓reduceIte]
    have := bor_b b false
    rw [show b2i false = nI 0 from rfl] at this
    rw [this, show (kno mp c s == 0) = false from by simpa using q]
theorem cell229 (hJ : gJ w g) (h : Mkv w g i a (ho, po, ch, lo, ac, bu, sl, may, mp)) (hp : mpo mp) {f : Nat} {M : Nat → Int32} (hM : ∀ c, c < 36 → M c = no (wayS mp f c)) {c : Nat} (hc : c < 36) :
    am_run 229 28 [none, some (.ref a), some (.ref w.2.1), some (.int (no (bsc mp f c))), some (.int (nI c)), none, none] [] (nwr w 0 36 M) = am_run 229 28 [none, some (.ref a), some (.ref w.2.1), some (.int (no (bsc mp f (c + 1)))), some (.int (nI (c + 1))), none, none] [] (nwr w 0 36 M) := by
  have h' := h.ext hJ (nwr_ext (w := w) (t := 0) (n := 36) (M := M))
  rw [bk229_28, if_neg (by rw [nI_leS (by decide) (by omega)]; omega), bk229_35]
  have st : ∀ (s : Nat) (b : Bool), s < 4 → am_run 229 41 [none, some (.ref a), some (.ref w.2.1), some (.int (no (bsc mp f c))), some (.int (nI c)), some (.int (b2i b)), some (.int (nI s))] [] (nwr w 0 36 M) = am_run 229 41 [none, some (.ref a), some (.ref w.2.1), some (.int (no (bsc mp f c))), some (.int (nI c)), some (.int (b2i (b || unkP mp s c))), some (.int (nI (s + 1)))] [] (nwr w 0 36 M) := fun s b hs => side229 h' hp hc hs b
  show am_run 229 41 [none, some (.ref a), some (.ref w.2.1), some (.int (no (bsc mp f c))), some (.int (nI c)), some (.int (b2i false)), some (.int (nI 0))] [] (nwr w 0 36 M) = _
  rw [st 0 false (by decide), st 1 _ (by decide), st 2 _ (by decide), st 3 _ (by decide), bk229_41, if_pos (by rw [nI_leS (by decide) (by decide)]; decide)]
  have eu : (false || unkP mp 0 c || unkP mp 1 c || unkP mp 2 c || unkP mp 3 c) = unkA mp c := by
    rw [Bool.false_or]; rfl
  rw [eu, bk229_74]
  simp only [b2i_0]
  show _ = am_run 229 28 [none, some (.ref a), some (.ref w.2.1), some (.int (no (if unkA mp c = true then _ else bsc mp f c))), some (.int (nI (c + 1))), none, none] [] (nwr w 0 36 M)
  by_cases u : unkA mp c = true
  · rw [if_neg (by rw [u]; decide), if_pos u]
    have r := ric (nwr_at (w := w) (t := 0) (n := 36) (M := M)) (i := c) rfl hc (by decide)
    rw [hM c hc] at r
    have r' : am_ri 0 (nwr w 0 36 M) w.2.1 (nI c) = _ := r
    cases e : wayS mp f c with
    | none =>
      rw [e] at r'
      simp only [bk229_79, r', bk229_83, no, bk229_105, nI_add, Option.bind_some, bct_v, bct_t, otl_s, otl_n, List.cons_append, List.nil_append, List.getElem?_cons_zero, List.getElem?_cons_succ, ↓reduceIte]
    | some k =>
      have hk : k < 36 := (fst1_some e).1
      rw [e] at r'
      have r2 : am_ri 0 (nwr w 0 36 M) w.2.1 (nI c) = some (nI k) := r'
      rcases bsc_ok (mp := mp) (f := f) c with ⟨h1, h2⟩ | ⟨b, kb, h1, b1, b2, b3, b4⟩
      · rw [h1]
        simp only [bk229_79, r2, bk229_83, nI_m1S (show k < 2147483648 by omega), no, bk229_87, bk229_102, bk229_105, nI_add, Option.bind_some, bct_v, bct_t, otl_s, otl_n, List.cons_append, List.nil_append, List.getElem?_cons_zero, List.getElem?_cons_succ, ↓reduceIte]
      · rw [h1]
        dsimp only
        rw [b3]
        dsimp only
        have hkb : kb < 36 := (fst1_some b3).1
        have rb := ric (nwr_at (w := w) (t := 0) (n := 36) (M := M)) (i := b) rfl (by omega) (by decide)
        rw [hM b (by omega), b3] at rb
        have rb' : am_ri 0 (nwr w 0 36 M) w.2.1 (nI b) = some (nI kb) := rb
        simp only [bk229_79, r2, bk229_83, nI_m1S (show k < 2147483648 by omega), nI_m1S (show b < 2147483648 by omega), no, bk229_87, bk229_92, bk229_96, rb', bk229_99, Option.bind_some, bct_v, bct_t, otl_s, otl_n, List.cons_append, List.nil_append, List.getElem?_cons_zero, List.getElem?_cons_succ, ↓reduceIte]
        by_cases q : kb ≤ k
        · rw [if_pos q, if_pos (by rw [nI_leS (by omega) (by omega)]; exact q), bk229_105, nI_add]
        · rw [if_neg q, if_neg (by rw [nI_leS (by omega) (by omega)]; exact q), bk229_102, bk229_105, nI_add]
  · rw [if_pos (by simpa using u), if_neg u, bk229_105, nI_add]
theorem x229 (R : RMx w g m kq hq ca ba wl ed wad kd hr cp br n ws th mi nd dr me di re) (hJ : gJ w g) (hi : i < n) (hy : ws i = (ho, po, ch, lo, ac, bu, sl, may, mp)) (hp : mpo mp) : ∃ w', am_x 229 [.ref m, .ref (wad i)] w = some (.inl (some (.int (goalW may mp))), w') ∧ ext w w' 1 36 := by
  have h := rm_get R hi hy
  have z := x95 h
  have kf := mk_kf h
  simp only [bx229, bk229_0, kf, z, bk229_4, sure_no, Option.bind_some, bct_v, bct_t, otl_s, otl_n, List.cons_append, List.nil_append, List.getElem?_cons_zero, List.getElem?_cons_succ, ↓reduceIte]
  unfold goalW
  cases e : sureP may with
  | none =>
    refine ⟨w, ?_, ext_wk ext_rf (by decide) (by decide)⟩
    rw [if_neg (fun q => q rfl), bk229_8]
  | some p =>
    have hp1 := (sure_lt e).1
    rw [e] at z
    have z' : am_x 95 [.ref (wad i)] w = some (.inl (some (.int (nI p))), w) := z
    obtain ⟨M, k1, k2⟩ := x208 hJ hp h (f := p / 4) (x := m) (by omega)
    refine ⟨nwr w 0 36 M, ?_, nwr_ext⟩
    rw [if_pos (fun q => nomatch q)]
    simp only [bk229_11, kf, z', bk229_17, rm_kf R, nI_divS (show p < 2147483648 by omega) (show 0 < 4 by decide) (show 4 < 2147483648 by decide), k2, bk229_22, Option.bind_some, bct_v, bct_t, otl_s, otl_n, List.cons_append, List.nil_append, List.getElem?_cons_zero, List.getElem?_cons_succ, ↓reduceIte]
    have go : ∀ c, c ≤ 36 → am_run 229 28 [none, some (.ref (wad i)), some (.ref w.2.1), some (.int (no (bsc mp (p / 4) 0))), some (.int (nI 0)), none, none] [] (nwr w 0 36 M) = am_run 229 28 [none, some (.ref (wad i)), some (.ref w.2.1), some (.int (no (bsc mp (p / 4) c))), some (.int (nI c)), none, none] [] (nwr w 0 36 M) := by
      intro c
      induction c with
      | zero => exact fun _ => rfl
      | succ c ih => exact fun hc => (ih (by omega)).trans (cell229 hJ h hp k1 (by omega))
    refine Eq.trans (go 36 (Nat.le_refl 36)) ?_
    rw [bk229_28, if_pos (by rw [nI_leS (by decide) (by decide)]; decide), bk229_111, bsc_goal]
end GOAL
end
section
/-! THE REFERENCE: what may be behind a step, behind a feeling. Mine. -/
theorem mayF_eq {may : Nat → Bool} {mp : Nat → Nat} {p : Nat} (b : Bool) : mayF may mp b p = if b = true then stP may mp true (p % 4) (p / 4) else stP may mp false (p % 4) (p / 4) || mvd (stP may mp false (p % 4)) (p % 4) (p / 4) := by
  unfold mayF fwdP
  cases b <;> rfl
/-- what is there after k poses, of a step without a bump -/
def stF (may : Nat → Bool) (mp : Nat → Nat) (k p : Nat) : Bool := (decide (p < k) && stP may mp false (p % 4) (p / 4)) || mvd (fun c => decide (4 * c + p % 4 < k) && stP may mp false (p % 4) c) (p % 4) (p / 4)
theorem stF_0 {may : Nat → Bool} {mp : Nat → Nat} {p : Nat} : stF may mp 0 p = false := by
  unfold stF mvd
  cases nb (p / 4) ((p % 4 + 2) % 4) <;> simp
theorem stF_all {may : Nat → Bool} {mp : Nat → Nat} {p : Nat} (hp : p < 144) : stF may mp 144 p = mayF may mp false p := by
  rw [mayF_eq, if_neg (by decide)]
  unfold stF mvd
  rw [decide_eq_true hp, Bool.true_and]
  cases e : nb (p / 4) ((p % 4 + 2) % 4) with
  | none => rfl
  | some c =>
    have hc := nb_lt (show p / 4 < 36 by omega) (show (p % 4 + 2) % 4 < 4 by omega) e
    show (_ || (decide (4 * c + p % 4 < 144) && _)) = _
    rw [decide_eq_true (by omega), Bool.true_and]
theorem stF_s {may : Nat → Bool} {mp : Nat → Nat} {k p : Nat} (hk : k < 144) (hp : p < 144) : stF may mp (k + 1) p = (stF may mp k p || (stP may mp false (k % 4) (k / 4) && (decide (p = k) || decide (p % 4 = k % 4 ∧ nb (k / 4) (k % 4) = some (p / 4))))) := by
  unfold stF mvd
  have a1 : (decide (p < k + 1) && stP may mp false (p % 4) (p / 4)) = ((decide (p < k) && stP may mp false (p % 4) (p / 4)) || (stP may mp false (k % 4) (k / 4) && decide (p = k))) := by
    by_cases q : p = k
    · subst q
      rw [decide_eq_true (Nat.lt_succ_self p), decide_eq_false (Nat.lt_irrefl p), decide_eq_true rfl]
      simp
    · rw [decide_eq_false q, show decide (p < k + 1) = decide (p < k) from decide_eq_decide.mpr ⟨fun h => by omega, fun h => by omega⟩]
      simp
  rw [a1]
  cases e : nb (p / 4) ((p % 4 + 2) % 4) with
  | none =>
    have : decide (p % 4 = k % 4 ∧ nb (k / 4) (k % 4) = some (p / 4)) = false := decide_eq_false fun ⟨h1, h2⟩ => by
      have := (nb_back (show k / 4 < 36 by omega) (show k % 4 < 4 by omega) h2).1
      rw [← h1, e] at this
      cases this
    rw [this]
    simp
  | some c =>
    have hc := nb_lt (show p / 4 < 36 by omega) (show (p % 4 + 2) % 4 < 4 by omega) e
    have hb := (nb_back (show p / 4 < 36 by omega) (show (p % 4 + 2) % 4 < 4 by omega) e).1
    rw [show ((p % 4 + 2) % 4 + 2) % 4 = p % 4 by omega] at hb
    dsimp only
    have a2 : (decide (4 * c + p % 4 < k + 1) && stP may mp false (p % 4) c) = ((decide (4 * c + p % 4 < k) && stP may mp false (p % 4) c) || (stP may mp false (k % 4) (k / 4) && decide (p % 4 = k % 4 ∧ nb (k / 4) (k % 4) = some (p / 4)))) := by
      by_cases q : 4 * c + p % 4 = k
      · have q1 : k % 4 = p % 4 := by omega
        have q2 : k / 4 = c := by omega
        rw [q1, q2, decide_eq_true (show 4 * c + p % 4 < k + 1 by omega), decide_eq_false (show ¬ 4 * c + p % 4 < k by omega), decide_eq_true (show p % 4 = p % 4 ∧ nb c (p % 4) = some (p / 4) from ⟨rfl, hb⟩)]
        simp
      · have : decide (p % 4 = k % 4 ∧ nb (k / 4) (k % 4) = some (p / 4)) = false := decide_eq_false fun ⟨h1, h2⟩ => by
          have := (nb_back (show k / 4 < 36 by omega) (show k % 4 < 4 by omega) h2).1
          rw [← h1, e] at this
          cases this
          omega
        rw [this, show decide (4 * c + p % 4 < k + 1) = decide (4 * c + p % 4 < k) from decide_eq_decide.mpr ⟨fun h => by omega, fun h => by omega⟩]
        simp
    rw [a2]
    cases decide (p < k) && stP may mp false (p % 4) (p / 4) <;> cases stP may mp false (k % 4) (k / 4) <;> cases decide (p = k) <;> cases decide (4 * c + p % 4 < k) && stP may mp false (p % 4) c <;> cases decide (p % 4 = k % 4 ∧ nb (k / 4) (k % 4) = some (p / 4)) <;> rfl
def stT (may : Nat → Bool) (mp : Nat → Nat) (k q : Nat) : Bool := decide (q < k) && mayF may mp true q
def mR2 (F : Nat → Int32) (p : Nat → Bool) : Prop := ∀ q, q < 144 → F q = b2i (p q)
theorem mR2_put {F : Nat → Int32} {p : Nat → Bool} (h : mR2 F p) (k : Nat) (b : Bool) : mR2 (upd F k (b2i b)) (up p k b) := fun q hq => by
  by_cases e : q = k
  · subst e; rw [pk_us, up_s]
  · rw [pk_un e, up_n e, h q hq]
theorem and1_b (a b : Bool) : b2i a &&& b2i b = b2i (a && b) := by cases a <;> cases b <;> decide
theorem nwr_mR {w : am_Wd} {F : Nat → Int32} {p : Nat → Bool} (h : mR2 F p) : mR (nwr w 2 144 F) w.2.1 p := ⟨F, nwr_at, h⟩
section MAY
variable {w : am_Wd} {g : Nat → Nat} {i a ho po ch : Nat} {lo ac bu sl : Int32} {may : Nat → Bool} {mp : Nat → Nat}
theorem stP_k {k : Nat} (b : Bool) : stP may mp b (k % 4) (k / 4) = (may k && fitP mp (k % 4) b (k / 4)) := by
  unfold stP
  rw [show 4 * (k / 4) + k % 4 = k by omega]
theorem it209 (hJ : gJ w g) (hp : mpo mp) (h : Mkv w g i a (ho, po, ch, lo, ac, bu, sl, may, mp)) {k : Nat} (hk : k < 144) {F : Nat → Int32} (hF : mR2 F (stF may mp k)) :
    ∃ F', mR2 F' (stF may mp (k + 1)) ∧ am_run 209 8 [some (.ref a), some (.int (b2i false)), some (.ref w.2.1), some (.int (nI k)), none] [] (nwr w 2 144 F) = am_run 209 8 [some (.ref a), some (.int (b2i false)), some (.ref w.2.1), some (.int (nI (k + 1))), none] [] (nwr w 2 144 F') := by
  have h' := h.ext hJ (nwr_ext (w := w) (t := 2) (n := 144) (M := F))
  have z := x174 h' (c := k / 4) (s := k % 4) (by omega) (by omega)
  have y := x100 (w := nwr w 2 144 F) (c := k / 4) (s := k % 4) (by omega) (by omega)
  obtain ⟨ma, mq, h1, h2, -⟩ := h'
  have r := h2.at hk
  have hs := fun q hq => stF_s (may := may) (mp := mp) (k := k) (p := q) hk hq
  have hkl := kno_le hp (k / 4) (k % 4)
  have e2 : (nI (kno mp (k / 4) (k % 4)) = nI 2) = (kno mp (k / 4) (k % 4) = 2) := nI_eqS (by omega) (by decide)
  rw [bk209_8, if_neg (by rw [nI_leS (by decide) (by omega)]; omega)]
  simp only [bk209_15, gfc h1, oK_0, oK_1, oK_2, oK_3, oK_4, oK_5, oK_6, oK_7, oK_8, bk209_19, r, bk209_21, b2i_0, Option.bind_some, bct_v, bct_t, otl_s, otl_n, List.cons_append, List.nil_append, List.getElem?_cons_zero, List.getElem?_cons_succ, ↓reduceIte]
  cases em : may k with
  | false =>
    refine ⟨F, fun q hq => ?_, ?_⟩
    · rw [hF q hq, hs q hq, stP_k, em]
      simp
    · rw [if_neg (fun q => q rfl), bk209_24, bk209_91, nI_add]
  | true =>
    rw [if_pos (fun q => nomatch q)]
    simp only [bk209_27, nI_divS (show k < 2147483648 by omega) (show 0 < 4 by decide) (show 4 < 2147483648 by decide), nI_remS (show k < 2147483648 by omega) (show 0 < 4 by decide) (show 4 < 2147483648 by decide), z, bk209_37, b2i_0, bk209_63, e2, Option.bind_some, bct_v, bct_t, otl_s, otl_n, List.cons_append, List.nil_append, List.getElem?_cons_zero, List.getElem?_cons_succ, ↓reduceIte]
    by_cases q2 : kno mp (k / 4) (k % 4) = 2
    · refine ⟨F, fun q hq => ?_, ?_⟩
      · have : fitP mp (k % 4) false (k / 4) = false := by
          unfold fitP
          rw [q2]
          rfl
        rw [hF q hq, hs q hq, stP_k, this]
        simp
      · rw [if_pos q2, bk209_91, nI_add]
    · cases e : nb (k / 4) (k % 4) with
      | none =>
        exfalso
        apply q2
        unfold kno
        rw [e]
      | some d =>
        have hd := nb_lt (show k / 4 < 36 by omega) (show k % 4 < 4 by omega) e
        rw [e] at y
        have fit : fitP mp (k % 4) false (k / 4) = true := by
          unfold fitP
          have : (kno mp (k / 4) (k % 4) == 2) = false := by simpa using q2
          show (!(kno mp (k / 4) (k % 4) == 2)) = true
          rw [this]
          rfl
        have w1 := nwr_put (w := w) (t := 2) (n := 144) (k := k) (M := F) (v := b2i true) hk (by decide)
        have w2 := nwr_put (w := w) (t := 2) (n := 144) (k := 4 * d + k % 4) (M := upd F k (b2i true)) (v := b2i true) (by omega) (by decide)
        have y' : am_x 100 [.int (nI (k / 4)), .int (nI (k % 4))] (nwr w 2 144 (upd F k (b2i true))) = some (.inl (some (.int (nI d))), nwr w 2 144 (upd F k (b2i true))) := by
          rw [x100 (by omega) (by omega), e]
          rfl
        refine ⟨upd (upd F k (b2i true)) (4 * d + k % 4) (b2i true), fun q hq => ?_, ?_⟩
        · rw [hs q hq, stP_k, em, fit, e]
          by_cases c1 : q = 4 * d + k % 4
          · subst c1
            rw [pk_us, decide_eq_true (show (4 * d + k % 4) % 4 = k % 4 ∧ some d = some ((4 * d + k % 4) / 4) from ⟨by omega, congrArg some (by omega)⟩)]
            simp
          · rw [pk_un c1, decide_eq_false (show ¬ (q % 4 = k % 4 ∧ some d = some (q / 4)) from fun ⟨z1, z2⟩ => by
              have := Option.some.inj z2
              omega)]
            by_cases c2 : q = k
            · subst c2
              rw [pk_us]
              simp
            · rw [pk_un c2, hF q hq, decide_eq_false c2]
              simp
        · rw [if_neg q2]
          simp only [bk209_69, nar_1, w1, bk209_73, nI_divS (show k < 2147483648 by omega) (show 0 < 4 by decide) (show 4 < 2147483648 by decide), nI_remS (show k < 2147483648 by omega) (show 0 < 4 by decide) (show 4 < 2147483648 by decide), y', bk209_84, nI_mulS, nI_add, w2, bk209_91, Option.bind_some, bct_v, bct_t, otl_s, otl_n, List.cons_append, List.nil_append, List.getElem?_cons_zero, List.getElem?_cons_succ, ↓reduceIte]
theorem it209b (hJ : gJ w g) (hp : mpo mp) (h : Mkv w g i a (ho, po, ch, lo, ac, bu, sl, may, mp)) {k : Nat} (hk : k < 144) {F : Nat → Int32} (hF : mR2 F (stT may mp k)) :
    ∃ F', mR2 F' (stT may mp (k + 1)) ∧ am_run 209 8 [some (.ref a), some (.int (b2i true)), some (.ref w.2.1), some (.int (nI k)), none] [] (nwr w 2 144 F) = am_run 209 8 [some (.ref a), some (.int (b2i true)), some (.ref w.2.1), some (.int (nI (k + 1))), none] [] (nwr w 2 144 F') := by
  have h' := h.ext hJ (nwr_ext (w := w) (t := 2) (n := 144) (M := F))
  have z := x174 h' (c := k / 4) (s := k % 4) (by omega) (by omega)
  obtain ⟨ma, mq, h1, h2, -⟩ := h'
  have r := h2.at hk
  have hkl := kno_le hp (k / 4) (k % 4)
  have e1 : (nI (kno mp (k / 4) (k % 4)) = nI 1) = (kno mp (k / 4) (k % 4) = 1) := nI_eqS (by omega) (by decide)
  have hm : mayF may mp true k = (may k && fitP mp (k % 4) true (k / 4)) := by rw [mayF_eq, if_pos rfl, stP_k]
  have pos : ∀ b, mayF may mp true k = b → mR2 (upd F k (b2i b)) (stT may mp (k + 1)) := fun b hb q hq => by
    by_cases c : q = k
    · subst c
      unfold stT
      rw [pk_us, decide_eq_true (Nat.lt_succ_self q), hb, Bool.true_and]
    · rw [pk_un c, hF q hq]
      unfold stT
      rw [show decide (q < k + 1) = decide (q < k) from decide_eq_decide.mpr ⟨fun h => by omega, fun h => by omega⟩]
  have F0 : F k = b2i false := by
    rw [hF k hk]
    unfold stT
    rw [decide_eq_false (Nat.lt_irrefl k)]
    rfl
  rw [bk209_8, if_neg (by rw [nI_leS (by decide) (by omega)]; omega)]
  simp only [bk209_15, gfc h1, oK_0, oK_1, oK_2, oK_3, oK_4, oK_5, oK_6, oK_7, oK_8, bk209_19, r, bk209_21, b2i_0, Option.bind_some, bct_v, bct_t, otl_s, otl_n, List.cons_append, List.nil_append, List.getElem?_cons_zero, List.getElem?_cons_succ, ↓reduceIte]
  cases em : may k with
  | false =>
    rw [em, Bool.false_and] at hm
    refine ⟨F, fun q hq => ?_, ?_⟩
    · have p := pos false hm q hq
      by_cases c : q = k
      · subst c
        rw [pk_us] at p
        rw [F0, p]
      · rw [pk_un c] at p
        exact p
    · rw [if_neg (fun q => q rfl), bk209_24, bk209_91, nI_add]
  | true =>
    rw [em, Bool.true_and] at hm
    have rf := ric (nwr_at (w := w) (t := 2) (n := 144) (M := F)) (i := k) rfl hk (by decide)
    rw [F0] at rf
    have rf' : am_ri 2 (nwr w 2 144 F) w.2.1 (nI k) = some (b2i false) := rf
    rw [if_pos (fun q => nomatch q)]
    simp only [bk209_27, nI_divS (show k < 2147483648 by omega) (show 0 < 4 by decide) (show 4 < 2147483648 by decide), nI_remS (show k < 2147483648 by omega) (show 0 < 4 by decide) (show 4 < 2147483648 by decide), z, bk209_37, b2i_0, reduceCtorEq, bk209_43, rf', bk209_47, e1, Option.bind_some, bct_v, bct_t, otl_s, otl_n, List.cons_append, List.nil_append, List.getElem?_cons_zero, List.getElem?_cons_succ, ↓reduceIte]
    by_cases q1 : kno mp (k / 4) (k % 4) = 1
    · have hm' : mayF may mp true k = false := by
        rw [hm]
        unfold fitP
        rw [q1]
        rfl
      have w1 := nwr_put (w := w) (t := 2) (n := 144) (k := k) (M := F) (v := b2i false) hk (by decide)
      have o : b2i false ||| nI 0 = b2i false := bor_b false false
      refine ⟨upd F k (b2i false), pos false hm', ?_⟩
      rw [if_pos q1]
      simp only [bk209_57, bk209_58, o, nar_b, w1, bk209_60, bk209_91, nI_add, Option.bind_some, bct_v, bct_t, otl_s, otl_n, List.cons_append, List.nil_append, List.getElem?_cons_zero, List.getElem?_cons_succ, ↓reduceIte]
    · have hm' : mayF may mp true k = true := by
        rw [hm]
        unfold fitP
        show (!(kno mp (k / 4) (k % 4) == 1)) = true
        simpa using q1
      have w1 := nwr_put (w := w) (t := 2) (n := 144) (k := k) (M := F) (v := b2i true) hk (by decide)
      have o : b2i false ||| nI 1 = b2i true := bor_b false true
      refine ⟨upd F k (b2i true), pos true hm', ?_⟩
      rw [if_neg q1]
      simp only [bk209_53, bk209_58, o, nar_b, w1, bk209_60, bk209_91, nI_add, Option.bind_some, bct_v, bct_t, otl_s, otl_n, List.cons_append, List.nil_append, List.getElem?_cons_zero, List.getElem?_cons_succ, ↓reduceIte]
theorem x209 (hJ : gJ w g) (hp : mpo mp) (h : Mkv w g i a (ho, po, ch, lo, ac, bu, sl, may, mp)) (b : Bool) : ∃ F, mR2 F (mayF may mp b) ∧ am_x 209 [.ref a, .int (b2i b)] w = some (.inl (some (.ref w.2.1)), nwr w 2 144 F) := by
  rw [bx209, bk209_0, na_nwr (by decide) rfl]
  show ∃ F, mR2 F (mayF may mp b) ∧ am_run 209 5 _ _ (nwr w 2 144 (fun _ => 0)) = _
  rw [bk209_5]
  cases b with
  | false =>
    obtain ⟨F, f1, e⟩ := loopN (n := 144) (Q := fun k F => am_run 209 8 [some (.ref a), some (.int (b2i false)), some (.ref w.2.1), some (.int (nI k)), none] [] (nwr w 2 144 F)) (I := fun k F => mR2 F (stF may mp k)) (b := fun _ => 0) (fun q hq => by rw [stF_0]; rfl) (fun k F hk hI => it209 hJ hp h hk hI)
    refine ⟨F, fun q hq => (f1 q hq).trans (congrArg b2i (stF_all hq)), e.trans ?_⟩
    try dsimp only
    rw [bk209_8, if_pos (by rw [nI_leS (by decide) (by decide)]; decide), bk209_97]
  | true =>
    obtain ⟨F, f1, e⟩ := loopN (n := 144) (Q := fun k F => am_run 209 8 [some (.ref a), some (.int (b2i true)), some (.ref w.2.1), some (.int (nI k)), none] [] (nwr w 2 144 F)) (I := fun k F => mR2 F (stT may mp k)) (b := fun _ => 0) (fun q hq => by unfold stT; rw [decide_eq_false (Nat.not_lt_zero q)]; rfl) (fun k F hk hI => it209b hJ hp h hk hI)
    refine ⟨F, fun q hq => (f1 q hq).trans (by unfold stT; rw [decide_eq_true hq, Bool.true_and]), e.trans ?_⟩
    try dsimp only
    rw [bk209_8, if_pos (by rw [nI_leS (by decide) (by decide)]; decide), bk209_97]
theorem told_b2 {t k : Nat} (ht : t < 8) (hk : k < 3) : ((bj_ishr (nI t) (nI k) &&& nI 1) = nI 1) = (t.testBit k = true) := by
  have h : ∀ t : Fin 8, ∀ k : Fin 3, ((bj_ishr (nI t.val) (nI k.val) &&& nI 1) = nI 1 ↔ t.val.testBit k.val = true) := by decide +kernel
  exact propext (h ⟨t, ht⟩ ⟨k, hk⟩)
/-- one of the three sides of a pose -/
theorem side211 (hJ : gJ w g) (hp : mpo mp) (h : Mkv w g i a (ho, po, ch, lo, ac, bu, sl, may, mp)) {t p k : Nat} (ht : t < 8) (hpp : p < 144) (hk : k < 3) {F : Nat → Int32} {b : Bool} (hF : F p = b2i b) :
    am_run 211 27 [some (.ref a), some (.int (nI t)), some (.ref w.2.1), some (.int (nI p)), some (.int (nI k)), none] [] (nwr w 2 144 F) = am_run 211 27 [some (.ref a), some (.int (nI t)), some (.ref w.2.1), some (.int (nI p)), some (.int (nI (k + 1))), none] [] (nwr w 2 144 (upd F p (b2i (b && fitP mp ((p % 4 + 3 + k) % 4) (t.testBit k) (p / 4))))) := by
  have h' := h.ext hJ (nwr_ext (w := w) (t := 2) (n := 144) (M := F))
  have z := x174 h' (c := p / 4) (s := (p % 4 + 3 + k) % 4) (by omega) (by omega)
  have es : (p + 3 + k) % 4 = (p % 4 + 3 + k) % 4 := by omega
  have rf := ric (nwr_at (w := w) (t := 2) (n := 144) (M := F)) (i := p) rfl hpp (by decide)
  rw [hF] at rf
  have rf' : am_ri 2 (nwr w 2 144 F) w.2.1 (nI p) = some (b2i b) := rf
  have hkl := kno_le hp (p / 4) ((p % 4 + 3 + k) % 4)
  have fin : ∀ y, fitP mp ((p % 4 + 3 + k) % 4) (t.testBit k) (p / 4) = y → am_run 211 93 [some (.ref a), some (.int (nI t)), some (.ref w.2.1), some (.int (nI p)), some (.int (nI k)), none] [.int (b2i y), .int (b2i b), .int (nI p), .ref w.2.1] (nwr w 2 144 F) = am_run 211 27 [some (.ref a), some (.int (nI t)), some (.ref w.2.1), some (.int (nI p)), some (.int (nI (k + 1))), none] [] (nwr w 2 144 (upd F p (b2i (b && fitP mp ((p % 4 + 3 + k) % 4) (t.testBit k) (p / 4))))) := by
    intro y hy
    have w1 := nwr_put (w := w) (t := 2) (n := 144) (k := p) (M := F) (v := b2i (b && y)) hpp (by decide)
    rw [hy]
    simp only [bk211_93, and1_b, nar_b, w1, bk211_95, nI_add, Option.bind_some, bct_v, bct_t, otl_s, otl_n, List.cons_append, List.nil_append, List.getElem?_cons_zero, List.getElem?_cons_succ, ↓reduceIte]
  rw [bk211_27, if_neg (by rw [nI_leS (by decide) (by omega)]; omega)]
  simp only [bk211_33, nI_divS (show p < 2147483648 by omega) (show 0 < 4 by decide) (show 4 < 2147483648 by decide), nI_add, nI_remS (show p + 3 + k < 2147483648 by omega) (show 0 < 4 by decide) (show 4 < 2147483648 by decide), es, z, bk211_48, rf', bk211_54, Option.bind_some, bct_v, bct_t, otl_s, otl_n, List.cons_append, List.nil_append, List.getElem?_cons_zero, List.getElem?_cons_succ, ↓reduceIte]
  rcases (show kno mp (p / 4) ((p % 4 + 3 + k) % 4) = 0 ∨ kno mp (p / 4) ((p % 4 + 3 + k) % 4) = 1 ∨ kno mp (p / 4) ((p % 4 + 3 + k) % 4) = 2 by omega) with q | q | q
  · rw [q, if_pos rfl, bk211_88]
    refine fin true ?_
    unfold fitP
    rw [q]
    cases t.testBit k <;> rfl
  · rw [q, if_neg (by decide), bk211_59, if_pos (by decide), bk211_69, bk211_70]
    simp only [told_b2 ht hk]
    have ff : fitP mp ((p % 4 + 3 + k) % 4) (t.testBit k) (p / 4) = !(t.testBit k) := by
      unfold fitP
      rw [q]
      cases t.testBit k <;> rfl
    cases e : t.testBit k with
    | true =>
      rw [e] at ff
      rw [if_neg (fun y => y rfl), bk211_80, bk211_85, if_pos (by decide), bk211_92]
      rw [← e]
      exact fin false (by rw [e]; exact ff)
    | false =>
      rw [e] at ff
      rw [if_pos (fun y => nomatch y), bk211_84, bk211_85, if_neg (by decide), bk211_88]
      rw [← e]
      exact fin true (by rw [e]; exact ff)
  · rw [q, if_neg (by decide), bk211_59, if_neg (by decide), bk211_65, bk211_70]
    simp only [told_b2 ht hk]
    have ff : fitP mp ((p % 4 + 3 + k) % 4) (t.testBit k) (p / 4) = t.testBit k := by
      unfold fitP
      rw [q]
      cases t.testBit k <;> rfl
    cases e : t.testBit k with
    | true =>
      rw [e] at ff
      rw [if_neg (fun y => y rfl), bk211_80, bk211_85, if_neg (by decide), bk211_88]
      rw [← e]
      exact fin true (by rw [e]; exact ff)
    | false =>
      rw [e] at ff
      rw [if_pos (fun y => nomatch y), bk211_84, bk211_85, if_pos (by decide), bk211_92]
      rw [← e]
      exact fin false (by rw [e]; exact ff)
theorem sid211 (hJ : gJ w g) (hp : mpo mp) (h : Mkv w g i a (ho, po, ch, lo, ac, bu, sl, may, mp)) {t p k : Nat} (ht : t < 8) (hpp : p < 144) (hk : k < 3) {F : Nat → Int32} {b : Bool} (hF : F p = b2i b) :
    ∃ F', F' p = b2i (b && fitP mp ((p % 4 + 3 + k) % 4) (t.testBit k) (p / 4)) ∧ (∀ q, q ≠ p → F' q = F q) ∧ am_run 211 27 [some (.ref a), some (.int (nI t)), some (.ref w.2.1), some (.int (nI p)), some (.int (nI k)), none] [] (nwr w 2 144 F) = am_run 211 27 [some (.ref a), some (.int (nI t)), some (.ref w.2.1), some (.int (nI p)), some (.int (nI (k + 1))), none] [] (nwr w 2 144 F') :=
  ⟨_, pk_us .., fun q hq => pk_un hq, side211 hJ hp h ht hpp hk hF⟩
theorem it211 (hJ : gJ w g) (hp : mpo mp) (h : Mkv w g i a (ho, po, ch, lo, ac, bu, sl, may, mp)) {t p : Nat} (ht : t < 8) (hpp : p < 144) {F : Nat → Int32} (hF : ∀ q, q < p → F q = b2i (mayL may mp t q)) :
    ∃ F', (∀ q, q < p + 1 → F' q = b2i (mayL may mp t q)) ∧ am_run 211 8 [some (.ref a), some (.int (nI t)), some (.ref w.2.1), some (.int (nI p)), none, none] [] (nwr w 2 144 F) = am_run 211 8 [some (.ref a), some (.int (nI t)), some (.ref w.2.1), some (.int (nI (p + 1))), none, none] [] (nwr w 2 144 F') := by
  have h' := h.ext hJ (nwr_ext (w := w) (t := 2) (n := 144) (M := F))
  obtain ⟨ma, mq, h1, h2, -⟩ := h'
  have r := h2.at hpp
  have w1 := nwr_put (w := w) (t := 2) (n := 144) (k := p) (M := F) (v := b2i (may p)) hpp (by decide)
  obtain ⟨F1, a1, b1, s0⟩ := sid211 hJ hp h ht hpp (k := 0) (by decide) (F := upd F p (b2i (may p))) (b := may p) (pk_us ..)
  obtain ⟨F2, a2, b2, s1⟩ := sid211 hJ hp h ht hpp (k := 1) (by decide) a1
  obtain ⟨F3, a3, b3, s2⟩ := sid211 hJ hp h ht hpp (k := 2) (by decide) a2
  refine ⟨F3, fun q hq => ?_, ?_⟩
  · by_cases c : q = p
    · subst c
      rw [a3]
      unfold mayL feltP
      rw [show 4 * (q / 4) + q % 4 = q by omega]
    · rw [b3 q c, b2 q c, b1 q c, pk_un c]
      exact hF q (by omega)
  · rw [bk211_8, if_neg (by rw [nI_leS (by decide) (by omega)]; omega)]
    simp only [bk211_15, gfc h1, oK_0, oK_1, oK_2, oK_3, oK_4, oK_5, oK_6, oK_7, oK_8, bk211_21, r, bk211_23, nar_b, w1, bk211_24, Option.bind_some, bct_v, bct_t, otl_s, otl_n, List.cons_append, List.nil_append, List.getElem?_cons_zero, List.getElem?_cons_succ, ↓reduceIte]
    rw [s0, s1, s2, bk211_27, if_pos (by rw [nI_leS (by decide) (by decide)]; decide), bk211_101, nI_add]
theorem x211 (hJ : gJ w g) (hp : mpo mp) (h : Mkv w g i a (ho, po, ch, lo, ac, bu, sl, may, mp)) {t : Nat} (ht : t < 8) : ∃ F, mR2 F (mayL may mp t) ∧ am_x 211 [.ref a, .int (nI t)] w = some (.inl (some (.ref w.2.1)), nwr w 2 144 F) := by
  rw [bx211, bk211_0, na_nwr (by decide) rfl]
  show ∃ F, mR2 F (mayL may mp t) ∧ am_run 211 5 _ _ (nwr w 2 144 (fun _ => 0)) = _
  rw [bk211_5]
  obtain ⟨F, f1, e⟩ := loopN (n := 144) (Q := fun k F => am_run 211 8 [some (.ref a), some (.int (nI t)), some (.ref w.2.1), some (.int (nI k)), none, none] [] (nwr w 2 144 F)) (I := fun k F => ∀ q, q < k → F q = b2i (mayL may mp t q)) (b := fun _ => 0) (fun q hq => absurd hq (by omega)) (fun k F hk hI => it211 hJ hp h ht hk hI)
  refine ⟨F, f1, e.trans ?_⟩
  try dsimp only
  rw [bk211_8, if_pos (by rw [nI_leS (by decide) (by decide)]; decide), bk211_107]
end MAY
end
section
/-! THE REFERENCE: the worst, the best, sets, doubt; a walker written. Mine. -/
section MORE
variable {w : am_Wd} {g : Nat → Nat} {m kq hq ca ba wl ed : Nat} {wad : Nat → Nat} {kd hr : Nat → Nat} {cp br : Nat → Bool} {n : Nat} {ws : Nat → sW} {th mi nd : Nat} {dr me di re : Int32}
variable {i a ho po ch : Nat} {lo ac bu sl : Int32} {may : Nat → Bool} {mp : Nat → Nat}
theorem all_nwr {w : am_Wd} {F : Nat → Int32} {p : Nat → Bool} (h : mR2 F p) : am_x 44 [.ref w.2.1] (nwr w 2 144 F) = some (.inl (some (.int (nI (cnt 144 p)))), nwr w 2 144 F) := x44 nwr_at h (by decide)
theorem it230 (hJ : gJ w g) (hp : mpo mp) (h : Mkv w g i a (ho, po, ch, lo, ac, bu, sl, may, mp)) {t : Nat} (ht : t < 8) {w1 : am_Wd} (e : ext w w1 t (144 * t)) : ∃ w2, am_run 230 44 [none, some (.ref a), none, some (.int (nI (wrsL may mp t))), some (.int (nI t))] [] w1 = am_run 230 44 [none, some (.ref a), none, some (.int (nI (wrsL may mp (t + 1)))), some (.int (nI (t + 1)))] [] w2 ∧ ext w w2 (t + 1) (144 * (t + 1)) := by
  have h1 := h.ext hJ e
  obtain ⟨F, f1, f2⟩ := x211 (gJ_ext hJ e) hp h1 ht
  have l1 := wrsL_le may mp t
  have l2 := cnt_le (mayL may mp t) 144
  refine ⟨nwr w1 2 144 F, ?_, ext_wk (ext_tr e nwr_ext) (by omega) (by omega)⟩
  rw [bk230_44, if_neg (by rw [nI_leS (by decide) (by omega)]; omega)]
  simp only [bk230_51, f2, bk230_58, all_nwr f1, bk230_61, bj_maxS (show wrsL may mp t < 2147483648 by omega) (show cnt 144 (mayL may mp t) < 2147483648 by omega), nI_add, Option.bind_some, bct_v, bct_t, otl_s, otl_n, List.cons_append, List.nil_append, List.getElem?_cons_zero, List.getElem?_cons_succ, ↓reduceIte]
  rfl
theorem wrsW_0 : wrsW may mp 0 = max (cnt 144 (mayF may mp true)) (cnt 144 (mayF may mp false)) := by
  unfold wrsW
  rw [if_pos rfl]
  rfl
theorem wrsW_3 : wrsW may mp 3 = wrsL may mp 8 := by
  unfold wrsW
  rw [if_neg (by decide), if_pos rfl]
theorem wrsW_1 {k : Nat} (h : k = 1 ∨ k = 2) : wrsW may mp k = cnt 144 may := by
  unfold wrsW
  rw [if_neg (by omega), if_neg (by omega)]
def c230 (k : Nat) : Nat := if k = 0 then 2 else if k = 3 then 8 else 0
theorem x230 (hJ : gJ w g) (hp : mpo mp) (h : Mkv w g i a (ho, po, ch, lo, ac, bu, sl, may, mp)) {x k : Nat} (hk : k ≤ 3) : ∃ w', am_x 230 [.ref x, .ref a, .int (nI k)] w = some (.inl (some (.int (nI (wrsW may mp k)))), w') ∧ ext w w' (c230 k) (144 * c230 k) := by
  have z := x37 h
  have kf := mk_kf h
  rcases (show k = 0 ∨ k = 1 ∨ k = 2 ∨ k = 3 by omega) with rfl | rfl | rfl | rfl
  · obtain ⟨F, f1, f2⟩ := x209 hJ hp h true
    have e1 : ext w (nwr w 2 144 F) 1 144 := nwr_ext
    have h1 := h.ext hJ e1
    obtain ⟨G, g1, g2⟩ := x209 (gJ_ext hJ e1) hp h1 false
    have f2' : am_x 209 [.ref a, .int (nI 1)] w = _ := f2
    have g2' : am_x 209 [.ref a, .int (nI 0)] (nwr w 2 144 F) = _ := g2
    have l1 := cnt_le (mayF may mp true) 144
    have l2 := cnt_le (mayF may mp false) 144
    refine ⟨nwr (nwr w 2 144 F) 2 144 G, ?_, ext_wk (ext_tr e1 nwr_ext) (by decide) (by decide)⟩
    simp only [bx230, bk230_0, bk230_5, bk230_15, nI_eqS (show 0 < 2147483648 by decide) (show 1 < 2147483648 by decide), nI_eqS (show 0 < 2147483648 by decide) (show 2 < 2147483648 by decide), show ¬ (0 = 1) from by decide, show ¬ (0 = 2) from by decide, not_false_eq_true, not_true_eq_false, bk230_19, f2', bk230_24, all_nwr f1, bk230_27, g2', bk230_32, all_nwr g1, bk230_35, bj_maxS (show cnt 144 (mayF may mp true) < 2147483648 by omega) (show cnt 144 (mayF may mp false) < 2147483648 by omega), wrsW_0, Option.bind_some, bct_v, bct_t, otl_s, otl_n, List.cons_append, List.nil_append, List.getElem?_cons_zero, List.getElem?_cons_succ, ↓reduceIte]
  · refine ⟨w, ?_, ext_wk ext_rf (by decide) (by decide)⟩
    simp only [bx230, bk230_0, bk230_10, kf, z, bk230_14, wrsW_1 (Or.inl rfl), Option.bind_some, bct_v, bct_t, otl_s, otl_n, List.cons_append, List.nil_append, List.getElem?_cons_zero, List.getElem?_cons_succ, ↓reduceIte]
  · refine ⟨w, ?_, ext_wk ext_rf (by decide) (by decide)⟩
    simp only [bx230, bk230_0, bk230_5, nI_eqS (show 2 < 2147483648 by decide) (show 1 < 2147483648 by decide), show ¬ (2 = 1) from by decide, not_true_eq_false, bk230_10, kf, z, bk230_14, wrsW_1 (Or.inr rfl), Option.bind_some, bct_v, bct_t, otl_s, otl_n, List.cons_append, List.nil_append, List.getElem?_cons_zero, List.getElem?_cons_succ, ↓reduceIte]
  · have go : ∀ t, t ≤ 8 → ∃ w2, am_run 230 44 [none, some (.ref a), none, some (.int (nI (wrsL may mp 0))), some (.int (nI 0))] [] w = am_run 230 44 [none, some (.ref a), none, some (.int (nI (wrsL may mp t))), some (.int (nI t))] [] w2 ∧ ext w w2 t (144 * t) := by
      intro t
      induction t with
      | zero => exact fun _ => ⟨w, rfl, ext_rf⟩
      | succ t ih =>
        intro ht
        obtain ⟨w2, e1, e2⟩ := ih (by omega)
        obtain ⟨w3, e3, e4⟩ := it230 hJ hp h (t := t) (by omega) e2
        exact ⟨w3, e1.trans e3, e4⟩
    obtain ⟨w2, e1, e2⟩ := go 8 (Nat.le_refl 8)
    refine ⟨w2, ?_, ext_wk e2 (by decide) (by decide)⟩
    simp only [bx230, bk230_0, bk230_5, bk230_15, nI_eqS (show 3 < 2147483648 by decide) (show 1 < 2147483648 by decide), nI_eqS (show 3 < 2147483648 by decide) (show 2 < 2147483648 by decide), nI_eqS (show 3 < 2147483648 by decide) (show 0 < 2147483648 by decide), show ¬ (3 = 1) from by decide, show ¬ (3 = 2) from by decide, show ¬ (3 = 0) from by decide, not_false_eq_true, bk230_39, Option.bind_some, bct_v, bct_t, otl_s, otl_n, List.cons_append, List.nil_append, List.getElem?_cons_zero, List.getElem?_cons_succ, ↓reduceIte]
    refine Eq.trans e1 ?_
    rw [bk230_44, if_pos (by rw [nI_leS (by decide) (by decide)]; decide), bk230_71, wrsW_3]
theorem c230_2 {k : Nat} (h : k ≤ 2) : c230 k ≤ 2 := by
  unfold c230
  split
  · exact Nat.le_refl 2
  · rw [if_neg (by omega)]
    decide
theorem it248 (R : RMx w g m kq hq ca ba wl ed wad kd hr cp br n ws th mi nd dr me di re) (hn : n ≤ 3) (hJ : gJ w g) (hi : i < n) (hy : ws i = (ho, po, ch, lo, ac, bu, sl, may, mp)) (hp : mpo mp) {k k0 s0 : Nat} (hk : k < 3) {w1 : am_Wd} (e : ext w w1 k0 s0) :
    ∃ w2, am_run 248 4 [some (.ref m), some (.ref (wad i)), some (.int (nI (bstS may mp k))), some (.int (nI (k + 1)))] [] w1 = am_run 248 4 [some (.ref m), some (.ref (wad i)), some (.int (nI (bstS may mp (k + 1)))), some (.int (nI (k + 2)))] [] w2 ∧ ext w1 w2 (c230 (k + 1) + 2) (144 * (c230 (k + 1) + 2)) := by
  have R1 := rm_ext R hn hJ e
  have hJ1 := gJ_ext hJ e
  have hb := bstS_le may mp k
  obtain ⟨w2, a2, e2⟩ := x230 hJ1 hp (rm_get R1 hi hy) (x := m) (k := k + 1) (by omega)
  have R2 := rm_ext R1 hn hJ1 e2
  obtain ⟨w3, a3, e3⟩ := x230 (gJ_ext hJ1 e2) hp (rm_get R2 hi hy) (x := m) (k := bstS may mp k) (by omega)
  have l1 : wrsW may mp (k + 1) ≤ 144 := wrsW_le ..
  have l2 : wrsW may mp (bstS may mp k) ≤ 144 := wrsW_le ..
  have l3 : c230 (bstS may mp k) ≤ 2 := c230_2 (by omega)
  refine ⟨w3, ?_, ext_wk (ext_tr e2 e3) (by omega) (by omega)⟩
  rw [bk248_4, if_neg (by rw [nI_leS (by decide) (by omega)]; omega)]
  simp only [bk248_9, rm_kf R1, a2, bk248_15, rm_kf R2, a3, bk248_21, Option.bind_some, bct_v, bct_t, otl_s, otl_n, List.cons_append, List.nil_append, List.getElem?_cons_zero, List.getElem?_cons_succ, ↓reduceIte]
  show _ = am_run 248 4 [some (.ref m), some (.ref (wad i)), some (.int (nI (if wrsW may mp (k + 1) < wrsW may mp (bstS may mp k) then k + 1 else bstS may mp k))), some (.int (nI (k + 2)))] [] w3
  by_cases q : wrsW may mp (k + 1) < wrsW may mp (bstS may mp k)
  · rw [if_pos q, if_neg (by rw [nI_leS (by omega) (by omega)]; omega), bk248_24, bk248_26, nI_add]
  · rw [if_neg q, if_pos (by rw [nI_leS (by omega) (by omega)]; omega), bk248_26, nI_add]
theorem x248 (R : RMx w g m kq hq ca ba wl ed wad kd hr cp br n ws th mi nd dr me di re) (hn : n ≤ 3) (hJ : gJ w g) (hi : i < n) (hy : ws i = (ho, po, ch, lo, ac, bu, sl, may, mp)) (hp : mpo mp) : ∃ w', am_x 248 [.ref m, .ref (wad i)] w = some (.inl (some (.int (nI (bstS may mp 3)))), w') ∧ ext w w' 14 2016 := by
  obtain ⟨w1, a1, e1⟩ := it248 R hn hJ hi hy hp (k := 0) (by decide) (w1 := w) ext_rf
  obtain ⟨w2, a2, e2⟩ := it248 R hn hJ hi hy hp (k := 1) (by decide) e1
  have e12 := ext_tr e1 e2
  obtain ⟨w3, a3, e3⟩ := it248 R hn hJ hi hy hp (k := 2) (by decide) e12
  refine ⟨w3, ?_, ext_wk (ext_tr e12 e3) (by decide) (by decide)⟩
  rw [bx248, bk248_0]
  refine Eq.trans a1 (Eq.trans a2 (Eq.trans a3 ?_))
  rw [bk248_4, if_pos (by rw [nI_leS (by decide) (by decide)]; decide), bk248_32]
/-- where it may be, and how much of the floor -/
theorem x48 (h : Mkv w g i a (ho, po, ch, lo, ac, bu, sl, may, mp)) {x f : Nat} (hf : f < 4) : am_x 48 [.ref x, .ref a, .int (nI f)] w = some (.inl (some (.long (whS may f))), w) := by
  obtain ⟨ma, mq, h1, h2, -⟩ := h
  rw [bx48, bk48_0]
  have go : ∀ c, c ≤ 36 → am_run 48 5 [none, some (.ref a), some (.int (nI f)), some (.long (lN (msk 0 fun c => may (4 * c + f)))), none, some (.int (nI 0))] [] w = am_run 48 5 [none, some (.ref a), some (.int (nI f)), some (.long (lN (msk c fun c => may (4 * c + f)))), none, some (.int (nI c))] [] w := by
    intro c
    induction c with
    | zero => exact fun _ => rfl
    | succ c ih =>
      intro hc
      refine (ih (by omega)).trans ?_
      have r := h2.at (p := 4 * c + f) (by omega)
      have hlt : ∀ n, n ≤ 36 → msk n (fun c => may (4 * c + f)) < 2 ^ 64 := by
        intro n
        induction n with
        | zero => exact fun _ => by show 0 < 2 ^ 64; decide
        | succ n ih =>
          intro hn
          show msk n _ ||| (if may (4 * n + f) = true then 2 ^ n else 0) < 2 ^ 64
          refine Nat.or_lt_two_pow (ih (by omega)) ?_
          split
          · exact wb_lt2 (by omega)
          · decide
      have s1 : bj_lshl (lN 1) (nI c) = lN (2 ^ c) := by rw [lN_sl (by omega), Nat.one_mul]
      have o1 := wb_or (hlt c (by omega)) (wb_lt2 (a := c) (b := 64) (by omega))
      have o2 := wb_or (hlt c (by omega)) (show 0 < 2 ^ 64 by decide)
      rw [bk48_5, if_neg (by rw [nI_leS (by decide) (by omega)]; omega)]
      simp only [bk48_12, gfc h1, oK_0, oK_1, oK_2, oK_3, oK_4, oK_5, oK_6, oK_7, oK_8, bk48_17, nI_mulS, nI_add, r, bk48_24, b2i_0, Option.bind_some, bct_v, bct_t, otl_s, otl_n, List.cons_append, List.nil_append, List.getElem?_cons_zero, List.getElem?_cons_succ, ↓reduceIte]
      show _ = am_run 48 5 [none, some (.ref a), some (.int (nI f)), some (.long (lN (msk c (fun c => may (4 * c + f)) ||| (if may (4 * c + f) = true then 2 ^ c else 0)))), none, some (.int (nI (c + 1)))] [] w
      cases e : may (4 * c + f) with
      | true => rw [if_neg (fun q => nomatch q), bk48_27, s1, bk48_35, o1, nI_add]; rfl
      | false => rw [if_pos rfl, bk48_34, bk48_35, o2, nI_add]; rfl
  refine Eq.trans (go 36 (Nat.le_refl 36)) ?_
  rw [bk48_5, if_pos (by rw [nI_leS (by decide) (by decide)]; decide), bk48_43]
  rfl
theorem x49 (h : Mkv w g i a (ho, po, ch, lo, ac, bu, sl, may, mp)) {x : Nat} : am_x 49 [.ref x, .ref a] w = some (.inl (some (.double (dbtS may))), w) := by
  obtain ⟨ma, mq, h1, h2, -⟩ := h
  rw [bx49, bk49_0]
  have hl := cnt_le (anyF may) 36
  have hn := dbt_ok ⟨cnt 36 (anyF may), by omega⟩
  have e := csum (n := 36) (p := anyF may) (Q := fun c s => am_run 49 4 [none, some (.ref a), some (.int (nI s)), some (.int (nI c))] [] w) (fun c s hc => by
    try dsimp only
    have r0 := h2.at (p := 4 * c) (by omega)
    have r1 := h2.at (p := 4 * c + 1) (by omega)
    have r2 := h2.at (p := 4 * c + 2) (by omega)
    have r3 := h2.at (p := 4 * c + 3) (by omega)
    rw [bk49_4, if_neg (by rw [nI_leS (by decide) (by omega)]; omega)]
    unfold anyF
    cases e0 : may (4 * c) with
    | true =>
      rw [e0] at r0
      simp only [bk49_10, gfc h1, oK_0, oK_1, oK_2, oK_3, oK_4, oK_5, oK_6, oK_7, oK_8, bk49_15, nI_mulS, nI_add, r0, bk49_19, b2i_0, reduceCtorEq, not_false_eq_true, bk49_61, bk49_66, Bool.true_or, Option.bind_some, bct_v, bct_t, otl_s, otl_n, List.cons_append, List.nil_append, List.getElem?_cons_zero, List.getElem?_cons_succ, ↓reduceIte]
    | false =>
      rw [e0] at r0
      cases e1 : may (4 * c + 1) with
      | true =>
        rw [e1] at r1
        simp only [bk49_10, gfc h1, oK_0, oK_1, oK_2, oK_3, oK_4, oK_5, oK_6, oK_7, oK_8, bk49_15, nI_mulS, nI_add, r0, bk49_19, b2i_0, reduceCtorEq, not_true_eq_false, not_false_eq_true, bk49_22, bk49_26, r1, bk49_32, bk49_61, bk49_66, Bool.true_or, Bool.false_or, Option.bind_some, bct_v, bct_t, otl_s, otl_n, List.cons_append, List.nil_append, List.getElem?_cons_zero, List.getElem?_cons_succ, ↓reduceIte]
      | false =>
        rw [e1] at r1
        cases e2 : may (4 * c + 2) with
        | true =>
          rw [e2] at r2
          simp only [bk49_10, gfc h1, oK_0, oK_1, oK_2, oK_3, oK_4, oK_5, oK_6, oK_7, oK_8, bk49_15, nI_mulS, nI_add, r0, bk49_19, b2i_0, reduceCtorEq, not_true_eq_false, not_false_eq_true, bk49_22, bk49_26, r1, bk49_32, bk49_35, bk49_39, r2, bk49_45, bk49_61, bk49_66, Bool.true_or, Bool.false_or, Option.bind_some, bct_v, bct_t, otl_s, otl_n, List.cons_append, List.nil_append, List.getElem?_cons_zero, List.getElem?_cons_succ, ↓reduceIte]
        | false =>
          rw [e2] at r2
          cases e3 : may (4 * c + 3) with
          | true =>
            rw [e3] at r3
            simp only [bk49_10, gfc h1, oK_0, oK_1, oK_2, oK_3, oK_4, oK_5, oK_6, oK_7, oK_8, bk49_15, nI_mulS, nI_add, r0, bk49_19, b2i_0, reduceCtorEq, not_true_eq_false, not_false_eq_true, bk49_22, bk49_26, r1, bk49_32, bk49_35, bk49_39, r2, bk49_45, bk49_48, bk49_52, r3, bk49_58, bk49_61, bk49_66, Bool.true_or, Bool.false_or, Option.bind_some, bct_v, bct_t, otl_s, otl_n, List.cons_append, List.nil_append, List.getElem?_cons_zero, List.getElem?_cons_succ, ↓reduceIte]
          | false =>
            rw [e3] at r3
            simp only [bk49_10, gfc h1, oK_0, oK_1, oK_2, oK_3, oK_4, oK_5, oK_6, oK_7, oK_8, bk49_15, nI_mulS, nI_add, r0, bk49_19, b2i_0, reduceCtorEq, not_true_eq_false, not_false_eq_true, bk49_22, bk49_26, r1, bk49_32, bk49_35, bk49_39, r2, bk49_45, bk49_48, bk49_52, r3, bk49_58, bk49_65, bk49_66, Bool.or_false, Option.bind_some, bct_v, bct_t, otl_s, otl_n, List.cons_append, List.nil_append, List.getElem?_cons_zero, List.getElem?_cons_succ, ↓reduceIte])
  refine Eq.trans e ?_
  try dsimp only
  rw [bk49_4, if_pos (by rw [nI_leS (by decide) (by decide)]; decide), bk49_74 hn, bk49_80]
  rfl
/-- the walker's fields written -/
theorem Mkv_fld {ho' po' ch' : Nat} {lo' ac' bu' sl' : Int32} {ma mq : Nat} (h2 : mR w ma may) (h3 : Rws w g mq (400 + 100 * i) mp) (hi : i < 3) (g1 : g a = 110 + 10 * i) (g2 : g ma = 111 + 10 * i) (g3 : g mq = 112 + 10 * i) :
    Mkv (am_pt w a (.inr (10, oK po' ho' ch' ma mq lo' ac' bu' sl'))) g i a (ho', po', ch', lo', ac', bu', sl', may, mp) ∧ frm g (110 + 10 * i) (111 + 10 * i) w (am_pt w a (.inr (10, oK po' ho' ch' ma mq lo' ac' bu' sl'))) := by
  have f : frm g (110 + 10 * i) (111 + 10 * i) w (am_pt w a (.inr (10, oK po' ho' ch' ma mq lo' ac' bu' sl'))) := frm_pt (by omega) (by omega)
  exact ⟨⟨ma, mq, pt_s, h2.of (f.1 ma (by omega)), h3.of (f.1 mq (by omega)) (fun b z1 z2 => f.1 b (by omega)), g1, g2, g3⟩, f⟩
theorem x43 {p k : Nat} (hp : p < 144) (hk : k < 4) : am_x 43 [.int (nI p), .int (nI k)] w = some (.inl (some (.int (nI (p / 4 * 4 + (p + k) % 4)))), w) := by
  rw [bx43, bk43_0, nI_divS (by omega) (by decide) (by decide), nI_mulS, nI_add, nI_remS (by omega) (by decide) (by decide), nI_add]
def mrw (w : am_Wd) (ma : Nat) (F : Nat → Int32) : am_Wd := am_pt w ma (.inl (2, 144, .inl F))
theorem x45 (h : Mkv w g i a (ho, po, ch, lo, ac, bu, sl, may, mp)) : ∃ w', am_x 45 [.ref a] w = some (.inl none, w') ∧ Mkv w' g i a (ho, po, ch, lo, ac, bu, sl, fun _ => true, mp) ∧ frm g (111 + 10 * i) (112 + 10 * i) w w' := by
  obtain ⟨ma, mq, h1, ⟨f, f1, f2⟩, h3, g1, g2, g3⟩ := h
  have ne : a ≠ ma := g_ne g1 g2 (by omega)
  have e0 : w = mrw w ma f := (pt_id f1).symm
  have cO' : ∀ F, cO (mrw w ma F) a 10 (oK po ho ch ma mq lo ac bu sl) := fun F => cO_of h1 (pt_n ne)
  have cI' : ∀ F, cI (mrw w ma F) ma 2 144 F := fun F => pt_s
  obtain ⟨F, k1, e⟩ := loopN (n := 144) (Q := fun k F => am_run 45 2 [some (.ref a), some (.int (nI k))] [] (mrw w ma F)) (I := fun k F => ∀ q, q < k → F q = b2i true) (b := f) (fun q hq => absurd hq (by omega)) (fun k F hk hI => by
    refine ⟨upd F k (b2i true), fun q hq => ?_, ?_⟩
    · by_cases c : q = k
      · subst c; rw [pk_us]
      · rw [pk_un c]; exact hI q (by omega)
    · have w1 : am_wi 2 (mrw w ma F) ma (nI k) (b2i true) = some (mrw w ma (upd F k (b2i true))) := by
        rw [wic (cI' F) hk (by decide)]
        unfold mrw
        rw [pt_pt]
      try dsimp only
      rw [bk45_2, if_neg (by rw [nI_leS (by decide) (by omega)]; omega)]
      simp only [bk45_9, gfc (cO' F), oK_0, oK_1, oK_2, oK_3, oK_4, oK_5, oK_6, oK_7, oK_8, bk45_13, nar_1, w1, bk45_16, nI_add, Option.bind_some, bct_v, bct_t, otl_s, otl_n, List.cons_append, List.nil_append, List.getElem?_cons_zero, List.getElem?_cons_succ, ↓reduceIte])
  have fr : frm g (111 + 10 * i) (112 + 10 * i) w (mrw w ma F) := frm_pt (by omega) (by omega)
  refine ⟨mrw w ma F, ?_, ⟨ma, mq, cO' F, ⟨F, cI' F, fun q hq => k1 q hq⟩, h3.of (fr.1 mq (by omega)) (fun b z1 z2 => fr.1 b (by omega)), g1, g2, g3⟩, fr⟩
  rw [bx45, bk45_0]
  try dsimp only at e
  rw [← e0] at e
  rw [e, bk45_2, if_pos (by rw [nI_leS (by decide) (by decide)]; decide), bk45_22]
end MORE
end
section
/-! THE REFERENCE: what may be is taken; an act done. Mine. -/
section TAKE
variable {w : am_Wd} {g : Nat → Nat} {m kq hq ca ba wl ed : Nat} {wad : Nat → Nat} {kd hr : Nat → Nat} {cp br : Nat → Bool} {n : Nat} {ws : Nat → sW} {th mi nd : Nat} {dr me di re : Int32}
variable {i a ho po ch : Nat} {lo ac bu sl : Int32} {may : Nat → Bool} {mp : Nat → Nat}
theorem up_g {g : Nat → Nat} {b t : Nat} (h : g b = 0) : ∀ c, g c ≠ 0 → up g b t c = g c := fun c hc => up_n (fun e => hc (by rw [e]; exact h))
theorem x102 (h : Mkv w g i a (ho, po, ch, lo, ac, bu, sl, may, mp)) (hi : i < 3) {b : Nat} {q : Nat → Bool} (hb : mR w b q) (gb : g b = 0) :
    ∃ w', am_x 102 [.ref a, .ref b] w = some (.inl none, w') ∧ Mkv w' (up g b (111 + 10 * i)) i a (ho, po, ch, anewL lo q, ac, bu, sl, anewM q, mp) ∧ frm (up g b (111 + 10 * i)) (110 + 10 * i) (112 + 10 * i) w w' := by
  have hh := h.g (up_g (t := 111 + 10 * i) gb)
  generalize hG : up g b (111 + 10 * i) = G at hh
  have Gb : G b = 111 + 10 * i := by rw [← hG]; exact up_s
  obtain ⟨ma, mq, h1, h2, h3, g1, g2, g3⟩ := hh
  have pf : am_pf w a 10 3 (.ref b) = some (am_pt w a (.inr (10, oK po ho ch b mq lo ac bu sl))) := pfc h1 (by show 3 < 9; decide) (by decide)
  obtain ⟨k1, k2⟩ := Mkv_fld (ho' := ho) (po' := po) (ch' := ch) (lo' := lo) (ac' := ac) (bu' := bu) (sl' := sl) hb h3 hi g1 Gb g3
  have z := x37 k1
  have kf := mk_kf k1
  have hl := cnt_le q 144
  unfold anewL anewM
  simp only [bx102, bk102_0, pf, bk102_5, kf, z, bk102_9, Option.bind_some, bct_v, bct_t, otl_s, otl_n, List.cons_append, List.nil_append, List.getElem?_cons_zero, List.getElem?_cons_succ, ↓reduceIte]
  by_cases e : cnt 144 q = 0
  · obtain ⟨w2, a1, a2, a3⟩ := x45 k1
    obtain ⟨ma', mq', c1, c2, c3, d1, d2, d3⟩ := a2
    have pf2 : am_pf w2 a 10 5 (.int (lo + nI 1)) = some (am_pt w2 a (.inr (10, oK po ho ch ma' mq' (lo + nI 1) ac bu sl))) := pfc c1 (by show 5 < 9; decide) (by decide)
    obtain ⟨r1, r2⟩ := Mkv_fld (ho' := ho) (po' := po) (ch' := ch) (lo' := lo + nI 1) (ac' := ac) (bu' := bu) (sl' := sl) c2 c3 hi d1 d2 d3
    rw [if_pos e, if_pos e, if_pos (by rw [nI_leS (by omega) (by omega)]; omega)]
    refine ⟨am_pt w2 a (.inr (10, oK po ho ch ma' mq' (lo + nI 1) ac bu sl)), ?_, r1, frm_tr (frm_wk k2 (by omega) (by omega)) (frm_tr (frm_wk a3 (by omega) (by omega)) (frm_wk r2 (by omega) (by omega)))⟩
    simp only [bk102_13, a1, bk102_17, gfc c1, oK_0, oK_1, oK_2, oK_3, oK_4, oK_5, oK_6, oK_7, oK_8, bk102_22, pf2, bk102_27, Option.bind_some, bct_v, bct_t, otl_s, otl_n, List.cons_append, List.nil_append, List.getElem?_cons_zero, List.getElem?_cons_succ, ↓reduceIte]
  · rw [if_neg e, if_neg e, if_neg (by rw [nI_leS (by omega) (by omega)]; omega)]
    refine ⟨am_pt w a (.inr (10, oK po ho ch b mq lo ac bu sl)), ?_, k1, frm_wk k2 (by omega) (by omega)⟩
    rw [bk102_12]
/-- the reference's world may change at its own tags -/
theorem rm_wk2 (R : RMx w g m kq hq ca ba wl ed wad kd hr cp br n ws th mi nd dr me di re) (hn : n ≤ 3) {w' : am_Wd} {y : sW} (hi : i < n) (h : Mkv w' g i (wad i) y) (f : frm g (110 + 10 * i) (113 + 10 * i) w w') : RMx w' g m kq hq ca ba wl ed wad kd hr cp br n (up ws i y) th mi nd dr me di re :=
  rm_wk R hn hi h (fun b z1 _ => f.1 b (by omega)) (by rw [f.2])
theorem rm_g (R : RMx w g m kq hq ca ba wl ed wad kd hr cp br n ws th mi nd dr me di re) {g' : Nat → Nat} (hg : ∀ b, g b ≠ 0 → g' b = g b) : RMx w g' m kq hq ca ba wl ed wad kd hr cp br n ws th mi nd dr me di re := by
  obtain ⟨h1, k1, k2, k3, k4, k5, k6, g1, g2, g3, g4, g5, g6⟩ := R
  refine ⟨h1, k1.g (by decide) hg, k2.g (by decide) hg, k3, k4, ⟨k5.1, ?_⟩, fun i hi => (k6 i hi).g hg, (hg _ (by omega)).trans g1, (hg _ (by omega)).trans g2, (hg _ (by omega)).trans g3, (hg _ (by omega)).trans g4, (hg _ (by omega)).trans g5, (hg _ (by omega)).trans g6⟩
  rcases k5.2 with ⟨z1, z2, z3, z4⟩ | ⟨z1, z2⟩
  · exact Or.inl ⟨z1, z2, z3, (hg _ (by omega)).trans z4⟩
  · exact Or.inr ⟨z1, (hg _ (by omega)).trans z2⟩
theorem x46 (R : RMx w g m kq hq ca ba wl ed wad kd hr cp br n ws th mi nd dr me di re) (hn : n ≤ 3) (hi : i < n) (hy : ws i = (ho, po, ch, lo, ac, bu, sl, may, mp)) (hc : 1 ≤ ch) :
    ∃ w', am_x 46 [.ref m, .ref (wad i)] w = some (.inl none, w') ∧ RMx w' g m kq hq ca ba wl ed wad kd hr cp br n (up ws i (ho, po, ch - 1, lo, ac + nI 1, bu, sl, may, mp)) th (mi + 1) nd dr me di re ∧ frm g 100 141 w w' := by
  have h := rm_get R hi hy
  obtain ⟨ma, mq, h1, h2, h3, g1, g2, g3⟩ := h
  have p1 : am_pf w (wad i) 10 6 (.int (ac + nI 1)) = some (am_pt w (wad i) (.inr (10, oK po ho ch ma mq lo (ac + nI 1) bu sl))) := pfc h1 (by show 6 < 9; decide) (by decide)
  have q1 : cO (am_pt w (wad i) (.inr (10, oK po ho ch ma mq lo (ac + nI 1) bu sl))) (wad i) 10 (oK po ho ch ma mq lo (ac + nI 1) bu sl) := pt_s
  have p2 : am_pf (am_pt w (wad i) (.inr (10, oK po ho ch ma mq lo (ac + nI 1) bu sl))) (wad i) 10 2 (.int (nI (ch - 1))) = some (am_pt w (wad i) (.inr (10, oK po ho (ch - 1) ma mq lo (ac + nI 1) bu sl))) := by
    rw [pfc q1 (by show 2 < 9; decide) (by decide), pt_pt]
    rfl
  obtain ⟨k1, k2⟩ := Mkv_fld (ho' := ho) (po' := po) (ch' := ch - 1) (lo' := lo) (ac' := ac + nI 1) (bu' := bu) (sl' := sl) h2 h3 (by omega) g1 g2 g3
  have R1 := rm_wk2 R hn hi k1 (frm_wk k2 (by omega) (by omega))
  have p3 : am_pf (am_pt w (wad i) (.inr (10, oK po ho (ch - 1) ma mq lo (ac + nI 1) bu sl))) m 11 1 (.int (nI (mi + 1))) = some (am_pt (am_pt w (wad i) (.inr (10, oK po ho (ch - 1) ma mq lo (ac + nI 1) bu sl))) m (.inr (11, oM th (mi + 1) nd dr me di re kq hq ca ba wl))) := pfc R1.1 (by show 1 < 12; decide) (by decide)
  obtain ⟨r1, r2⟩ := rm_m (th' := th) (mi' := mi + 1) (nd' := nd) (dr' := dr) (me' := me) (di' := di) (re' := re) R1 hn
  refine ⟨_, ?_, r1, frm_tr (frm_wk k2 (by omega) (by omega)) (frm_wk r2 (by omega) (by omega))⟩
  simp only [bk46_0, bk46_5, bk46_10, bk46_15, bk46_20, bk46_25, bk46_30, bx46, gfc h1, gfc q1, oK_0, oK_1, oK_2, oK_3, oK_4, oK_5, oK_6, oK_7, oK_8, p1, nI_subS hc, p2, gfc R1.1, oM_0, oM_1, oM_2, oM_3, oM_4, oM_5, oM_6, oM_7, oM_8, oM_9, oM_10, oM_11, nI_add, p3, Option.bind_some, bct_v, bct_t, otl_s, otl_n, List.cons_append, List.nil_append, List.getElem?_cons_zero, List.getElem?_cons_succ, ↓reduceIte]
end TAKE
end
section
/-! THE REFERENCE: what is asked of it: sums. Mine. -/
def rtP (kd hr mp : Nat → Nat) (h : Nat) (k : Nat) : Bool := !(mp k == 0) && ((mp k == 2) == clE (kd k) (hr k) h)
section ASK
variable {w : am_Wd} {g : Nat → Nat} {m kq hq ca ba wl ed : Nat} {wad : Nat → Nat} {kd hr : Nat → Nat} {cp br : Nat → Bool} {n : Nat} {ws : Nat → sW} {th mi nd : Nat} {dr me di re : Int32}
variable {i ho po ch : Nat} {lo ac bu sl : Int32} {may : Nat → Bool} {mp : Nat → Nat}
theorem cnt_s {n : Nat} {p : Nat → Bool} {b : Bool} (h : p n = b) : cnt (n + 1) p = cnt n p + (if b = true then 1 else 0) := by
  subst h
  rfl
theorem it146 (R : RMx w g m kq hq ca ba wl ed wad kd hr cp br n ws th mi nd dr me di re) (hk : kdok kd) (hh : hrok hr) (hm : mi ≤ 3000) (hi : i < n) (hy : ws i = (ho, po, ch, lo, ac, bu, sl, may, mp)) (hp : mpo mp) {c j : Nat} (hc : c < 36) (hj : j < 2) (q : Int32) :
    am_run 146 21 [some (.ref m), some (.ref (wad i)), some (.int q), some (.int (nI (cnt (2 * c + j) (fun k => mp k == 1)))), some (.int (nI (cnt (2 * c + j) (fun k => mp k == 2)))), some (.int (nI (cnt (2 * c + j) (rtP kd hr mp (mi / 60 % 24))))), some (.int (nI c)), some (.int (nI j)), none] [] w =
    am_run 146 21 [some (.ref m), some (.ref (wad i)), some (.int q), some (.int (nI (cnt (2 * c + j + 1) (fun k => mp k == 1)))), some (.int (nI (cnt (2 * c + j + 1) (fun k => mp k == 2)))), some (.int (nI (cnt (2 * c + j + 1) (rtP kd hr mp (mi / 60 % 24))))), some (.int (nI c)), some (.int (nI (j + 1))), none] [] w := by
  obtain ⟨ma, mq, h1, h2, h3, -⟩ := rm_get R hi hy
  have r0 := h3.row hc
  have r1 := h3.at hc hj
  have z := x101 R hk hh hm hc hj
  have hp := hp (2 * c + j)
  rw [bk146_21, if_neg (by rw [nI_leS (by decide) (by omega)]; omega)]
  rcases (show mp (2 * c + j) = 0 ∨ mp (2 * c + j) = 1 ∨ mp (2 * c + j) = 2 by omega) with e | e | e
  · rw [e] at r1
    rw [cnt_s (p := fun k => mp k == 1) (b := false) (by show (mp (2 * c + j) == 1) = false; rw [e]; rfl), cnt_s (p := fun k => mp k == 2) (b := false) (by show (mp (2 * c + j) == 2) = false; rw [e]; rfl), cnt_s (p := rtP kd hr mp (mi / 60 % 24)) (b := false) (by unfold rtP; rw [e]; rfl)]
    simp only [bk146_122, bk146_128, bk146_27, bk146_129, bk146_31, bk146_135, bk146_34, bk146_136, bk146_37, bk146_142, bk146_50, bk146_46, bk146_143, bk146_51, bk146_149, bk146_65, bk146_61, bk146_150, bk146_66, bk146_156, bk146_102, bk146_76, bk146_164, bk146_160, bk146_103, bk146_86, bk146_82, bk146_165, bk146_87, bk146_166, bk146_95, bk146_170, bk146_98, bk146_176, bk146_182, bk146_193, bk146_200, bk146_201, bk146_208, bk146_209, bk146_216, bk146_217, bk146_224, bk146_225, bk146_231, bx146, gfc h1, oK_0, oK_1, oK_2, oK_3, oK_4, oK_5, oK_6, oK_7, oK_8, r0, r1, Option.bind_some, bct_v, bct_t, otl_s, otl_n, List.cons_append, List.nil_append, List.getElem?_cons_zero, List.getElem?_cons_succ, ↓reduceIte, nI_add, nI_leS, nI_ltS, nI_eqS, nI_m1S, Nat.reduceAdd, Nat.reduceLT, Nat.reduceLeDiff, Nat.reduceMul, Nat.reduceEqDiff, not_true_eq_false, not_false_eq_true]
    rfl
  · rw [e] at r1
    cases q : clE (kd (2 * c + j)) (hr (2 * c + j)) (mi / 60 % 24) with
    | true =>
      rw [q] at z
      rw [cnt_s (p := fun k => mp k == 1) (b := true) (by show (mp (2 * c + j) == 1) = true; rw [e]; rfl), cnt_s (p := fun k => mp k == 2) (b := false) (by show (mp (2 * c + j) == 2) = false; rw [e]; rfl), cnt_s (p := rtP kd hr mp (mi / 60 % 24)) (b := false) (by unfold rtP; rw [e, q]; rfl)]
      simp only [bk146_122, bk146_128, bk146_27, bk146_129, bk146_31, bk146_135, bk146_34, bk146_136, bk146_37, bk146_142, bk146_50, bk146_46, bk146_143, bk146_51, bk146_149, bk146_65, bk146_61, bk146_150, bk146_66, bk146_156, bk146_102, bk146_76, bk146_164, bk146_160, bk146_103, bk146_86, bk146_82, bk146_165, bk146_87, bk146_166, bk146_95, bk146_170, bk146_98, bk146_176, bk146_182, bk146_193, bk146_200, bk146_201, bk146_208, bk146_209, bk146_216, bk146_217, bk146_224, bk146_225, bk146_231, bx146, gfc h1, oK_0, oK_1, oK_2, oK_3, oK_4, oK_5, oK_6, oK_7, oK_8, r0, r1, rm_kf R, z, b2i_t, Option.bind_some, bct_v, bct_t, otl_s, otl_n, List.cons_append, List.nil_append, List.getElem?_cons_zero, List.getElem?_cons_succ, ↓reduceIte, nI_add, nI_leS, nI_ltS, nI_eqS, nI_m1S, Nat.reduceAdd, Nat.reduceLT, Nat.reduceLeDiff, Nat.reduceMul, Nat.reduceEqDiff, not_true_eq_false, not_false_eq_true]
      rfl
    | false =>
      rw [q] at z
      rw [cnt_s (p := fun k => mp k == 1) (b := true) (by show (mp (2 * c + j) == 1) = true; rw [e]; rfl), cnt_s (p := fun k => mp k == 2) (b := false) (by show (mp (2 * c + j) == 2) = false; rw [e]; rfl), cnt_s (p := rtP kd hr mp (mi / 60 % 24)) (b := true) (by unfold rtP; rw [e, q]; rfl)]
      simp only [bk146_122, bk146_128, bk146_27, bk146_129, bk146_31, bk146_135, bk146_34, bk146_136, bk146_37, bk146_142, bk146_50, bk146_46, bk146_143, bk146_51, bk146_149, bk146_65, bk146_61, bk146_150, bk146_66, bk146_156, bk146_102, bk146_76, bk146_164, bk146_160, bk146_103, bk146_86, bk146_82, bk146_165, bk146_87, bk146_166, bk146_95, bk146_170, bk146_98, bk146_176, bk146_182, bk146_193, bk146_200, bk146_201, bk146_208, bk146_209, bk146_216, bk146_217, bk146_224, bk146_225, bk146_231, bx146, gfc h1, oK_0, oK_1, oK_2, oK_3, oK_4, oK_5, oK_6, oK_7, oK_8, r0, r1, rm_kf R, z, b2i_f, Option.bind_some, bct_v, bct_t, otl_s, otl_n, List.cons_append, List.nil_append, List.getElem?_cons_zero, List.getElem?_cons_succ, ↓reduceIte, nI_add, nI_leS, nI_ltS, nI_eqS, nI_m1S, Nat.reduceAdd, Nat.reduceLT, Nat.reduceLeDiff, Nat.reduceMul, Nat.reduceEqDiff, not_true_eq_false, not_false_eq_true]
      rfl
  · rw [e] at r1
    cases q : clE (kd (2 * c + j)) (hr (2 * c + j)) (mi / 60 % 24) with
    | true =>
      rw [q] at z
      rw [cnt_s (p := fun k => mp k == 1) (b := false) (by show (mp (2 * c + j) == 1) = false; rw [e]; rfl), cnt_s (p := fun k => mp k == 2) (b := true) (by show (mp (2 * c + j) == 2) = true; rw [e]; rfl), cnt_s (p := rtP kd hr mp (mi / 60 % 24)) (b := true) (by unfold rtP; rw [e, q]; rfl)]
      simp only [bk146_122, bk146_128, bk146_27, bk146_129, bk146_31, bk146_135, bk146_34, bk146_136, bk146_37, bk146_142, bk146_50, bk146_46, bk146_143, bk146_51, bk146_149, bk146_65, bk146_61, bk146_150, bk146_66, bk146_156, bk146_102, bk146_76, bk146_164, bk146_160, bk146_103, bk146_86, bk146_82, bk146_165, bk146_87, bk146_166, bk146_95, bk146_170, bk146_98, bk146_176, bk146_182, bk146_193, bk146_200, bk146_201, bk146_208, bk146_209, bk146_216, bk146_217, bk146_224, bk146_225, bk146_231, bx146, gfc h1, oK_0, oK_1, oK_2, oK_3, oK_4, oK_5, oK_6, oK_7, oK_8, r0, r1, rm_kf R, z, b2i_t, Option.bind_some, bct_v, bct_t, otl_s, otl_n, List.cons_append, List.nil_append, List.getElem?_cons_zero, List.getElem?_cons_succ, ↓reduceIte, nI_add, nI_leS, nI_ltS, nI_eqS, nI_m1S, Nat.reduceAdd, Nat.reduceLT, Nat.reduceLeDiff, Nat.reduceMul, Nat.reduceEqDiff, not_true_eq_false, not_false_eq_true]
      rfl
    | false =>
      rw [q] at z
      rw [cnt_s (p := fun k => mp k == 1) (b := false) (by show (mp (2 * c + j) == 1) = false; rw [e]; rfl), cnt_s (p := fun k => mp k == 2) (b := true) (by show (mp (2 * c + j) == 2) = true; rw [e]; rfl), cnt_s (p := rtP kd hr mp (mi / 60 % 24)) (b := false) (by unfold rtP; rw [e, q]; rfl)]
      simp only [bk146_122, bk146_128, bk146_27, bk146_129, bk146_31, bk146_135, bk146_34, bk146_136, bk146_37, bk146_142, bk146_50, bk146_46, bk146_143, bk146_51, bk146_149, bk146_65, bk146_61, bk146_150, bk146_66, bk146_156, bk146_102, bk146_76, bk146_164, bk146_160, bk146_103, bk146_86, bk146_82, bk146_165, bk146_87, bk146_166, bk146_95, bk146_170, bk146_98, bk146_176, bk146_182, bk146_193, bk146_200, bk146_201, bk146_208, bk146_209, bk146_216, bk146_217, bk146_224, bk146_225, bk146_231, bx146, gfc h1, oK_0, oK_1, oK_2, oK_3, oK_4, oK_5, oK_6, oK_7, oK_8, r0, r1, rm_kf R, z, b2i_f, Option.bind_some, bct_v, bct_t, otl_s, otl_n, List.cons_append, List.nil_append, List.getElem?_cons_zero, List.getElem?_cons_succ, ↓reduceIte, nI_add, nI_leS, nI_ltS, nI_eqS, nI_m1S, Nat.reduceAdd, Nat.reduceLT, Nat.reduceLeDiff, Nat.reduceMul, Nat.reduceEqDiff, not_true_eq_false, not_false_eq_true]
      rfl
/-- what is asked of a walker, as the reference sums it -/
def ofwR (kd hr : Nat → Nat) (h : Nat) (y : sW) (k : Nat) : Int32 := match y with
  | (ho, po, ch, lo, ac, bu, sl, may, mp) => match k with
    | 0 => nI po
    | 1 => nI ho
    | 2 => nI ch
    | 3 => nI (cnt 144 may)
    | 4 => if cnt 144 may = 1 then nI 1 else nI 0
    | 5 => nI (cnt 72 (fun k => mp k == 1))
    | 6 => nI (cnt 72 (fun k => mp k == 2))
    | 7 => nI (cnt 72 (rtP kd hr mp h))
    | 8 => nI (cnt 72 (fun k => mp k == 1)) + nI (cnt 72 (fun k => mp k == 2)) - nI (cnt 72 (rtP kd hr mp h))
    | 9 => lo
    | 10 => ac
    | 11 => bu
    | _ => sl
theorem x146 (R : RMx w g m kq hq ca ba wl ed wad kd hr cp br n ws th mi nd dr me di re) (hJ : gJ w g) (hk : kdok kd) (hh : hrok hr) (hm : mi ≤ 3000) (hi : i < n) (hy : ws i = (ho, po, ch, lo, ac, bu, sl, may, mp)) (hp : mpo mp) {k : Nat} (hq : k ≤ 12) :
    ∃ w', am_x 146 [.ref m, .ref (wad i), .int (nI k)] w = some (.inl (some (.int (ofwR kd hr (mi / 60 % 24) (ws i) k))), w') ∧ ext w w' 1 13 := by
  have h := rm_get R hi hy
  have hX : ∀ M, Mkv (nwr w 0 13 M) g i (wad i) (ho, po, ch, lo, ac, bu, sl, may, mp) := fun M => h.ext hJ nwr_ext
  have z : ∀ M, am_x 37 [.ref (wad i)] (nwr w 0 13 M) = some (.inl (some (.int (nI (cnt 144 may)))), nwr w 0 13 M) := fun M => x37 (hX M)
  have kf : ∀ M, am_kf (nwr w 0 13 M) (wad i) 10 = some () := fun M => mk_kf (hX M)
  have hl := cnt_le may 144
  have e0 : (nI (cnt 144 may) = nI 1) = (cnt 144 may = 1) := nI_eqS (by omega) (by decide)
  obtain ⟨ma, mq, h1, h2, h3, g1, g2, g3⟩ := h
  have c1 : ∀ M, cO (nwr w 0 13 M) (wad i) 10 (oK po ho ch ma mq lo ac bu sl) := fun M => cO_of h1 (nwr_ext.1 _ (lt_J hJ g1 (by omega)))
  have gf : ∀ M k, am_gf (nwr w 0 13 M) (wad i) 10 k = (oK po ho ch ma mq lo ac bu sl)[k]? := fun M k => gfc (c1 M)
  have na : am_na w 0 (nI 13) = some (nwr w 0 13 (fun _ => 0)) := na_nwr (by decide) rfl
  have rd : ∀ M, am_ri 0 (nwr w 0 13 M) w.2.1 (nI k) = some (M k) := fun M => ric (nwr_at (w := w) (t := 0) (n := 13) (M := M)) (i := k) rfl (by omega) (by decide)
  have cell : ∀ c, c < 36 → am_run 146 11 [some (.ref m), some (.ref (wad i)), some (.int (nI k)), some (.int (nI (cnt (2 * c) (fun k => mp k == 1)))), some (.int (nI (cnt (2 * c) (fun k => mp k == 2)))), some (.int (nI (cnt (2 * c) (rtP kd hr mp (mi / 60 % 24))))), some (.int (nI c)), none, none] [] w = am_run 146 11 [some (.ref m), some (.ref (wad i)), some (.int (nI k)), some (.int (nI (cnt (2 * (c + 1)) (fun k => mp k == 1)))), some (.int (nI (cnt (2 * (c + 1)) (fun k => mp k == 2)))), some (.int (nI (cnt (2 * (c + 1)) (rtP kd hr mp (mi / 60 % 24))))), some (.int (nI (c + 1))), none, none] [] w := by
    intro c hc
    rw [bk146_11, if_neg (by rw [nI_leS (by decide) (by omega)]; omega), bk146_18]
    have s0 := it146 R hk hh hm hi hy hp (c := c) (j := 0) hc (by decide) (nI k)
    have s1 := it146 R hk hh hm hi hy hp (c := c) (j := 1) hc (by decide) (nI k)
    refine Eq.trans s0 (Eq.trans s1 ?_)
    rw [bk146_21, if_pos (by rw [nI_leS (by decide) (by decide)]; decide), bk146_112, nI_add]
    rfl
  have go : ∀ c, c ≤ 36 → am_run 146 11 [some (.ref m), some (.ref (wad i)), some (.int (nI k)), some (.int (nI 0)), some (.int (nI 0)), some (.int (nI 0)), some (.int (nI 0)), none, none] [] w = am_run 146 11 [some (.ref m), some (.ref (wad i)), some (.int (nI k)), some (.int (nI (cnt (2 * c) (fun k => mp k == 1)))), some (.int (nI (cnt (2 * c) (fun k => mp k == 2)))), some (.int (nI (cnt (2 * c) (rtP kd hr mp (mi / 60 % 24))))), some (.int (nI c)), none, none] [] w := by
    intro c
    induction c with
    | zero => exact fun _ => rfl
    | succ c ih => exact fun hc => (ih (by omega)).trans (cell c (by omega))
  rw [bx146, bk146_0, go 36 (Nat.le_refl 36), bk146_11, if_pos (by rw [nI_leS (by decide) (by decide)]; decide)]
  show ∃ w', am_run 146 118 [none, some (.ref (wad i)), some (.int (nI k)), some (.int (nI (cnt 72 (fun k => mp k == 1)))), some (.int (nI (cnt 72 (fun k => mp k == 2)))), some (.int (nI (cnt 72 (rtP kd hr mp (mi / 60 % 24))))), none, none, none] [] w = _ ∧ _
  have tail : ∀ A B C : Int32, ∃ M : Nat → Int32, (∀ x, x ≤ 12 → M x = (match x with | 0 => nI po | 1 => nI ho | 2 => nI ch | 3 => nI (cnt 144 may) | 4 => (if cnt 144 may = 1 then nI 1 else nI 0) | 5 => A | 6 => B | 7 => C | 8 => A + B - C | 9 => lo | 10 => ac | 11 => bu | _ => sl : Int32)) ∧ am_run 146 118 [none, some (.ref (wad i)), some (.int (nI k)), some (.int A), some (.int B), some (.int C), none, none, none] [] w = some (.inl (some (.int (M k))), nwr w 0 13 M) := by
    intro A B C
    by_cases e : cnt 144 may = 1
    · simp only [if_pos e]
      refine ⟨upd (upd (upd (upd (upd (upd (upd (upd (upd (upd (upd (upd (upd (fun _ => 0) 0 (nI po)) 1 (nI ho)) 2 (nI ch)) 3 (nI (cnt 144 may))) 4 (nI 1)) 5 A) 6 B) 7 C) 8 (A + B - C)) 9 lo) 10 ac) 11 bu) 12 sl, ?_, ?_⟩
      · intro x hx
        rcases (show x = 0 ∨ x = 1 ∨ x = 2 ∨ x = 3 ∨ x = 4 ∨ x = 5 ∨ x = 6 ∨ x = 7 ∨ x = 8 ∨ x = 9 ∨ x = 10 ∨ x = 11 ∨ x = 12 by omega) with rfl | rfl | rfl | rfl | rfl | rfl | rfl | rfl | rfl | rfl | rfl | rfl | rfl <;> rfl
      · simp only [bk146_118, na, bk146_122, gf, oK_0, oK_1, oK_2, oK_3, oK_4, oK_5, oK_6, oK_7, oK_8, bk146_128, nwr_put, bk146_129, bk146_135, bk146_136, bk146_142, bk146_143, kf, z, bk146_149, bk146_150, bk146_156, e0, e, bk146_160, bk146_165, bk146_166, bk146_170, bk146_176, bk146_182, bk146_193, bk146_200, bk146_201, bk146_208, bk146_209, bk146_216, bk146_217, bk146_224, bk146_225, rd, bk146_231, Option.bind_some, bct_v, bct_t, otl_s, otl_n, List.cons_append, List.nil_append, List.getElem?_cons_zero, List.getElem?_cons_succ, ↓reduceIte, nI_add, nI_leS, nI_ltS, nI_eqS, nI_m1S, Nat.reduceAdd, Nat.reduceLT, Nat.reduceLeDiff, Nat.reduceMul, Nat.reduceEqDiff, not_true_eq_false, not_false_eq_true]
    · simp only [if_neg e]
      refine ⟨upd (upd (upd (upd (upd (upd (upd (upd (upd (upd (upd (upd (upd (fun _ => 0) 0 (nI po)) 1 (nI ho)) 2 (nI ch)) 3 (nI (cnt 144 may))) 4 (nI 0)) 5 A) 6 B) 7 C) 8 (A + B - C)) 9 lo) 10 ac) 11 bu) 12 sl, ?_, ?_⟩
      · intro x hx
        rcases (show x = 0 ∨ x = 1 ∨ x = 2 ∨ x = 3 ∨ x = 4 ∨ x = 5 ∨ x = 6 ∨ x = 7 ∨ x = 8 ∨ x = 9 ∨ x = 10 ∨ x = 11 ∨ x = 12 by omega) with rfl | rfl | rfl | rfl | rfl | rfl | rfl | rfl | rfl | rfl | rfl | rfl | rfl <;> rfl
      · simp only [bk146_118, na, bk146_122, gf, oK_0, oK_1, oK_2, oK_3, oK_4, oK_5, oK_6, oK_7, oK_8, bk146_128, nwr_put, bk146_129, bk146_135, bk146_136, bk146_142, bk146_143, kf, z, bk146_149, bk146_150, bk146_156, e0, e, bk146_164, bk146_165, bk146_166, bk146_170, bk146_176, bk146_182, bk146_193, bk146_200, bk146_201, bk146_208, bk146_209, bk146_216, bk146_217, bk146_224, bk146_225, rd, bk146_231, Option.bind_some, bct_v, bct_t, otl_s, otl_n, List.cons_append, List.nil_append, List.getElem?_cons_zero, List.getElem?_cons_succ, ↓reduceIte, nI_add, nI_leS, nI_ltS, nI_eqS, nI_m1S, Nat.reduceAdd, Nat.reduceLT, Nat.reduceLeDiff, Nat.reduceMul, Nat.reduceEqDiff, not_true_eq_false, not_false_eq_true]
  obtain ⟨M, m1, m2⟩ := tail (nI (cnt 72 (fun k => mp k == 1))) (nI (cnt 72 (fun k => mp k == 2))) (nI (cnt 72 (rtP kd hr mp (mi / 60 % 24))))
  refine ⟨nwr w 0 13 M, m2.trans ?_, nwr_ext⟩
  rw [m1 k hq, hy]
  rfl
end ASK
end
section
/-! THE REFERENCE: what is asked of it: the floor and the house. Mine. -/
def wiP (k : Nat) : Bool := (nb (k / 2) (k % 2 + 1)).isSome
theorem flt_or : ∀ a b c : Bool, ((nI 0 ||| (if a = true then bj_ishl (nI 1) (nI 0) else nI 0)) ||| (if b = true then bj_ishl (nI 1) (nI 1) else nI 0)) ||| (if c = true then bj_ishl (nI 1) (nI 2) else nI 0) = nI (flt3 a b c) := by decide +kernel
section AS2
variable {w : am_Wd} {g : Nat → Nat} {m kq hq ca ba wl ed : Nat} {wad : Nat → Nat} {kd hr : Nat → Nat} {cp br : Nat → Bool} {n : Nat} {ws : Nat → sW} {th mi nd : Nat} {dr me di re : Int32}
theorem it210 (R : RMx w g m kq hq ca ba wl ed wad kd hr cp br n ws th mi nd dr me di re) (hk : kdok kd) (hh : hrok hr) (hm : mi ≤ 3000) {c s k : Nat} (hc : c < 36) (hs : s < 4) (hk3 : k < 3) (A : Int32) :
    am_run 210 5 [some (.ref m), some (.int (nI c)), some (.int (nI s)), some (.int A), some (.int (nI k))] [] w = am_run 210 5 [some (.ref m), some (.int (nI c)), some (.int (nI s)), some (.int (A ||| (if clsS kd hr (mi / 60 % 24) c ((s + 3 + k) % 4) = true then bj_ishl (nI 1) (nI k) else nI 0))), some (.int (nI (k + 1)))] [] w := by
  have z := x173 R hk hh hm (c := c) (s := (s + 3 + k) % 4) hc (by omega)
  rw [bk210_5, if_neg (by rw [nI_leS (by decide) (by omega)]; omega)]
  simp only [bk210_11, rm_kf R, nI_add, nI_remS (show s + 3 + k < 2147483648 by omega) (show 0 < 4 by decide) (show 4 < 2147483648 by decide), z, bk210_25, b2i_0, Option.bind_some, bct_v, bct_t, otl_s, otl_n, List.cons_append, List.nil_append, List.getElem?_cons_zero, List.getElem?_cons_succ, ↓reduceIte]
  cases clsS kd hr (mi / 60 % 24) c ((s + 3 + k) % 4) with
  | true => rw [if_neg (fun q => nomatch q), bk210_28, bk210_36, nI_add, if_pos rfl]
  | false => rw [if_pos rfl, bk210_35, bk210_36, nI_add, if_neg (fun q => nomatch q)]
theorem x210 (R : RMx w g m kq hq ca ba wl ed wad kd hr cp br n ws th mi nd dr me di re) (hk : kdok kd) (hh : hrok hr) (hm : mi ≤ 3000) {c s : Nat} (hc : c < 36) (hs : s < 4) : am_x 210 [.ref m, .int (nI c), .int (nI s)] w = some (.inl (some (.int (nI (fltS kd hr (mi / 60 % 24) c s)))), w) := by
  rw [bx210, bk210_0, it210 R hk hh hm hc hs (k := 0) (by decide), it210 R hk hh hm hc hs (k := 1) (by decide), it210 R hk hh hm hc hs (k := 2) (by decide), bk210_5, if_pos (by rw [nI_leS (by decide) (by decide)]; decide), bk210_44, flt_or]
  rfl
theorem it177 (R : RMx w g m kq hq ca ba wl ed wad kd hr cp br n ws th mi nd dr me di re) (hk : kdok kd) {q c j : Nat} (hq : q < 3) (hc : c < 36) (hj : j < 2) :
    am_run 177 13 [some (.ref m), some (.int (nI q)), some (.int (nI (cnt (2 * c + j) (fun k => wiP k && kd k == q)))), some (.int (nI c)), some (.int (nI j))] [] w = am_run 177 13 [some (.ref m), some (.int (nI q)), some (.int (nI (cnt (2 * c + j + 1) (fun k => wiP k && kd k == q)))), some (.int (nI c)), some (.int (nI (j + 1)))] [] w := by
  have z := x143 (w := w) hc hj
  have r0 := R.2.1.row hc
  have r1 := R.2.1.at hc hj
  have k2 := hk (2 * c + j)
  have e0 : (nI (kd (2 * c + j)) = nI q) = (kd (2 * c + j) = q) := nI_eqS (by omega) (by omega)
  have ew : wiP (2 * c + j) = (nb c (j + 1)).isSome := by
    unfold wiP
    rw [show (2 * c + j) / 2 = c by omega, show (2 * c + j) % 2 = j by omega]
  rw [bk177_13, if_neg (by rw [nI_leS (by decide) (by omega)]; omega)]
  cases e : (nb c (j + 1)).isSome with
  | false =>
    rw [e] at z
    rw [cnt_s (p := fun k => wiP k && kd k == q) (b := false) (by show (wiP (2 * c + j) && _) = false; rw [ew, e]; rfl)]
    simp only [bk177_19, z, bk177_26, b2i_0, bk177_46, bk177_47, nI_add, Option.bind_some, bct_v, bct_t, otl_s, otl_n, List.cons_append, List.nil_append, List.getElem?_cons_zero, List.getElem?_cons_succ, ↓reduceIte]
    rfl
  | true =>
    rw [e] at z
    simp only [bk177_19, z, bk177_26, b2i_0, reduceCtorEq, bk177_29, gfc R.1, oM_0, oM_1, oM_2, oM_3, oM_4, oM_5, oM_6, oM_7, oM_8, oM_9, oM_10, oM_11, bk177_33, r0, bk177_35, r1, bk177_38, e0, Option.bind_some, bct_v, bct_t, otl_s, otl_n, List.cons_append, List.nil_append, List.getElem?_cons_zero, List.getElem?_cons_succ, ↓reduceIte]
    by_cases y : kd (2 * c + j) = q
    · rw [cnt_s (p := fun k => wiP k && kd k == q) (b := true) (by show (wiP (2 * c + j) && kd (2 * c + j) == q) = true; rw [ew, e, y]; simp)]
      rw [if_neg (fun x => x y), bk177_42, bk177_47, nI_add, nI_add]
      rfl
    · rw [cnt_s (p := fun k => wiP k && kd k == q) (b := false) (by show (wiP (2 * c + j) && kd (2 * c + j) == q) = false; rw [ew, e]; simpa using y)]
      rw [if_pos y, bk177_46, bk177_47, nI_add, nI_add]
      rfl
theorem x177 (R : RMx w g m kq hq ca ba wl ed wad kd hr cp br n ws th mi nd dr me di re) (hk : kdok kd) {q : Nat} (hq : q < 3) : am_x 177 [.ref m, .int (nI q)] w = some (.inl (some (.int (nI (cnt 72 (fun k => wiP k && kd k == q))))), w) := by
  have cell : ∀ c, c < 36 → am_run 177 4 [some (.ref m), some (.int (nI q)), some (.int (nI (cnt (2 * c) (fun k => wiP k && kd k == q)))), some (.int (nI c)), none] [] w = am_run 177 4 [some (.ref m), some (.int (nI q)), some (.int (nI (cnt (2 * (c + 1)) (fun k => wiP k && kd k == q)))), some (.int (nI (c + 1))), none] [] w := by
    intro c hc
    rw [bk177_4, if_neg (by rw [nI_leS (by decide) (by omega)]; omega), bk177_10]
    refine Eq.trans (it177 R hk hq (j := 0) hc (by decide)) (Eq.trans (it177 R hk hq (j := 1) hc (by decide)) ?_)
    rw [bk177_13, if_pos (by rw [nI_leS (by decide) (by decide)]; decide), bk177_55, nI_add]
    rfl
  have go : ∀ c, c ≤ 36 → am_run 177 4 [some (.ref m), some (.int (nI q)), some (.int (nI 0)), some (.int (nI 0)), none] [] w = am_run 177 4 [some (.ref m), some (.int (nI q)), some (.int (nI (cnt (2 * c) (fun k => wiP k && kd k == q)))), some (.int (nI c)), none] [] w := by
    intro c
    induction c with
    | zero => exact fun _ => rfl
    | succ c ih => exact fun hc => (ih (by omega)).trans (cell c (by omega))
  rw [bx177, bk177_0, go 36 (Nat.le_refl 36), bk177_4, if_pos (by rw [nI_leS (by decide) (by decide)]; decide), bk177_61]
theorem x181 (R : RMx w g m kq hq ca ba wl ed wad kd hr cp br n ws th mi nd dr me di re) (hJ : gJ w g) (hn : n ≤ 3) (hk : kdok kd) (hh : hrok hr) (hm : mi ≤ 3000) {c s k : Nat} (hc : c < 36) (hs : s < 4) (hk2 : k ≤ 2) :
    ∃ w', am_x 181 [.ref m, .int (nI c), .int (nI s), .int (nI k)] w = some (.inl (some (.int (edgS kd hr mi c s k))), w') ∧ ext w w' 1 3 := by
  have y := x100 (w := w) hc hs
  cases e : nb c s with
  | none =>
    rw [e] at y
    have y' : am_x 100 [.int (nI c), .int (nI s)] w = some (.inl (some (.int (-1))), w) := y
    refine ⟨w, ?_, ext_wk ext_rf (by decide) (by decide)⟩
    rcases (show k = 0 ∨ k = 1 ∨ k = 2 by omega) with rfl | rfl | rfl
    · simp only [bk181_0, bk181_5, bk181_20, bk181_9, bk181_25, bk181_18, bk181_14, bk181_30, bk181_19, bk181_36, bk181_39, bk181_43, bk181_44, bk181_45, bk181_54, bk181_57, bk181_64, bk181_60, bk181_65, bk181_66, bk181_72, bk181_75, bk181_79, bk181_80, bk181_81, bk181_87, bx181, y', not_true_eq_false, nI_leS (show 2 < 2147483648 by decide) (show 0 < 2147483648 by decide), show ¬ 2 ≤ 0 from by decide, Option.bind_some, bct_v, bct_t, otl_s, otl_n, List.cons_append, List.nil_append, List.getElem?_cons_zero, List.getElem?_cons_succ, ↓reduceIte]
      unfold edgS kndS
      simp only [e]
    · simp only [bk181_0, bk181_5, bk181_20, bk181_9, bk181_25, bk181_18, bk181_14, bk181_30, bk181_19, bk181_36, bk181_39, bk181_43, bk181_44, bk181_45, bk181_54, bk181_57, bk181_64, bk181_60, bk181_65, bk181_66, bk181_72, bk181_75, bk181_79, bk181_80, bk181_81, bk181_87, bx181, y', not_true_eq_false, nI_leS (show 2 < 2147483648 by decide) (show 1 < 2147483648 by decide), show ¬ 2 ≤ 1 from by decide, Option.bind_some, bct_v, bct_t, otl_s, otl_n, List.cons_append, List.nil_append, List.getElem?_cons_zero, List.getElem?_cons_succ, ↓reduceIte]
      unfold edgS clsS
      simp only [e]
      rfl
    · simp only [bk181_0, bk181_5, bk181_20, bk181_9, bk181_25, bk181_18, bk181_14, bk181_30, bk181_19, bk181_36, bk181_39, bk181_43, bk181_44, bk181_45, bk181_54, bk181_57, bk181_64, bk181_60, bk181_65, bk181_66, bk181_72, bk181_75, bk181_79, bk181_80, bk181_81, bk181_87, bx181, y', not_true_eq_false, nI_leS (show 2 < 2147483648 by decide) (show 2 < 2147483648 by decide), show 2 ≤ 2 from by decide, Option.bind_some, bct_v, bct_t, otl_s, otl_n, List.cons_append, List.nil_append, List.getElem?_cons_zero, List.getElem?_cons_succ, ↓reduceIte]
      unfold edgS hrsS
      simp only [e]
  | some d =>
    have hd := nb_lt hc hs e
    rw [e] at y
    have y' : am_x 100 [.int (nI c), .int (nI s)] w = some (.inl (some (.int (nI d))), w) := y
    have RX : ∀ M, RMx (nwr w 0 3 M) g m kq hq ca ba wl ed wad kd hr cp br n ws th mi nd dr me di re := fun M => rm_ext R hn hJ nwr_ext
    have hkp := kp_lt hc hs e
    have hw := way_lt (s := s)
    have gf : ∀ M k, am_gf (nwr w 0 3 M) m 11 k = (oM th mi nd dr me di re kq hq ca ba wl)[k]? := fun M k => gfc (RX M).1
    have kf : ∀ M, am_kf (nwr w 0 3 M) m 11 = some () := fun M => rm_kf (RX M)
    have r0 := fun M => (RX M).2.1.row hkp
    have r1 := fun M => (RX M).2.1.at hkp hw
    have r2 := fun M => (RX M).2.2.1.row hkp
    have r3 := fun M => (RX M).2.2.1.at hkp hw
    have z := fun M => x101 (RX M) hk hh hm hkp hw
    have w41 := fun M => x41 (w := nwr w 0 3 M) hs
    rw [← plc_at e] at r1 r3 z
    have na : am_na w 0 (nI 3) = some (nwr w 0 3 (fun _ => 0)) := na_nwr (by decide) rfl
    have rd : ∀ M, am_ri 0 (nwr w 0 3 M) w.2.1 (nI k) = some (M k) := fun M => ric (nwr_at (w := w) (t := 0) (n := 3) (M := M)) (i := k) rfl (by omega) (by decide)
    have fin : ∃ M : Nat → Int32, M 0 = nI (kd (plc c s)) ∧ M 1 = b2i (clE (kd (plc c s)) (hr (plc c s)) (mi / 60 % 24)) ∧ M 2 = nI (hr (plc c s)) ∧ am_x 181 [.ref m, .int (nI c), .int (nI s), .int (nI k)] w = some (.inl (some (.int (M k))), nwr w 0 3 M) := by
      refine ⟨upd (upd (upd (fun _ => 0) 0 (nI (kd (plc c s)))) 1 (b2i (clE (kd (plc c s)) (hr (plc c s)) (mi / 60 % 24)))) 2 (nI (hr (plc c s))), rfl, rfl, rfl, ?_⟩
      cases q : clE (kd (plc c s)) (hr (plc c s)) (mi / 60 % 24) with
      | true =>
        rw [q] at z
        simp only [bk181_0, bk181_5, bk181_20, bk181_9, bk181_25, bk181_18, bk181_14, bk181_30, bk181_19, bk181_36, bk181_39, bk181_43, bk181_44, bk181_45, bk181_54, bk181_57, bk181_64, bk181_60, bk181_65, bk181_66, bk181_72, bk181_75, bk181_79, bk181_80, bk181_81, bk181_87, bx181, y', nI_m1S (show d < 2147483648 by omega), x142 hc hs e, na, gf, oM_0, oM_1, oM_2, oM_3, oM_4, oM_5, oM_6, oM_7, oM_8, oM_9, oM_10, oM_11, r0, r1, r2, r3, w41, z, kf, b2i_0, reduceCtorEq, nwr_put, rd, b2i_t, Option.bind_some, bct_v, bct_t, otl_s, otl_n, List.cons_append, List.nil_append, List.getElem?_cons_zero, List.getElem?_cons_succ, ↓reduceIte, nI_add, nI_leS, nI_ltS, nI_eqS, nI_m1S, Nat.reduceAdd, Nat.reduceLT, Nat.reduceLeDiff, Nat.reduceMul, Nat.reduceEqDiff, not_true_eq_false, not_false_eq_true]
      | false =>
        rw [q] at z
        simp only [bk181_0, bk181_5, bk181_20, bk181_9, bk181_25, bk181_18, bk181_14, bk181_30, bk181_19, bk181_36, bk181_39, bk181_43, bk181_44, bk181_45, bk181_54, bk181_57, bk181_64, bk181_60, bk181_65, bk181_66, bk181_72, bk181_75, bk181_79, bk181_80, bk181_81, bk181_87, bx181, y', nI_m1S (show d < 2147483648 by omega), x142 hc hs e, na, gf, oM_0, oM_1, oM_2, oM_3, oM_4, oM_5, oM_6, oM_7, oM_8, oM_9, oM_10, oM_11, r0, r1, r2, r3, w41, z, kf, b2i_0, nwr_put, rd, b2i_f, Option.bind_some, bct_v, bct_t, otl_s, otl_n, List.cons_append, List.nil_append, List.getElem?_cons_zero, List.getElem?_cons_succ, ↓reduceIte, nI_add, nI_leS, nI_ltS, nI_eqS, nI_m1S, Nat.reduceAdd, Nat.reduceLT, Nat.reduceLeDiff, Nat.reduceMul, Nat.reduceEqDiff, not_true_eq_false, not_false_eq_true]
    obtain ⟨M, m0, m1, m2, m3⟩ := fin
    refine ⟨nwr w 0 3 M, m3.trans ?_, nwr_ext⟩
    rcases (show k = 0 ∨ k = 1 ∨ k = 2 by omega) with rfl | rfl | rfl
    · rw [m0]
      unfold edgS kndS
      simp only [e]
    · rw [m1]
      unfold edgS clsS
      simp only [e]
    · rw [m2]
      unfold edgS hrsS
      simp only [e]
end AS2
end
section
/-! THE REFERENCE: what is asked of the house. Mine. -/
def hsR (kd hr : Nat → Nat) (cp br : Nat → Bool) (n mi : Nat) (dr me di re : Int32) (k : Nat) : Int32 := match k with
  | 0 => nI mi
  | 1 => nI (mi / 60 % 24)
  | 2 => nI (cnt 72 (fun k => wiP k && kd k == 1))
  | 3 => nI (cnt 72 (fun k => wiP k && kd k == 2))
  | 4 => nI (cnt 72 (fun k => kd k == 2 && (hr k).testBit (mi / 60 % 24)))
  | 5 => nI (cnt 36 cp)
  | 6 => nI (cnt 36 br)
  | 7 => nI n
  | 8 => dr
  | 9 => me
  | 10 => di
  | _ => re
section HOU
variable {w : am_Wd} {g : Nat → Nat} {m kq hq ca ba wl ed : Nat} {wad : Nat → Nat} {kd hr : Nat → Nat} {cp br : Nat → Bool} {n : Nat} {ws : Nat → sW} {th mi nd : Nat} {dr me di re : Int32}
theorem it213 (R : RMx w g m kq hq ca ba wl ed wad kd hr cp br n ws th mi nd dr me di re) (hk : kdok kd) (hh : hrok hr) (hm : mi ≤ 3000) {c j : Nat} (hc : c < 36) (hj : j < 2) (q : Int32) :
    am_run 213 13 [some (.ref m), some (.int q), some (.int (nI (cnt (2 * c + j) (fun k => kd k == 2 && (hr k).testBit (mi / 60 % 24))))), some (.int (nI c)), some (.int (nI j))] [] w = am_run 213 13 [some (.ref m), some (.int q), some (.int (nI (cnt (2 * c + j + 1) (fun k => kd k == 2 && (hr k).testBit (mi / 60 % 24))))), some (.int (nI c)), some (.int (nI (j + 1)))] [] w := by
  have z := x42 R hh hm hc hj
  have r0 := R.2.1.row hc
  have r1 := R.2.1.at hc hj
  have k2 := hk (2 * c + j)
  have e0 : (nI (kd (2 * c + j)) = nI 2) = (kd (2 * c + j) = 2) := nI_eqS (by omega) (by decide)
  rw [bk213_13, if_neg (by rw [nI_leS (by decide) (by omega)]; omega)]
  simp only [bk213_19, gfc R.1, oM_0, oM_1, oM_2, oM_3, oM_4, oM_5, oM_6, oM_7, oM_8, oM_9, oM_10, oM_11, bk213_24, r0, bk213_26, r1, bk213_29, e0, Option.bind_some, bct_v, bct_t, otl_s, otl_n, List.cons_append, List.nil_append, List.getElem?_cons_zero, List.getElem?_cons_succ, ↓reduceIte]
  by_cases y : kd (2 * c + j) = 2
  · rw [if_neg (fun x => x y)]
    simp only [bk213_33, rm_kf R, z, bk213_40, b2i_0, Option.bind_some, bct_v, bct_t, otl_s, otl_n, List.cons_append, List.nil_append, List.getElem?_cons_zero, List.getElem?_cons_succ, ↓reduceIte]
    cases e : (hr (2 * c + j)).testBit (mi / 60 % 24) with
    | true =>
      rw [cnt_s (p := fun k => kd k == 2 && (hr k).testBit (mi / 60 % 24)) (b := true) (by show (kd (2 * c + j) == 2 && (hr (2 * c + j)).testBit (mi / 60 % 24)) = true; rw [e, y]; rfl)]
      rw [if_neg (fun x => nomatch x), bk213_43, bk213_48, nI_add, nI_add]
      rfl
    | false =>
      rw [cnt_s (p := fun k => kd k == 2 && (hr k).testBit (mi / 60 % 24)) (b := false) (by show (kd (2 * c + j) == 2 && (hr (2 * c + j)).testBit (mi / 60 % 24)) = false; rw [e, y]; rfl)]
      rw [if_pos rfl, bk213_47, bk213_48, nI_add, nI_add]
      rfl
  · rw [cnt_s (p := fun k => kd k == 2 && (hr k).testBit (mi / 60 % 24)) (b := false) (by show (kd (2 * c + j) == 2 && (hr (2 * c + j)).testBit (mi / 60 % 24)) = false; rw [show (kd (2 * c + j) == 2) = false from by simpa using y]; rfl)]
    rw [if_pos y, bk213_47, bk213_48, nI_add, nI_add]
    rfl
theorem x213 (R : RMx w g m kq hq ca ba wl ed wad kd hr cp br n ws th mi nd dr me di re) (hJ : gJ w g) (hn : n ≤ 3) (hk : kdok kd) (hh : hrok hr) (hm : mi ≤ 3000) {k : Nat} (hk2 : k ≤ 11) :
    ∃ w', am_x 213 [.ref m, .int (nI k)] w = some (.inl (some (.int (hsR kd hr cp br n mi dr me di re k))), w') ∧ ext w w' 1 12 := by
  have cell : ∀ c, c < 36 → am_run 213 4 [some (.ref m), some (.int (nI k)), some (.int (nI (cnt (2 * c) (fun k => kd k == 2 && (hr k).testBit (mi / 60 % 24))))), some (.int (nI c)), none] [] w = am_run 213 4 [some (.ref m), some (.int (nI k)), some (.int (nI (cnt (2 * (c + 1)) (fun k => kd k == 2 && (hr k).testBit (mi / 60 % 24))))), some (.int (nI (c + 1))), none] [] w := by
    intro c hc
    rw [bk213_4, if_neg (by rw [nI_leS (by decide) (by omega)]; omega), bk213_10]
    refine Eq.trans (it213 R hk hh hm (j := 0) hc (by decide) (nI k)) (Eq.trans (it213 R hk hh hm (j := 1) hc (by decide) (nI k)) ?_)
    rw [bk213_13, if_pos (by rw [nI_leS (by decide) (by decide)]; decide), bk213_56, nI_add]
    rfl
  have go : ∀ c, c ≤ 36 → am_run 213 4 [some (.ref m), some (.int (nI k)), some (.int (nI 0)), some (.int (nI 0)), none] [] w = am_run 213 4 [some (.ref m), some (.int (nI k)), some (.int (nI (cnt (2 * c) (fun k => kd k == 2 && (hr k).testBit (mi / 60 % 24))))), some (.int (nI c)), none] [] w := by
    intro c
    induction c with
    | zero => exact fun _ => rfl
    | succ c ih => exact fun hc => (ih (by omega)).trans (cell c (by omega))
  rw [bx213, bk213_0, go 36 (Nat.le_refl 36), bk213_4, if_pos (by rw [nI_leS (by decide) (by decide)]; decide)]
  have RX : ∀ M, RMx (nwr w 0 12 M) g m kq hq ca ba wl ed wad kd hr cp br n ws th mi nd dr me di re := fun M => rm_ext R hn hJ nwr_ext
  have gf : ∀ M k, am_gf (nwr w 0 12 M) m 11 k = (oM th mi nd dr me di re kq hq ca ba wl)[k]? := fun M k => gfc (RX M).1
  have kf : ∀ M, am_kf (nwr w 0 12 M) m 11 = some () := fun M => rm_kf (RX M)
  have kl : ∀ M, am_kf (nwr w 0 12 M) wl 3 = some () := fun M => kfc (RX M).2.2.2.2.2.1.1
  have z1 : ∀ M, am_x 177 [.ref m, .int (nI 1)] (nwr w 0 12 M) = _ := fun M => x177 (RX M) hk (q := 1) (by decide)
  have z2 : ∀ M, am_x 177 [.ref m, .int (nI 2)] (nwr w 0 12 M) = _ := fun M => x177 (RX M) hk (q := 2) (by decide)
  have zc : ∀ M, am_x 44 [.ref ca] (nwr w 0 12 M) = _ := fun M => x44 (RX M).2.2.2.1 (p := cp) (fun _ _ => rfl) (by decide)
  have zb : ∀ M, am_x 44 [.ref ba] (nwr w 0 12 M) = _ := fun M => x44 (RX M).2.2.2.2.1 (p := br) (fun _ _ => rfl) (by decide)
  have zl : ∀ M, am_x 56 [.ref wl] (nwr w 0 12 M) = _ := fun M => x56 (RX M).2.2.2.2.2.1
  have na : am_na w 0 (nI 12) = some (nwr w 0 12 (fun _ => 0)) := na_nwr (by decide) rfl
  have rd : ∀ M, am_ri 0 (nwr w 0 12 M) w.2.1 (nI k) = some (M k) := fun M => ric (nwr_at (w := w) (t := 0) (n := 12) (M := M)) (i := k) rfl (by omega) (by decide)
  have tail : ∀ O : Nat, ∃ M : Nat → Int32, (∀ x, x ≤ 11 → M x = (match x with | 0 => nI mi | 1 => nI (mi / 60 % 24) | 2 => nI (cnt 72 (fun k => wiP k && kd k == 1)) | 3 => nI (cnt 72 (fun k => wiP k && kd k == 2)) | 4 => nI O | 5 => nI (cnt 36 cp) | 6 => nI (cnt 36 br) | 7 => nI n | 8 => dr | 9 => me | 10 => di | _ => re : Int32)) ∧ am_run 213 62 [some (.ref m), some (.int (nI k)), some (.int (nI O)), none, none] [] w = some (.inl (some (.int (M k))), nwr w 0 12 M) := by
    intro O
    refine ⟨upd (upd (upd (upd (upd (upd (upd (upd (upd (upd (upd (upd (fun _ => 0) 0 (nI mi)) 1 (nI (mi / 60 % 24))) 2 (nI (cnt 72 (fun k => wiP k && kd k == 1)))) 3 (nI (cnt 72 (fun k => wiP k && kd k == 2)))) 4 (nI O)) 5 (nI (cnt 36 cp))) 6 (nI (cnt 36 br))) 7 (nI n)) 8 dr) 9 me) 10 di) 11 re, ?_, ?_⟩
    · intro x hx
      rcases (show x = 0 ∨ x = 1 ∨ x = 2 ∨ x = 3 ∨ x = 4 ∨ x = 5 ∨ x = 6 ∨ x = 7 ∨ x = 8 ∨ x = 9 ∨ x = 10 ∨ x = 11 by omega) with rfl | rfl | rfl | rfl | rfl | rfl | rfl | rfl | rfl | rfl | rfl | rfl <;> rfl
    · simp only [bk213_62, bk213_66, bk213_72, bk213_73, bk213_79, bk213_86, bk213_93, bk213_94, bk213_101, bk213_102, bk213_106, bk213_112, bk213_115, bk213_116, bk213_123, bk213_126, bk213_127, bk213_134, bk213_137, bk213_138, bk213_145, bk213_146, bk213_153, bk213_154, bk213_161, bk213_162, bk213_169, bk213_170, bk213_174, bx213, na, gf, oM_0, oM_1, oM_2, oM_3, oM_4, oM_5, oM_6, oM_7, oM_8, oM_9, oM_10, oM_11, nwr_put, kf, kl, z1, z2, zc, zb, zl, nI_divS (show mi < 2147483648 by omega) (show 0 < 60 by decide) (show 60 < 2147483648 by decide), nI_remS (show mi / 60 < 2147483648 by omega) (show 0 < 24 by decide) (show 24 < 2147483648 by decide), rd, Option.bind_some, bct_v, bct_t, otl_s, otl_n, List.cons_append, List.nil_append, List.getElem?_cons_zero, List.getElem?_cons_succ, ↓reduceIte, nI_add, nI_leS, nI_ltS, nI_eqS, nI_m1S, Nat.reduceAdd, Nat.reduceLT, Nat.reduceLeDiff, Nat.reduceMul, Nat.reduceEqDiff, not_true_eq_false, not_false_eq_true]
  obtain ⟨M, m1, m2⟩ := tail (cnt 72 (fun k => kd k == 2 && (hr k).testBit (mi / 60 % 24)))
  refine ⟨nwr w 0 12 M, Eq.trans m2 ?_, nwr_ext⟩
  rw [m1 k hk2]
  rfl
end HOU
end
section
/-! THE REFERENCE: going through the walkers; soundness. Mine. -/
def itO (c : Nat) (l : Int32) (n wl : Nat) : List Value := [.int (nI c), .int l, .int (nI n), .ref wl]
theorem itO_0 {c : Nat} {l : Int32} {n wl : Nat} : (itO c l n wl)[0]? = some (.int (nI c)) := rfl
theorem itO_1 {c : Nat} {l : Int32} {n wl : Nat} : (itO c l n wl)[1]? = some (.int l) := rfl
theorem itO_2 {c : Nat} {l : Int32} {n wl : Nat} : (itO c l n wl)[2]? = some (.int (nI n)) := rfl
theorem itO_3 {c : Nat} {l : Int32} {n wl : Nat} : (itO c l n wl)[3]? = some (.ref wl) := rfl
def sndR (kd hr : Nat → Nat) (h : Nat) (y : sW) : Bool := decide (¬ y.2.2.2.2.1 < y.2.2.2.2.2.1 + y.2.2.2.2.2.2.1) && decide (ofwR kd hr h y 7 + ofwR kd hr h y 8 = ofwR kd hr h y 5 + ofwR kd hr h y 6)
section SND
variable {w : am_Wd} {g : Nat → Nat} {m kq hq ca ba wl ed : Nat} {wad : Nat → Nat} {kd hr : Nat → Nat} {cp br : Nat → Bool} {n : Nat} {ws : Nat → sW} {th mi nd : Nat} {dr me di re : Int32}
theorem x105 (h : Lst w g wl ed n wad) (hl : wl < w.2.1) : ∃ w', am_x 105 [.ref wl] w = some (.inl (some (.ref w.2.1)), w') ∧ ext w w' 1 4 ∧ w.2.1 < w'.2.1 ∧ cO w' w.2.1 2 (itO 0 (-1) n wl) := by
  have l1 : cO (am_nw w (.inr (2, am_df 2 4)) 4) wl 3 [.int (nI n), .ref ed, .int (nI n)] := cO_of h.1 (nw_n (by omega))
  have q0 : cO (am_nw w (.inr (2, am_df 2 4)) 4) w.2.1 2 (am_df 2 4) := nw_s
  have p0 : ∀ fs', am_pt (am_nw w (.inr (2, am_df 2 4)) 4) w.2.1 (.inr (2, fs')) = am_pt (am_nw w (.inr (2, am_df 2 4)) 4) w.2.1 (.inr (2, fs')) := fun _ => rfl
  have step : ∀ fs, cO (am_pt (am_nw w (.inr (2, am_df 2 4)) 4) w.2.1 (.inr (2, fs))) w.2.1 2 fs := fun fs => pt_s
  have sl : ∀ fs, cO (am_pt (am_nw w (.inr (2, am_df 2 4)) 4) w.2.1 (.inr (2, fs))) wl 3 [.int (nI n), .ref ed, .int (nI n)] := fun fs => cO_of l1 (pt_n (by omega))
  have f1 : am_pf (am_nw w (.inr (2, am_df 2 4)) 4) w.2.1 2 3 (.ref wl) = some (am_pt (am_nw w (.inr (2, am_df 2 4)) 4) w.2.1 (.inr (2, [.int (nI 0), .int (nI 0), .int (nI 0), .ref wl]))) := pfc q0 (by show 3 < 4; decide) (by decide)
  have f2 : am_pf (am_pt (am_nw w (.inr (2, am_df 2 4)) 4) w.2.1 (.inr (2, [.int (nI 0), .int (nI 0), .int (nI 0), .ref wl]))) w.2.1 2 1 (.int (-1)) = some (am_pt (am_nw w (.inr (2, am_df 2 4)) 4) w.2.1 (.inr (2, [.int (nI 0), .int (-1), .int (nI 0), .ref wl]))) := by
    rw [pfc (step _) (by show 1 < 4; decide) (by decide), pt_pt]
    rfl
  have f3 : am_pf (am_pt (am_nw w (.inr (2, am_df 2 4)) 4) w.2.1 (.inr (2, [.int (nI 0), .int (-1), .int (nI 0), .ref wl]))) w.2.1 2 2 (.int (nI n)) = some (am_pt (am_nw w (.inr (2, am_df 2 4)) 4) w.2.1 (.inr (2, itO 0 (-1) n wl))) := by
    rw [pfc (step _) (by show 2 < 4; decide) (by decide), pt_pt]
    rfl
  refine ⟨am_pt (am_nw w (.inr (2, am_df 2 4)) 4) w.2.1 (.inr (2, itO 0 (-1) n wl)), ?_, ext_pt ext_nw (Nat.le_refl _), Nat.lt_succ_self _, pt_s⟩
  have g3 : am_gf (am_pt (am_nw w (.inr (2, am_df 2 4)) 4) w.2.1 (.inr (2, [.int (nI 0), .int (-1), .int (nI 0), .ref wl]))) w.2.1 2 3 = some (.ref wl) := gfc (step _)
  have g0 : am_gf (am_pt (am_nw w (.inr (2, am_df 2 4)) 4) w.2.1 (.inr (2, [.int (nI 0), .int (-1), .int (nI 0), .ref wl]))) wl 3 0 = some (.int (nI n)) := gfc (sl _)
  simp only [bx105, bk105_0, bk105_3, bx53, bk53_0, f1, bk53_5, f2, bk53_14, g3, bk53_19, g0, bk53_22, f3, bk53_25, bk105_8, Option.bind_some, bct_v, bct_t, otl_s, otl_n, List.cons_append, List.nil_append, List.getElem?_cons_zero, List.getElem?_cons_succ, ↓reduceIte]
theorem x52 {it c : Nat} {l : Int32} (hi : cO w it 2 (itO c l n wl)) (h : Lst w g wl ed n wad) (hn : n ≤ 3) (hc : c ≤ n) : am_x 52 [.ref it] w = some (.inl (some (.int (b2i (decide (c < n))))), w) := by
  simp only [bx52, bk52_0, gfc hi, itO_0, bk52_4, itO_3, bk52_8, gfc h.1, bk52_11, nI_eqS (show c < 2147483648 by omega) (show n < 2147483648 by omega), Option.bind_some, bct_v, bct_t, otl_s, otl_n, List.cons_append, List.nil_append, List.getElem?_cons_zero, List.getElem?_cons_succ, ↓reduceIte]
  by_cases q : c = n
  · rw [if_pos q, bk52_18, bk52_19 (by rfl), decide_eq_false (by omega)]; rfl
  · rw [if_neg q, bk52_14, bk52_19 (by rfl), decide_eq_true (by omega)]; rfl
theorem x103 {it c : Nat} {l : Int32} (hi : cO w it 2 (itO c l n wl)) (h : Lst w g wl ed n wad) (hn : n ≤ 3) (hc : c < n) (n1 : wl ≠ it) (n2 : ed ≠ it) : am_x 103 [.ref it] w = some (.inl (some (.ref (wad c))), am_pt w it (.inr (2, itO (c + 1) (nI c) n wl))) := by
  obtain ⟨h1, h2⟩ := h
  have hq : cQ w ed 5 10 (wks n wad) := by
    rcases h2 with ⟨h2, -⟩ | ⟨h2, -⟩
    · omega
    · exact h2
  have f1 : am_pf w it 2 0 (.int (nI (c + 1))) = some (am_pt w it (.inr (2, itO (c + 1) l n wl))) := pfc hi (by show 0 < 4; decide) (by decide)
  have q1 : cO (am_pt w it (.inr (2, itO (c + 1) l n wl))) it 2 (itO (c + 1) l n wl) := pt_s
  have f2 : am_pf (am_pt w it (.inr (2, itO (c + 1) l n wl))) it 2 1 (.int (nI c)) = some (am_pt w it (.inr (2, itO (c + 1) (nI c) n wl))) := by
    rw [pfc q1 (by show 1 < 4; decide) (by decide), pt_pt]
    rfl
  have hq' : cQ (am_pt w it (.inr (2, itO (c + 1) (nI c) n wl))) ed 5 10 (wks n wad) := cQ_of hq (pt_n n2)
  have r0 := rqc hq' (i := c) (Or.inr (Or.inl rfl)) (by omega) (by decide)
  rw [show wks n wad c = some (wad c) from if_pos hc] at r0
  have r0' : am_rq (am_pt w it (.inr (2, itO (c + 1) (nI c) n wl))) ed (nI c) = some (.ref (wad c)) := r0
  simp only [bx103, bk103_0, kfc hi, bx51, bk51_0, gfc hi, itO_0, itO_2, itO_3, bk51_4, gfc h1, bk51_7, bk51_11, bk51_22, bk103_4, bk103_8, bk103_14, bk103_17, nI_ltS (show c < 2147483648 by omega) (show n < 2147483648 by omega), hc, bk103_28, bk103_32, bk103_35, lenQ hq (by decide), bk103_39, nI_ltS (show c < 2147483648 by omega) (show 10 < 2147483648 by decide), show c < 10 from by omega, bk103_50, nI_add, f1, bk103_57, f2, bk103_64, r0', bk103_65, Option.bind_some, bct_v, bct_t, otl_s, otl_n, List.cons_append, List.nil_append, List.getElem?_cons_zero, List.getElem?_cons_succ, ↓reduceIte]
theorem ext_of_pt {w0 w1 : am_Wd} {k s a : Nat} {e : am_En} (h : ext w0 w1 k s) (ha : w0.2.1 ≤ a) : ext w0 (am_pt w1 a e) k s := ext_pt h ha
/-- one walker looked at -/
theorem it186 (R : RMx w g m kq hq ca ba wl ed wad kd hr cp br n ws th mi nd dr me di re) (hJ : gJ w g) (hn : n ≤ 3) (hk : kdok kd) (hh : hrok hr) (hm : mi ≤ 3000) (ho : ∀ i, i < n → okY (ws i)) {c it k s : Nat} {l : Int32} {w1 : am_Wd} (e : ext w w1 k s) (hit : w.2.1 ≤ it) (hi2 : it < w1.2.1) (hi : cO w1 it 2 (itO c l n wl)) (hc : c < n) :
    ∃ w2, ext w w2 (k + 4) (s + 52) ∧ it < w2.2.1 ∧ cO w2 it 2 (itO (c + 1) (nI c) n wl) ∧ am_run 186 8 [some (.ref m), some (.ref it), none, none] [] w1 = if sndR kd hr (mi / 60 % 24) (ws c) = true then am_run 186 8 [some (.ref m), some (.ref it), none, none] [] w2 else some (.inl (some (.int (nI 0))), w2) := by
  have R1 := rm_ext R hn hJ e
  have n1 : wl ≠ it := fun q => by have := lt_J hJ R.2.2.2.2.2.2.2.2.2.2.2.2 (by decide); omega
  have n2 : ed ≠ it := fun q => by
    have : ed < w.2.1 := by
      rcases R.2.2.2.2.2.1.2 with ⟨-, -, -, z⟩ | ⟨-, z⟩
      · exact lt_J hJ z (by decide)
      · exact lt_J hJ z (by decide)
    omega
  have z52 := x52 hi R1.2.2.2.2.2.1 hn (by omega)
  have z103 := x103 hi R1.2.2.2.2.2.1 hn hc n1 n2
  have e2 : ext w (am_pt w1 it (.inr (2, itO (c + 1) (nI c) n wl))) k s := ext_pt e hit
  have q2 : cO (am_pt w1 it (.inr (2, itO (c + 1) (nI c) n wl))) it 2 (itO (c + 1) (nI c) n wl) := pt_s
  have l2 : it < (am_pt w1 it (.inr (2, itO (c + 1) (nI c) n wl))).2.1 := hi2
  generalize am_pt w1 it (.inr (2, itO (c + 1) (nI c) n wl)) = w2 at z103 e2 q2 l2
  have R2 := rm_ext R hn hJ e2
  have hy := sW_eta (ws c)
  obtain ⟨o1, o2, o3, o4, o5⟩ := ho c hc
  have h2 := rm_get R2 hc hy
  have z37 := x37 h2
  have kfw := mk_kf h2
  have hl := cnt_le (ws c).2.2.2.2.2.2.2.1 144
  obtain ⟨ma, mq, c1, -⟩ := h2
  have a1 : am_x 39 [.int (nI (cnt 144 (ws c).2.2.2.2.2.2.2.1)), .int (nI 1), .int (nI 144)] w2 = some (.inl (some (.int (nI 1))), w2) := x39 (by decide) o5 hl
  have a2 : am_x 39 [.int (nI (ws c).2.2.1), .int (nI 0), .int (nI 500)] w2 = some (.inl (some (.int (nI 1))), w2) := x39 (by decide) (Nat.zero_le _) o3
  have a3 : am_x 39 [.int (nI (ws c).2.1), .int (nI 0), .int (nI 143)] w2 = some (.inl (some (.int (nI 1))), w2) := x39 (by decide) (Nat.zero_le _) (by omega)
  by_cases q : (ws c).2.2.2.2.1 < (ws c).2.2.2.2.2.1 + (ws c).2.2.2.2.2.2.1
  · refine ⟨w2, ext_wk e2 (by omega) (by omega), l2, q2, ?_⟩
    rw [if_neg (by unfold sndR; rw [decide_eq_false (fun x => x q)]; simp)]
    simp only [bk186_8, kfc hi, z52, decide_eq_true hc, bk186_14, b2i_0, reduceCtorEq, bk186_17, z103, bk186_23, kfw, bk186_26, z37, bk186_31, a1, bk186_38, bk186_41, gfc c1, oK_0, oK_1, oK_2, oK_3, oK_4, oK_5, oK_6, oK_7, oK_8, bk186_45, a2, bk186_52, bk186_55, bk186_59, a3, bk186_66, bk186_69, bk186_73, bk186_77, bk186_81, q, bk186_89, bk186_90, bk186_127, nI_eqS (show 1 < 2147483648 by decide) (show 0 < 2147483648 by decide), show ¬ 1 = 0 from by decide, Option.bind_some, bct_v, bct_t, otl_s, otl_n, List.cons_append, List.nil_append, List.getElem?_cons_zero, List.getElem?_cons_succ, ↓reduceIte]
  · obtain ⟨w3, b3, e3⟩ := x146 R2 (gJ_ext hJ e2) hk hh hm hc hy o4 (k := 7) (by decide)
    have e3' := ext_tr e2 e3
    have R3 := rm_ext R hn hJ e3'
    obtain ⟨w4, b4, e4⟩ := x146 R3 (gJ_ext hJ e3') hk hh hm hc hy o4 (k := 8) (by decide)
    have e4' := ext_tr e3' e4
    have R4 := rm_ext R hn hJ e4'
    obtain ⟨w5, b5, e5⟩ := x146 R4 (gJ_ext hJ e4') hk hh hm hc hy o4 (k := 5) (by decide)
    have e5' := ext_tr e4' e5
    have R5 := rm_ext R hn hJ e5'
    obtain ⟨w6, b6, e6⟩ := x146 R5 (gJ_ext hJ e5') hk hh hm hc hy o4 (k := 6) (by decide)
    have e6' := ext_tr e5' e6
    have l3 : it < w3.2.1 := by have := e3.2.1; omega
    have l4 : it < w4.2.1 := by have := e4.2.1; omega
    have l5 : it < w5.2.1 := by have := e5.2.1; omega
    have q6 : cO w6 it 2 (itO (c + 1) (nI c) n wl) := cO_of (cO_of (cO_of (cO_of q2 (e3.1 it l2)) (e4.1 it l3)) (e5.1 it l4)) (e6.1 it l5)
    have eq : sndR kd hr (mi / 60 % 24) (ws c) = decide (ofwR kd hr (mi / 60 % 24) (ws c) 7 + ofwR kd hr (mi / 60 % 24) (ws c) 8 = ofwR kd hr (mi / 60 % 24) (ws c) 5 + ofwR kd hr (mi / 60 % 24) (ws c) 6) := by
      unfold sndR
      rw [decide_eq_true q, Bool.true_and]
    refine ⟨w6, ext_wk e6' (by omega) (by omega), by have := e6.2.1; omega, q6, ?_⟩
    rw [eq]
    simp only [bk186_8, kfc hi, z52, decide_eq_true hc, bk186_14, b2i_0, reduceCtorEq, bk186_17, z103, bk186_23, kfw, bk186_26, z37, bk186_31, a1, bk186_38, bk186_41, gfc c1, oK_0, oK_1, oK_2, oK_3, oK_4, oK_5, oK_6, oK_7, oK_8, bk186_45, a2, bk186_52, bk186_55, bk186_59, a3, bk186_66, bk186_69, bk186_73, bk186_77, bk186_81, q, bk186_85, bk186_90, nI_eqS (show 1 < 2147483648 by decide) (show 0 < 2147483648 by decide), show ¬ 1 = 0 from by decide, bk186_95, rm_kf R2, b3, bk186_102, rm_kf R3, b4, bk186_109, rm_kf R4, b5, bk186_116, rm_kf R5, b6, bk186_123, Option.bind_some, bct_v, bct_t, otl_s, otl_n, List.cons_append, List.nil_append, List.getElem?_cons_zero, List.getElem?_cons_succ, ↓reduceIte]
    by_cases y : ofwR kd hr (mi / 60 % 24) (ws c) 7 + ofwR kd hr (mi / 60 % 24) (ws c) 8 = ofwR kd hr (mi / 60 % 24) (ws c) 5 + ofwR kd hr (mi / 60 % 24) (ws c) 6
    · rw [if_pos y, if_pos (decide_eq_true y), bk186_129, bk186_8]
    · rw [if_neg y, if_neg (by rw [decide_eq_false y]; decide), bk186_127]
def sndRS (kd hr : Nat → Nat) (h n : Nat) (ws : Nat → sW) : Bool := (fst1 n fun i => !(sndR kd hr h (ws i))).isNone
theorem x186 (R : RMx w g m kq hq ca ba wl ed wad kd hr cp br n ws th mi nd dr me di re) (hJ : gJ w g) (hn : n ≤ 3) (hk : kdok kd) (hh : hrok hr) (hm : mi ≤ 3000) (ho : ∀ i, i < n → okY (ws i)) : ∃ w', am_x 186 [.ref m] w = some (.inl (some (.int (b2i (sndRS kd hr (mi / 60 % 24) n ws)))), w') ∧ ext w w' 13 160 := by
  have L := R.2.2.2.2.2.1
  obtain ⟨w1, a1, e1, li, c1⟩ := x105 L (lt_J hJ R.2.2.2.2.2.2.2.2.2.2.2.2 (by decide))
  have go : ∀ c, c ≤ n → (∀ j, j < c → sndR kd hr (mi / 60 % 24) (ws j) = true) → ∃ w2 l, ext w w2 (1 + 4 * c) (4 + 52 * c) ∧ w.2.1 < w2.2.1 ∧ cO w2 w.2.1 2 (itO c l n wl) ∧ am_run 186 8 [some (.ref m), some (.ref w.2.1), none, none] [] w1 = am_run 186 8 [some (.ref m), some (.ref w.2.1), none, none] [] w2 := by
    intro c
    induction c with
    | zero => exact fun _ _ => ⟨w1, -1, e1, li, c1, rfl⟩
    | succ c ih =>
      intro hc hs
      obtain ⟨w2, l, k1, k2, k3, k4⟩ := ih (by omega) (fun j hj => hs j (by omega))
      obtain ⟨w3, j1, j2, j3, j4⟩ := it186 R hJ hn hk hh hm ho k1 (Nat.le_refl _) k2 k3 (by omega)
      rw [if_pos (hs c (by omega))] at j4
      exact ⟨w3, nI c, ext_wk j1 (by omega) (by omega), j2, j3, k4.trans j4⟩
  have st : am_x 186 [.ref m] w = am_run 186 8 [some (.ref m), some (.ref w.2.1), none, none] [] w1 := by
    simp only [bx186, bk186_0, gfc R.1, oM_0, oM_1, oM_2, oM_3, oM_4, oM_5, oM_6, oM_7, oM_8, oM_9, oM_10, oM_11, bk186_4, kfc L.1, a1, bk186_7, Option.bind_some, bct_v, bct_t, otl_s, otl_n, List.cons_append, List.nil_append, List.getElem?_cons_zero, List.getElem?_cons_succ, ↓reduceIte]
  rw [st]
  unfold sndRS
  cases e : fst1 n (fun i => !(sndR kd hr (mi / 60 % 24) (ws i))) with
  | none =>
    obtain ⟨w2, l, k1, k2, k3, k4⟩ := go n (Nat.le_refl n) (fun j hj => by
      have := fst1_none e j hj
      simpa using this)
    have R2 := rm_ext R hn hJ k1
    have z := x52 k3 R2.2.2.2.2.2.1 hn (Nat.le_refl n)
    refine ⟨w2, ?_, ext_wk k1 (by omega) (by omega)⟩
    rw [k4]
    simp only [bk186_8, kfc k3, z, decide_eq_false (Nat.lt_irrefl n), bk186_14, b2i_0, bk186_132, Option.bind_some, bct_v, bct_t, otl_s, otl_n, List.cons_append, List.nil_append, List.getElem?_cons_zero, List.getElem?_cons_succ, ↓reduceIte]
    rfl
  | some k =>
    obtain ⟨h1, h2, h3⟩ := fst1_some e
    obtain ⟨w2, l, k1, k2, k3, k4⟩ := go k (by omega) (fun j hj => by
      have := h3 j hj
      simpa using this)
    obtain ⟨w3, j1, j2, j3, j4⟩ := it186 R hJ hn hk hh hm ho k1 (Nat.le_refl _) k2 k3 h1
    rw [if_neg (by
      have : (!(sndR kd hr (mi / 60 % 24) (ws k))) = true := h2
      intro q
      rw [q] at this
      cases this)] at j4
    refine ⟨w3, ?_, ext_wk j1 (by omega) (by omega)⟩
    rw [k4, j4]
    rfl
end SND
end
section
/-! BOTH SUM ALIKE. Mine. -/
def mpz (mp : Nat → Nat) : Prop := ∀ k, k < 72 → wiP k = false → mp k = 0
theorem cnt_2 (p : Nat → Bool) : ∀ n, cnt (2 * n) p = cnt n (fun c => p (2 * c)) + cnt n (fun c => p (2 * c + 1))
  | 0 => rfl
  | n + 1 => by
    have ih := cnt_2 p n
    have e : cnt (2 * (n + 1)) p = cnt (2 * n) p + (if p (2 * n) = true then 1 else 0) + (if p (2 * n + 1) = true then 1 else 0) := rfl
    rw [e, ih]
    simp only [cnt]
    omega
theorem wi_0 {c : Nat} : wiP (2 * c) = (nb c 1).isSome := by
  unfold wiP
  rw [show 2 * c / 2 = c by omega, show 2 * c % 2 = 0 by omega]
theorem wi_1 {c : Nat} : wiP (2 * c + 1) = (nb c 2).isSome := by
  unfold wiP
  rw [show (2 * c + 1) / 2 = c by omega, show (2 * c + 1) % 2 = 1 by omega]
theorem kno_1 {mp : Nat → Nat} {c : Nat} : kno mp c 1 = if wiP (2 * c) = true then mp (2 * c) else 2 := by
  rw [wi_0]
  unfold kno plc
  cases nb c 1 with
  | none => rfl
  | some d => rfl
theorem kno_2 {mp : Nat → Nat} {c : Nat} : kno mp c 2 = if wiP (2 * c + 1) = true then mp (2 * c + 1) else 2 := by
  rw [wi_1]
  unfold kno plc
  cases nb c 2 with
  | none => rfl
  | some d => rfl
theorem cnt_ad {p q r t : Nat → Bool} : ∀ n, (∀ k, k < n → (if p k = true then 1 else 0) + (if q k = true then 1 else 0) = (if r k = true then 1 else 0) + (if t k = true then (1 : Nat) else 0)) → cnt n p + cnt n q = cnt n r + cnt n t
  | 0, _ => rfl
  | n + 1, h => by
    have ih := cnt_ad n (fun k hk => h k (by omega))
    have hn := h n (by omega)
    show cnt n p + (if p n = true then 1 else 0) + (cnt n q + (if q n = true then 1 else 0)) = cnt n r + (if r n = true then 1 else 0) + (cnt n t + (if t n = true then 1 else 0))
    omega
theorem sumN_cnt {p : Nat → Bool} {f : Nat → Nat} : ∀ n, (∀ c, c < n → f c = (if p (2 * c) = true then 1 else 0) + (if p (2 * c + 1) = true then 1 else 0)) → sumN n f = cnt (2 * n) p
  | 0, _ => rfl
  | n + 1, h => by
    have ih := sumN_cnt n (fun c hc => h c (by omega))
    show sumN n f + f n = cnt (2 * n) p + (if p (2 * n) = true then 1 else 0) + (if p (2 * n + 1) = true then 1 else 0)
    rw [ih, h n (by omega)]
    omega
section SAME
variable {kd hr mp : Nat → Nat}
theorem fr_eq (hz : mpz mp) : cnt 72 (fun k => mp k == 1) = cnt 36 (fun c => kno mp c 1 == 1) + cnt 36 (fun c => kno mp c 2 == 1) := by
  show cnt (2 * 36) (fun k => mp k == 1) = _
  rw [cnt_2]
  refine congr (congrArg HAdd.hAdd (cnt_cg 36 fun c hc => ?_)) (cnt_cg 36 fun c hc => ?_)
  · rw [kno_1]
    cases e : wiP (2 * c) with
    | true => rw [if_pos rfl]
    | false => rw [hz _ (by omega) e, if_neg (fun q => nomatch q)]; rfl
  · rw [kno_2]
    cases e : wiP (2 * c + 1) with
    | true => rw [if_pos rfl]
    | false => rw [hz _ (by omega) e, if_neg (fun q => nomatch q)]; rfl
theorem out_6 : cnt 36 (fun c => !(wiP (2 * c))) = 6 ∧ cnt 36 (fun c => !(wiP (2 * c + 1))) = 6 := by decide +kernel
theorem wl_eq (hz : mpz mp) : cnt 72 (fun k => mp k == 2) + 12 = cnt 36 (fun c => kno mp c 1 == 2) + cnt 36 (fun c => kno mp c 2 == 2) := by
  have a : cnt 36 (fun c => mp (2 * c) == 2) + cnt 36 (fun c => !(wiP (2 * c))) = cnt 36 (fun c => kno mp c 1 == 2) + cnt 36 (fun _ => false) := cnt_ad 36 fun c hc => by
    rw [kno_1]
    cases e : wiP (2 * c) with
    | true => simp
    | false => rw [hz _ (by omega) e]; simp
  have b : cnt 36 (fun c => mp (2 * c + 1) == 2) + cnt 36 (fun c => !(wiP (2 * c + 1))) = cnt 36 (fun c => kno mp c 2 == 2) + cnt 36 (fun _ => false) := cnt_ad 36 fun c hc => by
    rw [kno_2]
    cases e : wiP (2 * c + 1) with
    | true => simp
    | false => rw [hz _ (by omega) e]; simp
  rw [out_6.1, cnt_ff] at a
  rw [out_6.2, cnt_ff] at b
  have c : cnt 72 (fun k => mp k == 2) = cnt 36 (fun c => mp (2 * c) == 2) + cnt 36 (fun c => mp (2 * c + 1) == 2) := cnt_2 _ 36
  omega
def pF (kd hr mp : Nat → Nat) (h : Nat) (b : Bool) (k : Nat) : Bool := wiP k && (!(mp k == 0) && ((clE (kd k) (hr k) h == (mp k == 2)) == b))
theorem knw_1 {h c : Nat} {b : Bool} : knwT kd hr mp h b c 1 = if pF kd hr mp h b (2 * c) = true then 1 else 0 := by
  unfold knwT pF
  rw [kno_1, wi_0]
  unfold clsS plc
  cases e : nb c 1 with
  | none => rfl
  | some d =>
    show (if some d ≠ none ∧ mp (2 * c) ≠ 0 ∧ ((clE (kd (2 * c)) (hr (2 * c)) h == (mp (2 * c) == 2)) == b) = true then 1 else 0) = _
    by_cases q : mp (2 * c) = 0
    · rw [if_neg (fun x => x.2.1 q), if_neg (by rw [q]; simp)]
    · have : (mp (2 * c) == 0) = false := by simpa using q
      rw [this]
      cases ((clE (kd (2 * c)) (hr (2 * c)) h == (mp (2 * c) == 2)) == b) with
      | true => rw [if_pos ⟨(fun x => nomatch x), q, rfl⟩, if_pos (by rfl)]
      | false => rw [if_neg (fun x => nomatch x.2.2), if_neg (by simp)]
theorem knw_2 {h c : Nat} {b : Bool} : knwT kd hr mp h b c 2 = if pF kd hr mp h b (2 * c + 1) = true then 1 else 0 := by
  unfold knwT pF
  rw [kno_2, wi_1]
  unfold clsS plc
  cases e : nb c 2 with
  | none => rfl
  | some d =>
    show (if some d ≠ none ∧ mp (2 * c + 1) ≠ 0 ∧ ((clE (kd (2 * c + 1)) (hr (2 * c + 1)) h == (mp (2 * c + 1) == 2)) == b) = true then 1 else 0) = _
    by_cases q : mp (2 * c + 1) = 0
    · rw [if_neg (fun x => x.2.1 q), if_neg (by rw [q]; simp)]
    · have : (mp (2 * c + 1) == 0) = false := by simpa using q
      rw [this]
      cases ((clE (kd (2 * c + 1)) (hr (2 * c + 1)) h == (mp (2 * c + 1) == 2)) == b) with
      | true => rw [if_pos ⟨(fun x => nomatch x), q, rfl⟩, if_pos (by rfl)]
      | false => rw [if_neg (fun x => nomatch x.2.2), if_neg (by simp)]
theorem knw_c {h : Nat} {b : Bool} : knwS kd hr mp h b = cnt 72 (pF kd hr mp h b) := sumN_cnt 36 fun c _ => by rw [knw_1, knw_2]
theorem rt_eq {h : Nat} (hz : mpz mp) : knwS kd hr mp h true = cnt 72 (rtP kd hr mp h) := by
  rw [knw_c]
  refine cnt_cg 72 fun k hk => ?_
  unfold pF rtP
  cases e : wiP k with
  | true =>
    cases clE (kd k) (hr k) h <;> cases (mp k == 2) <;> simp
  | false => rw [hz k hk e]; rfl
theorem all_eq {h : Nat} (hz : mpz mp) (ho : mpo mp) : knwS kd hr mp h true + knwS kd hr mp h false = cnt 72 (fun k => mp k == 1) + cnt 72 (fun k => mp k == 2) := by
  rw [knw_c, knw_c]
  refine cnt_ad 72 fun k hk => ?_
  unfold pF
  cases e : wiP k with
  | true =>
    have := ho k
    rcases (show mp k = 0 ∨ mp k = 1 ∨ mp k = 2 by omega) with q | q | q <;> rw [q] <;> cases clE (kd k) (hr k) h <;> rfl
  | false => rw [hz k hk e]; rfl
theorem ofw_eq {h mi : Nat} (hz : mpz mp) (hm : mpo mp) {ho po ch : Nat} {lo ac bu sl : Int32} {may : Nat → Bool} (k : Nat) (hk : k ≤ 12) : ofwR kd hr (mi / 60 % 24) (ho, po, ch, lo, ac, bu, sl, may, mp) k = ofwS kd hr mi (ho, po, ch, lo, ac, bu, sl, may, mp) k := by
  have e5 := fr_eq hz
  have e6 := wl_eq hz
  have e7 := rt_eq (kd := kd) (hr := hr) (h := mi / 60 % 24) hz
  have e8 := all_eq (kd := kd) (hr := hr) (h := mi / 60 % 24) hz hm
  unfold ofwS
  rcases (show k = 0 ∨ k = 1 ∨ k = 2 ∨ k = 3 ∨ k = 4 ∨ k = 5 ∨ k = 6 ∨ k = 7 ∨ k = 8 ∨ k = 9 ∨ k = 10 ∨ k = 11 ∨ k = 12 by omega) with rfl | rfl | rfl | rfl | rfl | rfl | rfl | rfl | rfl | rfl | rfl | rfl | rfl
  · rfl
  · rfl
  · rfl
  · rfl
  · show (if cnt 144 may = 1 then nI 1 else nI 0) = b2i (decide (cnt 144 may = 1))
    unfold b2i
    simp
  · show nI (cnt 72 (fun k => mp k == 1)) = nI (cnt 36 (fun c => kno mp c 1 == 1) + cnt 36 (fun c => kno mp c 2 == 1))
    rw [e5]
  · show nI (cnt 72 (fun k => mp k == 2)) = nI (cnt 36 (fun c => kno mp c 1 == 2) + cnt 36 (fun c => kno mp c 2 == 2)) - nI 12
    rw [← e6, nI_subS (by omega), Nat.add_sub_cancel]
  · show nI (cnt 72 (rtP kd hr mp (mi / 60 % 24))) = nI (knwS kd hr mp (mi / 60 % 24) true)
    rw [e7]
  · show nI (cnt 72 (fun k => mp k == 1)) + nI (cnt 72 (fun k => mp k == 2)) - nI (cnt 72 (rtP kd hr mp (mi / 60 % 24))) = nI (knwS kd hr mp (mi / 60 % 24) false)
    rw [← e7, nI_add, nI_subS (by omega)]
    exact congrArg nI (by omega)
  · rfl
  · rfl
  · rfl
  · rfl
theorem hs_eq {cp br : Nat → Bool} {n mi : Nat} {dr me di re : Int32} (hz : mpz kd) (k : Nat) (hk : k ≤ 11) : hsR kd hr cp br n mi dr me di re k = hsS kd hr cp br n mi dr me di re k := by
  have e : ∀ q, q ≠ 0 → cnt 72 (fun k => wiP k && kd k == q) = cnt 72 (fun k => kd k == q) := fun q hq => cnt_cg 72 fun k hk => by
    cases e : wiP k with
    | true => rfl
    | false =>
      rw [hz k hk e]
      show false = (0 == q)
      exact (beq_eq_false_iff_ne.mpr (fun x => hq x.symm)).symm
  rcases (show k = 0 ∨ k = 1 ∨ k = 2 ∨ k = 3 ∨ k = 4 ∨ k = 5 ∨ k = 6 ∨ k = 7 ∨ k = 8 ∨ k = 9 ∨ k = 10 ∨ k = 11 by omega) with rfl | rfl | rfl | rfl | rfl | rfl | rfl | rfl | rfl | rfl | rfl | rfl
  · rfl
  · rfl
  · show nI (cnt 72 (fun k => wiP k && kd k == 1)) = nI (cnt 72 (fun k => kd k == 1))
    rw [e 1 (by decide)]
  · show nI (cnt 72 (fun k => wiP k && kd k == 2)) = nI (cnt 72 (fun k => kd k == 2))
    rw [e 2 (by decide)]
  · rfl
  · rfl
  · rfl
  · rfl
  · rfl
  · rfl
  · rfl
  · rfl
theorem sndW_eq {mi : Nat} {y : sW} (hz : mpz y.2.2.2.2.2.2.2.2) (hm : mpo y.2.2.2.2.2.2.2.2) : sndR kd hr (mi / 60 % 24) y = sndW kd hr mi y := by
  have e := fun k hk => ofw_eq (kd := kd) (hr := hr) (h := 0) (mi := mi) hz hm (ho := y.1) (po := y.2.1) (ch := y.2.2.1) (lo := y.2.2.2.1) (ac := y.2.2.2.2.1) (bu := y.2.2.2.2.2.1) (sl := y.2.2.2.2.2.2.1) (may := y.2.2.2.2.2.2.2.1) k hk
  unfold sndR sndW
  rw [← sW_eta y] at e
  rw [e 5 (by decide), e 6 (by decide), e 7 (by decide), e 8 (by decide)]
  rfl
theorem sndS_eq {mi n : Nat} {ws : Nat → sW} (hn : n ≤ 3) (hz : ∀ i, i < n → mpz (ws i).2.2.2.2.2.2.2.2) (hm : ∀ i, i < n → mpo (ws i).2.2.2.2.2.2.2.2) : sndRS kd hr (mi / 60 % 24) n ws = sndS kd hr mi n ws := by
  unfold sndRS sndS
  cases e : fst1 n (fun i => !(sndR kd hr (mi / 60 % 24) (ws i))) with
  | none =>
    rw [fst1_no fun j hj => ?_]
    by_cases q : j < n
    · have := fst1_none e j q
      rw [sndW_eq (hz j q) (hm j q)] at this
      rw [this, Bool.and_false]
    · rw [decide_eq_false q, Bool.false_and]
  | some k =>
    obtain ⟨h1, h2, -⟩ := fst1_some e
    rw [sndW_eq (hz k h1) (hm k h1)] at h2
    cases e2 : fst1 3 (fun i => decide (i < n) && !(sndW kd hr mi (ws i))) with
    | none =>
      have := fst1_none e2 k (by omega)
      rw [decide_eq_true h1, h2] at this
      cases this
    | some _ => rfl
end SAME
end
section
/-! STEPS: what a call may change; refusals of the reference. Mine. -/
/-- of the old cells only those of tags from lo to below hi are written; what is new has such a tag or none -/
def stp (lo hi : Nat) (g g' : Nat → Nat) (k s : Nat) (w w' : am_Wd) : Prop := (∀ b, b < w.2.1 → g b < lo ∨ hi ≤ g b → w'.1 b = w.1 b) ∧ (∀ b, b < w.2.1 → g' b = g b) ∧ (∀ b, w.2.1 ≤ b → g' b = 0 ∨ (lo ≤ g' b ∧ g' b < hi)) ∧ gJ w' g' ∧ w.2.1 ≤ w'.2.1 ∧ w'.2.1 ≤ w.2.1 + k ∧ w.2.2.1 ≤ w'.2.2.1 ∧ w'.2.2.1 ≤ w.2.2.1 + s ∧ w'.2.2.2 = w.2.2.2
theorem stp_tr {lo hi : Nat} {g g' g'' : Nat → Nat} {k s k' s' : Nat} {w w' w'' : am_Wd} (h : stp lo hi g g' k s w w') (h' : stp lo hi g' g'' k' s' w' w'') : stp lo hi g g'' (k + k') (s + s') w w'' := by
  obtain ⟨a1, a2, a3, a4, a5, a6, a7, a8, a9⟩ := h
  obtain ⟨b1, b2, b3, b4, b5, b6, b7, b8, b9⟩ := h'
  refine ⟨fun b hb hg => (b1 b (by omega) (by rw [a2 b hb]; exact hg)).trans (a1 b hb hg), fun b hb => (b2 b (by omega)).trans (a2 b hb), fun b hb => ?_, b4, by omega, by omega, by omega, by omega, b9.trans a9⟩
  rcases Nat.lt_or_ge b w'.2.1 with q | q
  · rw [b2 b q]; exact a3 b hb
  · exact b3 b q
theorem stp_wk {lo hi : Nat} {g g' : Nat → Nat} {k s k' s' : Nat} {w w' : am_Wd} (h : stp lo hi g g' k s w w') (hk : k ≤ k') (hs : s ≤ s') : stp lo hi g g' k' s' w w' := by
  obtain ⟨a1, a2, a3, a4, a5, a6, a7, a8, a9⟩ := h
  exact ⟨a1, a2, a3, a4, a5, by omega, a7, by omega, a9⟩
theorem stp_rf {lo hi : Nat} {g : Nat → Nat} {w : am_Wd} (hJ : gJ w g) : stp lo hi g g 0 0 w w := ⟨fun _ _ _ => rfl, fun _ _ => rfl, fun b hb => Or.inl (hJ b hb), hJ, Nat.le_refl _, Nat.le_refl _, Nat.le_refl _, Nat.le_refl _, rfl⟩
theorem stp_ext {lo hi : Nat} {g : Nat → Nat} {k s : Nat} {w w' : am_Wd} (hJ : gJ w g) (h : ext w w' k s) : stp lo hi g g k s w w' := ⟨fun b hb _ => h.1 b hb, fun _ _ => rfl, fun b hb => Or.inl (hJ b hb), gJ_ext hJ h, h.2.1, h.2.2.1, h.2.2.2.1, h.2.2.2.2.1, h.2.2.2.2.2⟩
theorem stp_frm {lo hi lo' hi' : Nat} {g : Nat → Nat} {w w' : am_Wd} (hJ : gJ w g) (h : frm g lo' hi' w w') (h1 : lo ≤ lo') (h2 : hi' ≤ hi) : stp lo hi g g 0 0 w w' := by
  refine ⟨fun b hb hg => h.1 b (by omega), fun _ _ => rfl, fun b hb => Or.inl (hJ b hb), fun b hb => hJ b (by rw [← h.2]; exact hb), ?_⟩
  rw [h.2]
  exact ⟨Nat.le_refl _, Nat.le_refl _, Nat.le_refl _, Nat.le_refl _, rfl⟩
/-- something new made, then tagged and written -/
theorem stp_J {lo hi : Nat} {g g' : Nat → Nat} {k s : Nat} {w w' : am_Wd} (h : stp lo hi g g' k s w w') : gJ w' g' := h.2.2.2.1
theorem stp_g {lo hi : Nat} {g g' : Nat → Nat} {k s : Nat} {w w' : am_Wd} (hJ : gJ w g) (h : stp lo hi g g' k s w w') : ∀ b, g b ≠ 0 → g' b = g b := fun b hb => h.2.1 b (lt_J hJ rfl hb)
theorem jk_ext {w : am_Wd} {k s : Nat} : ext w (am_jk w k s) k s := ⟨fun _ _ => rfl, Nat.le_add_right _ _, Nat.le_refl _, Nat.le_add_right _ _, Nat.le_refl _, rfl⟩
section STEP
variable {w : am_Wd} {g : Nat → Nat} {m kq hq ca ba wl ed : Nat} {wad : Nat → Nat} {kd hr : Nat → Nat} {cp br : Nat → Bool} {n : Nat} {ws : Nat → sW} {th mi nd : Nat} {dr me di re : Int32}
/-- the class is left as it is by the reference's steps; the other way too -/
theorem rm_stp {w' : am_Wd} {g' : Nat → Nat} {k s : Nat} (R : RMx w g m kq hq ca ba wl ed wad kd hr cp br n ws th mi nd dr me di re) (hn : n ≤ 3) (hJ : gJ w g) (h : stp 1 40 g g' k s w w') : RMx w' g' m kq hq ca ba wl ed wad kd hr cp br n ws th mi nd dr me di re :=
  rm_g (rm_fr R hn (fun b h1 h2 => h.1 b (lt_J hJ rfl (by omega)) (by omega)) h.2.2.2.2.2.2.2.2) (stp_g hJ h)
theorem x40 (R : RMx w g m kq hq ca ba wl ed wad kd hr cp br n ws 0 mi nd dr me di re) (hn : n ≤ 3) (b : Bool) {c : Nat} (hc : 1 ≤ c ∧ c ≤ 3) : ∃ w', am_x 40 [.ref m, .int (b2i b), .int (nI c)] w = some (.inl (some (.int (b2i b))), w') ∧ RMx w' g m kq hq ca ba wl ed wad kd hr cp br n ws (if b = true then c else 0) mi nd dr me di re ∧ frm g 100 101 w w' := by
  cases b with
  | true =>
    obtain ⟨r1, r2⟩ := rm_m (th' := c) (mi' := mi) (nd' := nd) (dr' := dr) (me' := me) (di' := di) (re' := re) R hn
    have pf : am_pf w m 11 0 (.int (nI c)) = some (am_pt w m (.inr (11, oM c mi nd dr me di re kq hq ca ba wl))) := pfc R.1 (by show 0 < 12; decide) (by decide)
    refine ⟨_, ?_, r1, r2⟩
    simp only [bx40, bk40_0, b2i_0, reduceCtorEq, bk40_4, gfc R.1, oM_0, oM_1, oM_2, oM_3, oM_4, oM_5, oM_6, oM_7, oM_8, oM_9, oM_10, oM_11, bk40_8, nI_eqS (show 0 < 2147483648 by decide) (show 0 < 2147483648 by decide), not_true_eq_false, bk40_11, pf, bk40_16, gfc r1.1, bk40_20, nI_leS (show c < 2147483648 by omega) (show 0 < 2147483648 by decide), show ¬ c ≤ 0 from by omega, bk40_23, Option.bind_some, bct_v, bct_t, otl_s, otl_n, List.cons_append, List.nil_append, List.getElem?_cons_zero, List.getElem?_cons_succ, ↓reduceIte]
    exact bk40_28 (by rfl)
  | false =>
    refine ⟨w, ?_, R, frm_rf⟩
    simp only [bx40, bk40_0, b2i_0, gfc R.1, oM_0, oM_1, oM_2, oM_3, oM_4, oM_5, oM_6, oM_7, oM_8, oM_9, oM_10, oM_11, bk40_16, bk40_20, nI_leS (show 0 < 2147483648 by decide) (show 0 < 2147483648 by decide), Nat.le_refl, bk40_27, Option.bind_some, bct_v, bct_t, otl_s, otl_n, List.cons_append, List.nil_append, List.getElem?_cons_zero, List.getElem?_cons_succ, ↓reduceIte]
    exact bk40_28 (by rfl)
theorem x96 (R : RMx w g m kq hq ca ba wl ed wad kd hr cp br n ws th mi nd dr me di re) (hn : n ≤ 3) (b : Bool) {c : Nat} (hc : 1 ≤ c ∧ c ≤ 3) : ∃ w', am_x 96 [.ref m, .int (b2i b), .int (nI c)] w = some (.inl (some (.int (b2i b))), w') ∧ RMx w' g m kq hq ca ba wl ed wad kd hr cp br n ws (if b = true then c else 0) mi nd dr me di re ∧ frm g 100 101 w w' := by
  obtain ⟨r1, r2⟩ := rm_m (th' := 0) (mi' := mi) (nd' := nd) (dr' := dr) (me' := me) (di' := di) (re' := re) R hn
  have pf : am_pf w m 11 0 (.int (nI 0)) = some (am_pt w m (.inr (11, oM 0 mi nd dr me di re kq hq ca ba wl))) := pfc R.1 (by show 0 < 12; decide) (by decide)
  obtain ⟨w2, a1, a2, a3⟩ := x40 r1 hn b hc
  refine ⟨w2, ?_, a2, frm_tr r2 a3⟩
  simp only [bx96, bk96_0, pf, bk96_5, rm_kf r1, a1, Option.bind_some, bct_v, bct_t, otl_s, otl_n, List.cons_append, List.nil_append, List.getElem?_cons_zero, List.getElem?_cons_succ, ↓reduceIte]
  exact bk96_11 (by cases b <;> rfl)
theorem x97g {z : Int32} : am_x 97 [.int z] w = some (.inl (some (.int (b2i (!decide (¬ z < nI 0 ∧ ¬ nI 35 < z))))), w) := by
  cases e : decide (¬ z < nI 0 ∧ ¬ nI 35 < z) with
  | true =>
    have z1 := x39g (w := w) (z := z) (a := nI 0) (b := nI 35)
    rw [e] at z1
    simp only [bx97, bk97_0, z1, bk97_7, b2i_0, reduceCtorEq, not_false_eq_true, bk97_14, Option.bind_some, bct_v, bct_t, otl_s, otl_n, List.cons_append, List.nil_append, List.getElem?_cons_zero, List.getElem?_cons_succ, ↓reduceIte]
    exact bk97_15 (by rfl)
  | false =>
    have z1 := x39g (w := w) (z := z) (a := nI 0) (b := nI 35)
    rw [e] at z1
    simp only [bx97, bk97_0, z1, bk97_7, b2i_0, not_true_eq_false, bk97_10, Option.bind_some, bct_v, bct_t, otl_s, otl_n, List.cons_append, List.nil_append, List.getElem?_cons_zero, List.getElem?_cons_succ, ↓reduceIte]
    exact bk97_15 (by rfl)
def nwk (n : Nat) (z : Int32) : Bool := !decide (¬ z < nI 0 ∧ ¬ nI n - nI 1 < z)
theorem nwk_t {n : Nat} (hn : n ≤ 3) {z : Int32} (h : z < nI 0 ∨ nI n ≤ z) : nwk n z = true := by
  unfold nwk
  rw [decide_eq_false]
  · rfl
  · rintro ⟨h1, h2⟩
    rcases h with h | h
    · exact h1 h
    · apply h2
      rw [Int32.lt_iff_toInt_lt]
      rw [Int32.le_iff_toInt_le, nI_toInt (show n < 2 ^ 31 by omega)] at h
      by_cases q : n = 0
      · subst q
        have : (nI 0 - nI 1).toInt = -1 := by decide
        omega
      · rw [nI_subS (by omega), nI_toInt (show n - 1 < 2 ^ 31 by omega)]
        omega
theorem nwk_f {n i : Nat} (hn : n ≤ 3) (hi : i < n) : nwk n (nI i) = false := by
  unfold nwk
  rw [nI_subS (show 1 ≤ n by omega), decide_eq_true]
  · rfl
  · rw [nI_ltS (by omega) (by decide), nI_ltS (by omega) (by omega)]
    omega
theorem x99 (R : RMx w g m kq hq ca ba wl ed wad kd hr cp br n ws th mi nd dr me di re) (z : Int32) : am_x 99 [.ref m, .int z] w = some (.inl (some (.int (b2i (nwk n z)))), w) := by
  have L := R.2.2.2.2.2.1
  unfold nwk
  have z1 := x39g (w := w) (z := z) (a := nI 0) (b := nI n - nI 1)
  cases e : decide (¬ z < nI 0 ∧ ¬ nI n - nI 1 < z) with
  | true =>
    rw [e] at z1
    simp only [bx99, bk99_0, gfc R.1, oM_0, oM_1, oM_2, oM_3, oM_4, oM_5, oM_6, oM_7, oM_8, oM_9, oM_10, oM_11, bk99_6, kfc L.1, x56 L, bk99_9, z1, bk99_14, b2i_0, reduceCtorEq, not_false_eq_true, bk99_21, Option.bind_some, bct_v, bct_t, otl_s, otl_n, List.cons_append, List.nil_append, List.getElem?_cons_zero, List.getElem?_cons_succ, ↓reduceIte]
    exact bk99_22 (by rfl)
  | false =>
    rw [e] at z1
    simp only [bx99, bk99_0, gfc R.1, oM_0, oM_1, oM_2, oM_3, oM_4, oM_5, oM_6, oM_7, oM_8, oM_9, oM_10, oM_11, bk99_6, kfc L.1, x56 L, bk99_9, z1, bk99_14, b2i_0, not_true_eq_false, bk99_17, Option.bind_some, bct_v, bct_t, otl_s, otl_n, List.cons_append, List.nil_append, List.getElem?_cons_zero, List.getElem?_cons_succ, ↓reduceIte]
    exact bk99_22 (by rfl)
end STEP
end
section
/-! THE REFERENCE'S CALLS: small ones. Mine. -/
def RM (w : am_Wd) (g : Nat → Nat) (m : Nat) (kd hr : Nat → Nat) (cp br : Nat → Bool) (n : Nat) (ws : Nat → sW) (th mi nd : Nat) (dr me di re : Int32) : Prop := ∃ (kq hq ca ba wl ed : Nat) (wad : Nat → Nat), RMx w g m kq hq ca ba wl ed wad kd hr cp br n ws th mi nd dr me di re
section CA
variable {w : am_Wd} {g : Nat → Nat} {m kq hq ca ba wl ed : Nat} {wad : Nat → Nat} {kd hr : Nat → Nat} {cp br : Nat → Bool} {n : Nat} {ws : Nat → sW} {th mi nd : Nat} {dr me di re : Int32}
variable {i a ho po ch : Nat} {lo ac bu sl : Int32} {may : Nat → Bool} {mp : Nat → Nat}
theorem b2i_pos : nI 1 = b2i true := rfl
theorem b2i_neg : nI 0 = b2i false := rfl
/-- a row of yes and no of the floor written -/
theorem rm_ca (R : RMx w g m kq hq ca ba wl ed wad kd hr cp br n ws th mi nd dr me di re) (hn : n ≤ 3) {c : Nat} (hc : c < 36) (b : Bool) : ∃ w', am_wi 2 w ca (nI c) (b2i b) = some w' ∧ RMx w' g m kq hq ca ba wl ed wad kd hr (up cp c b) br n ws th mi nd dr me di re ∧ frm g 103 104 w w' := by
  obtain ⟨h1, k1, k2, k3, k4, k5, k6, g1, g2, g3, g4, g5, g6⟩ := R
  have e := wic k3 (i := c) (x := b2i b) hc (by decide)
  rw [upB] at e
  refine ⟨_, e, ?_, frm_pt (by omega) (by omega)⟩
  have f : frm g 103 104 w (am_pt w ca (.inl (2, 36, .inl (fun s => b2i (up cp c b s))))) := frm_pt (by omega) (by omega)
  have he : (am_pt w ca (.inl (2, 36, .inl (fun s => b2i (up cp c b s))))).1 ed = w.1 ed := by
    rcases k5.2 with ⟨-, -, -, e⟩ | ⟨-, e⟩ <;> exact f.1 ed (by omega)
  exact ⟨cO_of h1 (f.1 m (by omega)), k1.of (f.1 kq (by omega)) (fun b z1 z2 => f.1 b (by omega)), k2.of (f.1 hq (by omega)) (fun b z1 z2 => f.1 b (by omega)), pt_s, cI_of k4 (f.1 ba (by omega)), k5.of (f.1 wl (by omega)) he rfl, fun i hi => (k6 i hi).of (fun b z1 z2 => f.1 b (by omega)) (fun b z1 z2 => f.1 b (by omega)), g1, g2, g3, g4, g5, g6⟩
theorem rm_ba (R : RMx w g m kq hq ca ba wl ed wad kd hr cp br n ws th mi nd dr me di re) (hn : n ≤ 3) {c : Nat} (hc : c < 36) (b : Bool) : ∃ w', am_wi 2 w ba (nI c) (b2i b) = some w' ∧ RMx w' g m kq hq ca ba wl ed wad kd hr cp (up br c b) n ws th mi nd dr me di re ∧ frm g 104 105 w w' := by
  obtain ⟨h1, k1, k2, k3, k4, k5, k6, g1, g2, g3, g4, g5, g6⟩ := R
  have e := wic k4 (i := c) (x := b2i b) hc (by decide)
  rw [upB] at e
  refine ⟨_, e, ?_, frm_pt (by omega) (by omega)⟩
  have f : frm g 104 105 w (am_pt w ba (.inl (2, 36, .inl (fun s => b2i (up br c b s))))) := frm_pt (by omega) (by omega)
  have he : (am_pt w ba (.inl (2, 36, .inl (fun s => b2i (up br c b s))))).1 ed = w.1 ed := by
    rcases k5.2 with ⟨-, -, -, e⟩ | ⟨-, e⟩ <;> exact f.1 ed (by omega)
  exact ⟨cO_of h1 (f.1 m (by omega)), k1.of (f.1 kq (by omega)) (fun b z1 z2 => f.1 b (by omega)), k2.of (f.1 hq (by omega)) (fun b z1 z2 => f.1 b (by omega)), cI_of k3 (f.1 ca (by omega)), pt_s, k5.of (f.1 wl (by omega)) he rfl, fun i hi => (k6 i hi).of (fun b z1 z2 => f.1 b (by omega)) (fun b z1 z2 => f.1 b (by omega)), g1, g2, g3, g4, g5, g6⟩
theorem ok_rng {a b : Nat} (hb : b < 2147483648) {j : Nat} (h1 : a ≤ j) (h2 : j ≤ b) : decide (¬ nI j < nI a ∧ ¬ nI b < nI j) = true := by
  rw [decide_eq_true]
  rw [nI_ltS (by omega) (by omega), nI_ltS (by omega) (by omega)]
  omega
theorem ng_rng {a b : Nat} {z : Int32} (h : z < nI a ∨ nI b < z) : decide (¬ z < nI a ∧ ¬ nI b < z) = false := decide_eq_false fun q => h.elim q.1 q.2
/-- cell -/
theorem y144 (R : RMx w g m kq hq ca ba wl ed wad kd hr cp br n ws th mi nd dr me di re) (hn : n ≤ 3) (hJ : gJ w g) {c : Nat} (hc : c ≤ 35) (u v : Bool) : ∃ w', am_x 144 [.ref m, .int (nI c), .int (b2i u), .int (b2i v)] w = some (.inl (some (.int (nI (cnt 36 (up br c v))))), w') ∧ RM w' g m kd hr (up cp c u) (up br c v) n ws 0 mi nd dr me di re ∧ stp 100 800 g g 0 0 w w' := by
  have z := x97 (w := w) hc
  obtain ⟨w1, a1, R1, f1⟩ := x96 R hn false (c := 1) (by decide)
  have a1' : am_x 96 [.ref m, .int (nI 0), .int (nI 1)] w = _ := a1
  obtain ⟨w2, a2, R2, f2⟩ := rm_ca R1 hn (c := c) (by omega) u
  obtain ⟨w3, a3, R3, f3⟩ := rm_ba R2 hn (c := c) (by omega) v
  refine ⟨w3, ?_, ⟨_, _, _, _, _, _, _, R3⟩, stp_frm hJ (frm_tr (frm_wk f1 (by decide) (by decide)) (frm_tr (frm_wk f2 (by decide) (by decide)) (frm_wk f3 (by decide) (by decide)))) (Nat.le_refl 100) (show 105 ≤ 800 by decide)⟩
  simp only [bx144, bk144_0, z, bk144_5, rm_kf R, a1', bk144_9, b2i_0, bk144_14, gfc R1.1, oM_0, oM_1, oM_2, oM_3, oM_4, oM_5, oM_6, oM_7, oM_8, oM_9, oM_10, oM_11, bk144_18, nar_b, a2, bk144_21, gfc R2.1, bk144_25, a3, bk144_28, gfc R3.1, bk144_32, x44 R3.2.2.2.2.1 (p := up br c v) (fun _ _ => rfl) (by decide), bk144_35, Option.bind_some, bct_v, bct_t, otl_s, otl_n, List.cons_append, List.nil_append, List.getElem?_cons_zero, List.getElem?_cons_succ, ↓reduceIte]
theorem y144n (R : RMx w g m kq hq ca ba wl ed wad kd hr cp br n ws th mi nd dr me di re) (hn : n ≤ 3) (hJ : gJ w g) {z z2 z3 : Int32} (hz : z < nI 0 ∨ nI 35 < z) : ∃ w', am_x 144 [.ref m, .int z, .int z2, .int z3] w = some (.inl (some (.int (nI 0))), w') ∧ RM w' g m kd hr cp br n ws 1 mi nd dr me di re ∧ stp 100 800 g g 0 0 w w' := by
  have z1 := x97n (w := w) hz
  obtain ⟨w1, a1, R1, f1⟩ := x96 R hn true (c := 1) (by decide)
  have a1' : am_x 96 [.ref m, .int (nI 1), .int (nI 1)] w = _ := a1
  refine ⟨w1, ?_, ⟨_, _, _, _, _, _, _, R1⟩, stp_frm hJ f1 (by decide) (by decide)⟩
  simp only [bx144, bk144_0, z1, bk144_5, rm_kf R, a1', bk144_9, b2i_0, reduceCtorEq, bk144_12, Option.bind_some, bct_v, bct_t, otl_s, otl_n, List.cons_append, List.nil_append, List.getElem?_cons_zero, List.getElem?_cons_succ, ↓reduceIte]
/-- pass -/
theorem y145 (R : RMx w g m kq hq ca ba wl ed wad kd hr cp br n ws th mi nd dr me di re) (hn : n ≤ 3) (hJ : gJ w g) {j : Nat} (h1 : 1 ≤ j) (h2 : j ≤ 600) (h3 : mi + j ≤ 3000) : ∃ w', am_x 145 [.ref m, .int (nI j)] w = some (.inl (some (.int (nI (mi + j)))), w') ∧ RM w' g m kd hr cp br n ws 0 (mi + j) nd dr me di re ∧ stp 100 800 g g 0 0 w w' := by
  have z := x39g (w := w) (z := nI j) (a := nI 1) (b := nI 600)
  rw [ok_rng (by decide) h1 h2] at z
  obtain ⟨w1, a1, R1, f1⟩ := x96 R hn false (c := 1) (by decide)
  obtain ⟨w2, a2, R2, f2⟩ := x40 R1 hn false (c := 2) (by decide)
  obtain ⟨R3, f3⟩ := rm_m (th' := 0) (mi' := mi + j) (nd' := nd) (dr' := dr) (me' := me) (di' := di) (re' := re) R2 hn
  have pf : am_pf w2 m 11 1 (.int (nI (mi + j))) = some (am_pt w2 m (.inr (11, oM 0 (mi + j) nd dr me di re kq hq ca ba wl))) := pfc R2.1 (by show 1 < 12; decide) (by decide)
  have a1' : am_x 96 [.ref m, .int (nI 0), .int (nI 1)] w = _ := a1
  have a2' : am_x 40 [.ref m, .int (nI 0), .int (nI 2)] w1 = _ := a2
  refine ⟨_, ?_, ⟨_, _, _, _, _, _, _, R3⟩, stp_frm hJ (frm_tr f1 (frm_tr f2 f3)) (by decide) (by decide)⟩
  simp only [bx145, bk145_0, z, bk145_9, b2i_0, reduceCtorEq, not_false_eq_true, bk145_16, bk145_17, rm_kf R, a1', bk145_21, not_true_eq_false, bk145_24, gfc R1.1, oM_0, oM_1, oM_2, oM_3, oM_4, oM_5, oM_6, oM_7, oM_8, oM_9, oM_10, oM_11, bk145_29, nI_add, nI_leS (show mi + j < 2147483648 by omega) (show 3000 < 2147483648 by decide), h3, bk145_41, bk145_42, rm_kf R1, a2', bk145_46, bk145_51, gfc R2.1, bk145_56, pf, bk145_61, gfc R3.1, bk145_65, Option.bind_some, bct_v, bct_t, otl_s, otl_n, List.cons_append, List.nil_append, List.getElem?_cons_zero, List.getElem?_cons_succ, ↓reduceIte]
theorem y145m (R : RMx w g m kq hq ca ba wl ed wad kd hr cp br n ws th mi nd dr me di re) (hn : n ≤ 3) (hJ : gJ w g) (hm : mi ≤ 3000) {j : Nat} (h1 : 1 ≤ j) (h2 : j ≤ 600) (h3 : ¬ mi + j ≤ 3000) : ∃ w', am_x 145 [.ref m, .int (nI j)] w = some (.inl (some (.int (nI 0))), w') ∧ RM w' g m kd hr cp br n ws 2 mi nd dr me di re ∧ stp 100 800 g g 0 0 w w' := by
  have z := x39g (w := w) (z := nI j) (a := nI 1) (b := nI 600)
  rw [ok_rng (by decide) h1 h2] at z
  obtain ⟨w1, a1, R1, f1⟩ := x96 R hn false (c := 1) (by decide)
  obtain ⟨w2, a2, R2, f2⟩ := x40 R1 hn true (c := 2) (by decide)
  have a1' : am_x 96 [.ref m, .int (nI 0), .int (nI 1)] w = _ := a1
  have a2' : am_x 40 [.ref m, .int (nI 1), .int (nI 2)] w1 = _ := a2
  refine ⟨w2, ?_, ⟨_, _, _, _, _, _, _, R2⟩, stp_frm hJ (frm_tr f1 f2) (by decide) (by decide)⟩
  simp only [bx145, bk145_0, z, bk145_9, b2i_0, reduceCtorEq, not_false_eq_true, bk145_16, bk145_17, rm_kf R, a1', bk145_21, not_true_eq_false, bk145_24, gfc R1.1, oM_0, oM_1, oM_2, oM_3, oM_4, oM_5, oM_6, oM_7, oM_8, oM_9, oM_10, oM_11, bk145_29, nI_add, nI_leS (show mi + j < 2147483648 by omega) (show 3000 < 2147483648 by decide), h3, bk145_37, bk145_42, rm_kf R1, a2', bk145_46, bk145_49, Option.bind_some, bct_v, bct_t, otl_s, otl_n, List.cons_append, List.nil_append, List.getElem?_cons_zero, List.getElem?_cons_succ, ↓reduceIte]
theorem y145n (R : RMx w g m kq hq ca ba wl ed wad kd hr cp br n ws th mi nd dr me di re) (hn : n ≤ 3) (hJ : gJ w g) {z : Int32} (hz : z < nI 1 ∨ nI 600 < z) : ∃ w', am_x 145 [.ref m, .int z] w = some (.inl (some (.int (nI 0))), w') ∧ RM w' g m kd hr cp br n ws 1 mi nd dr me di re ∧ stp 100 800 g g 0 0 w w' := by
  have z1 := x39g (w := w) (z := z) (a := nI 1) (b := nI 600)
  rw [ng_rng hz] at z1
  obtain ⟨w1, a1, R1, f1⟩ := x96 R hn true (c := 1) (by decide)
  have a1' : am_x 96 [.ref m, .int (nI 1), .int (nI 1)] w = _ := a1
  refine ⟨w1, ?_, ⟨_, _, _, _, _, _, _, R1⟩, stp_frm hJ f1 (by decide) (by decide)⟩
  simp only [bx145, bk145_0, z1, bk145_9, b2i_0, not_true_eq_false, bk145_12, bk145_17, rm_kf R, a1', bk145_21, reduceCtorEq, not_false_eq_true, bk145_49, Option.bind_some, bct_v, bct_t, otl_s, otl_n, List.cons_append, List.nil_append, List.getElem?_cons_zero, List.getElem?_cons_succ, ↓reduceIte]
/-- call -/
theorem y47 (R : RMx w g m kq hq ca ba wl ed wad kd hr cp br n ws th mi nd dr me di re) (hn : n ≤ 3) (hJ : gJ w g) : ∃ w', am_x 47 [.ref m] w = some (.inl (some (.int (re + nI 1))), w') ∧ RM w' g m kd hr cp br n ws 0 mi nd dr me di (re + nI 1) ∧ stp 100 800 g g 0 0 w w' := by
  obtain ⟨R1, f1⟩ := rm_m (th' := 0) (mi' := mi) (nd' := nd) (dr' := dr) (me' := me) (di' := di) (re' := re) R hn
  have p1 : am_pf w m 11 0 (.int (nI 0)) = some (am_pt w m (.inr (11, oM 0 mi nd dr me di re kq hq ca ba wl))) := pfc R.1 (by show 0 < 12; decide) (by decide)
  obtain ⟨R2, f2⟩ := rm_m (th' := 0) (mi' := mi) (nd' := nd) (dr' := dr) (me' := me) (di' := di) (re' := re + nI 1) R1 hn
  have p2 : am_pf (am_pt w m (.inr (11, oM 0 mi nd dr me di re kq hq ca ba wl))) m 11 6 (.int (re + nI 1)) = some (am_pt (am_pt w m (.inr (11, oM 0 mi nd dr me di re kq hq ca ba wl))) m (.inr (11, oM 0 mi nd dr me di (re + nI 1) kq hq ca ba wl))) := pfc R1.1 (by show 6 < 12; decide) (by decide)
  refine ⟨_, ?_, ⟨_, _, _, _, _, _, _, R2⟩, stp_frm hJ (frm_tr f1 f2) (by decide) (by decide)⟩
  simp only [bx47, bk47_0, p1, bk47_5, gfc R1.1, oM_0, oM_1, oM_2, oM_3, oM_4, oM_5, oM_6, oM_7, oM_8, oM_9, oM_10, oM_11, bk47_10, p2, bk47_16, Option.bind_some, bct_v, bct_t, otl_s, otl_n, List.cons_append, List.nil_append, List.getElem?_cons_zero, List.getElem?_cons_succ, ↓reduceIte]
end CA
end
section
/-! THE REFERENCE'S CALLS: charge, tellPose, edge. Mine. -/
section CB
variable {w : am_Wd} {g : Nat → Nat} {m kq hq ca ba wl ed : Nat} {wad : Nat → Nat} {kd hr : Nat → Nat} {cp br : Nat → Bool} {n : Nat} {ws : Nat → sW} {th mi nd : Nat} {dr me di re : Int32}
variable {i a ho po ch : Nat} {lo ac bu sl : Int32} {may : Nat → Bool} {mp : Nat → Nat}
theorem rm_L (R : RMx w g m kq hq ca ba wl ed wad kd hr cp br n ws th mi nd dr me di re) : Lst w g wl ed n wad := R.2.2.2.2.2.1
theorem rm_lk (R : RMx w g m kq hq ca ba wl ed wad kd hr cp br n ws th mi nd dr me di re) : am_kf w wl 3 = some () := kfc (rm_L R).1
/-- charge -/
theorem y178 (R : RMx w g m kq hq ca ba wl ed wad kd hr cp br n ws th mi nd dr me di re) (hn : n ≤ 3) (hJ : gJ w g) (hi : i < n) (hy : ws i = (ho, po, ch, lo, ac, bu, sl, may, mp)) (hp : po < 144) (hho : ho < 36) {c : Nat} (h1c : 1 ≤ c) (hc5 : c ≤ 500) (he : po / 4 = ho) :
    ∃ w', am_x 178 [.ref m, .int (nI i), .int (nI c)] w = some (.inl (some (.int (nI ch))), w') ∧ RM w' g m kd hr cp br n (up ws i (chgY c (ws i))) 0 mi nd dr me di re ∧ stp 100 800 g g 0 0 w w' := by
  have z1 := x99 R (nI i)
  rw [nwk_f hn hi] at z1
  have z2 := fun w => x39g (w := w) (z := nI c) (a := nI 1) (b := nI 500)
  rw [ok_rng (by decide) h1c hc5] at z2
  obtain ⟨w1, a1, R1, f1⟩ := x96 R hn false (c := 1) (by decide)
  obtain ⟨w2, a2, R2, f2⟩ := x40 R1 hn false (c := 2) (by decide)
  obtain ⟨w3, a3, R3, f3⟩ := x40 R2 hn false (c := 3) (by decide)
  have a2' : am_x 40 [.ref m, .int (nI 0), .int (nI 2)] w1 = _ := a2
  have a3' : am_x 40 [.ref m, .int (nI 0), .int (nI 3)] w2 = _ := a3
  have h2 := rm_get R2 hi hy
  have h3 := rm_get R3 hi hy
  have kf2 := mk_kf h2
  have kf3 := mk_kf h3
  obtain ⟨ma, mq, c2, -⟩ := h2
  obtain ⟨ma', mq', c3, d2, d3, g1, g2, g3⟩ := h3
  have pf : am_pf w3 (wad i) 10 2 (.int (nI c)) = some (am_pt w3 (wad i) (.inr (10, oK po ho c ma' mq' lo ac bu sl))) := pfc c3 (by show 2 < 9; decide) (by decide)
  obtain ⟨k1, k2⟩ := Mkv_fld (ho' := ho) (po' := po) (ch' := c) (lo' := lo) (ac' := ac) (bu' := bu) (sl' := sl) d2 d3 (by omega) g1 g2 g3
  have R4 := rm_wk2 R3 hn hi k1 (frm_wk k2 (by omega) (by omega))
  have v2 := x150 (rm_L R2) hn hi
  have v3 := x150 (rm_L R3) hn hi
  have e : ws i = (po / 4, po, ch, lo, ac, bu, sl, may, mp) := by rw [he]; exact hy
  refine ⟨_, ?_, ⟨_, _, _, _, _, _, _, by rw [hy]; exact R4⟩, stp_frm hJ (frm_tr (frm_wk f1 (show 100 ≤ 100 by decide) (show 101 ≤ 141 by decide)) (frm_tr (frm_wk f2 (by decide) (by decide)) (frm_tr (frm_wk f3 (by decide) (by decide)) (frm_wk k2 (by omega) (by omega))))) (Nat.le_refl 100) (show 141 ≤ 800 by decide)⟩
  simp only [bk178_0, bk178_6, bk178_10, bk178_81, bk178_13, bk178_22, bk178_29, bk178_25, bk178_30, bk178_34, bk178_37, bk178_42, bk178_46, bk178_49, bk178_52, bk178_56, bk178_60, bk178_63, bk178_66, bk178_73, bk178_69, bk178_74, bk178_78, bk178_83, bk178_87, bk178_91, bk178_94, bk178_97, bk178_102, bk178_106, bk178_109, bk178_113, bx178, rm_kf R, z1, a1, b2i_0, not_true_eq_false, z2, reduceCtorEq, not_false_eq_true, rm_kf R1, a2', gfc R2.1, oM_0, oM_1, oM_2, oM_3, oM_4, oM_5, oM_6, oM_7, oM_8, oM_9, oM_10, oM_11, rm_lk R2, v2, kf2, x38 c2 hp, gfc c2, oK_0, oK_1, oK_2, oK_3, oK_4, oK_5, oK_6, oK_7, oK_8, he, rm_kf R2, a3', gfc R3.1, rm_lk R3, v3, kf3, gfc c3, pf, Option.bind_some, bct_v, bct_t, otl_s, otl_n, List.cons_append, List.nil_append, List.getElem?_cons_zero, List.getElem?_cons_succ, ↓reduceIte]
theorem y178h (R : RMx w g m kq hq ca ba wl ed wad kd hr cp br n ws th mi nd dr me di re) (hn : n ≤ 3) (hJ : gJ w g) (hi : i < n) (hy : ws i = (ho, po, ch, lo, ac, bu, sl, may, mp)) (hp : po < 144) (hho : ho < 36) {c : Nat} (h1c : 1 ≤ c) (hc5 : c ≤ 500) (he : ¬ po / 4 = ho) :
    ∃ w', am_x 178 [.ref m, .int (nI i), .int (nI c)] w = some (.inl (some (.int (nI 0))), w') ∧ RM w' g m kd hr cp br n ws 3 mi nd dr me di re ∧ stp 100 800 g g 0 0 w w' := by
  have z1 := x99 R (nI i)
  rw [nwk_f hn hi] at z1
  have z2 := fun w => x39g (w := w) (z := nI c) (a := nI 1) (b := nI 500)
  rw [ok_rng (by decide) h1c hc5] at z2
  obtain ⟨w1, a1, R1, f1⟩ := x96 R hn false (c := 1) (by decide)
  obtain ⟨w2, a2, R2, f2⟩ := x40 R1 hn false (c := 2) (by decide)
  obtain ⟨w3, a3, R3, f3⟩ := x40 R2 hn true (c := 3) (by decide)
  have a2' : am_x 40 [.ref m, .int (nI 0), .int (nI 2)] w1 = _ := a2
  have a3' : am_x 40 [.ref m, .int (nI 1), .int (nI 3)] w2 = _ := a3
  have h2 := rm_get R2 hi hy
  have kf2 := mk_kf h2
  obtain ⟨ma, mq, c2, -⟩ := h2
  have v2 := x150 (rm_L R2) hn hi
  have e0 : (nI (po / 4) = nI ho) = (po / 4 = ho) := nI_eqS (by omega) (by omega)
  refine ⟨w3, ?_, ⟨_, _, _, _, _, _, _, R3⟩, stp_frm hJ (frm_tr f1 (frm_tr f2 f3)) (by decide) (by decide)⟩
  simp only [bk178_0, bk178_6, bk178_10, bk178_81, bk178_13, bk178_22, bk178_29, bk178_25, bk178_30, bk178_34, bk178_37, bk178_42, bk178_46, bk178_49, bk178_52, bk178_56, bk178_60, bk178_63, bk178_66, bk178_73, bk178_69, bk178_74, bk178_78, bk178_83, bk178_87, bk178_91, bk178_94, bk178_97, bk178_102, bk178_106, bk178_109, bk178_113, bx178, rm_kf R, z1, a1, b2i_0, not_true_eq_false, z2, reduceCtorEq, not_false_eq_true, rm_kf R1, a2', gfc R2.1, oM_0, oM_1, oM_2, oM_3, oM_4, oM_5, oM_6, oM_7, oM_8, oM_9, oM_10, oM_11, rm_lk R2, v2, kf2, x38 c2 hp, gfc c2, oK_0, oK_1, oK_2, oK_3, oK_4, oK_5, oK_6, oK_7, oK_8, e0, he, rm_kf R2, a3', Option.bind_some, bct_v, bct_t, otl_s, otl_n, List.cons_append, List.nil_append, List.getElem?_cons_zero, List.getElem?_cons_succ, ↓reduceIte]
theorem y178c (R : RMx w g m kq hq ca ba wl ed wad kd hr cp br n ws th mi nd dr me di re) (hn : n ≤ 3) (hJ : gJ w g) (hi : i < n) {z : Int32} (hz : z < nI 1 ∨ nI 500 < z) : ∃ w', am_x 178 [.ref m, .int (nI i), .int z] w = some (.inl (some (.int (nI 0))), w') ∧ RM w' g m kd hr cp br n ws 2 mi nd dr me di re ∧ stp 100 800 g g 0 0 w w' := by
  have z1 := x99 R (nI i)
  rw [nwk_f hn hi] at z1
  have z2 := fun w => x39g (w := w) (z := z) (a := nI 1) (b := nI 500)
  rw [ng_rng hz] at z2
  obtain ⟨w1, a1, R1, f1⟩ := x96 R hn false (c := 1) (by decide)
  obtain ⟨w2, a2, R2, f2⟩ := x40 R1 hn true (c := 2) (by decide)
  have a2' : am_x 40 [.ref m, .int (nI 1), .int (nI 2)] w1 = _ := a2
  refine ⟨w2, ?_, ⟨_, _, _, _, _, _, _, R2⟩, stp_frm hJ (frm_tr f1 f2) (by decide) (by decide)⟩
  simp only [bk178_0, bk178_6, bk178_10, bk178_81, bk178_13, bk178_22, bk178_29, bk178_25, bk178_30, bk178_34, bk178_37, bk178_42, bk178_46, bk178_49, bk178_52, bk178_56, bk178_60, bk178_63, bk178_66, bk178_73, bk178_69, bk178_74, bk178_78, bk178_83, bk178_87, bk178_91, bk178_94, bk178_97, bk178_102, bk178_106, bk178_109, bk178_113, bx178, rm_kf R, z1, a1, b2i_0, not_true_eq_false, z2, reduceCtorEq, not_false_eq_true, rm_kf R1, a2', Option.bind_some, bct_v, bct_t, otl_s, otl_n, List.cons_append, List.nil_append, List.getElem?_cons_zero, List.getElem?_cons_succ, ↓reduceIte]
theorem y178n (R : RMx w g m kq hq ca ba wl ed wad kd hr cp br n ws th mi nd dr me di re) (hn : n ≤ 3) (hJ : gJ w g) {z z2 : Int32} (hz : z < nI 0 ∨ nI n ≤ z) : ∃ w', am_x 178 [.ref m, .int z, .int z2] w = some (.inl (some (.int (nI 0))), w') ∧ RM w' g m kd hr cp br n ws 1 mi nd dr me di re ∧ stp 100 800 g g 0 0 w w' := by
  have z1 := x99 R z
  rw [nwk_t hn hz] at z1
  obtain ⟨w1, a1, R1, f1⟩ := x96 R hn true (c := 1) (by decide)
  refine ⟨w1, ?_, ⟨_, _, _, _, _, _, _, R1⟩, stp_frm hJ f1 (by decide) (by decide)⟩
  simp only [bk178_0, bk178_6, bk178_10, bk178_81, bk178_13, bk178_22, bk178_29, bk178_25, bk178_30, bk178_34, bk178_37, bk178_42, bk178_46, bk178_49, bk178_52, bk178_56, bk178_60, bk178_63, bk178_66, bk178_73, bk178_69, bk178_74, bk178_78, bk178_83, bk178_87, bk178_91, bk178_94, bk178_97, bk178_102, bk178_106, bk178_109, bk178_113, bx178, rm_kf R, z1, a1, b2i_0, reduceCtorEq, not_false_eq_true, Option.bind_some, bct_v, bct_t, otl_s, otl_n, List.cons_append, List.nil_append, List.getElem?_cons_zero, List.getElem?_cons_succ, ↓reduceIte]
end CB
end
section
/-! THE REFERENCE'S CALLS: tellPose, edge. Mine. -/
theorem stp_new {lo hi lo' hi' k s b t : Nat} {g : Nat → Nat} {w w1 w2 : am_Wd} (hJ : gJ w g) (e : ext w w1 k s) (hb : w.2.1 ≤ b) (hb2 : b < w1.2.1) (f : frm (up g b t) lo' hi' w1 w2) (h1 : lo ≤ lo') (h2 : hi' ≤ hi) (h3 : lo ≤ t) (h4 : t < hi) : stp lo hi g (up g b t) k s w w2 := by
  refine ⟨fun c hc hg => (f.1 c ?_).trans (e.1 c hc), fun c hc => up_n (by omega), fun c hc => ?_, fun c hc => ?_, ?_⟩
  · rw [up_n (by omega)]; omega
  · by_cases q : c = b
    · subst q; rw [up_s]; exact Or.inr ⟨h3, h4⟩
    · rw [up_n q]; exact Or.inl (hJ c hc)
  · rw [f.2] at hc
    rw [up_n (by omega)]
    exact hJ c (Nat.le_trans e.2.1 hc)
  · rw [f.2]
    exact e.2
section CC
variable {w : am_Wd} {g : Nat → Nat} {m kq hq ca ba wl ed : Nat} {wad : Nat → Nat} {kd hr : Nat → Nat} {cp br : Nat → Bool} {n : Nat} {ws : Nat → sW} {th mi nd : Nat} {dr me di re : Int32}
variable {i a ho po ch : Nat} {lo ac bu sl : Int32} {may : Nat → Bool} {mp : Nat → Nat}
theorem Mkv_may {F : Nat → Int32} {q : Nat → Bool} {ma mq : Nat} (h1 : cO w a 10 (oK po ho ch ma mq lo ac bu sl)) (hF : mR2 F q) (h3 : Rws w g mq (400 + 100 * i) mp) (hi : i < 3) (g1 : g a = 110 + 10 * i) (g2 : g ma = 111 + 10 * i) (g3 : g mq = 112 + 10 * i) :
    Mkv (mrw w ma F) g i a (ho, po, ch, lo, ac, bu, sl, q, mp) ∧ frm g (111 + 10 * i) (112 + 10 * i) w (mrw w ma F) := by
  have f : frm g (111 + 10 * i) (112 + 10 * i) w (mrw w ma F) := frm_pt (by omega) (by omega)
  exact ⟨⟨ma, mq, cO_of h1 (f.1 a (by omega)), ⟨F, pt_s, hF⟩, h3.of (f.1 mq (by omega)) (fun b z1 z2 => f.1 b (by omega)), g1, g2, g3⟩, f⟩
/-- tellPose -/
theorem y179 (R : RMx w g m kq hq ca ba wl ed wad kd hr cp br n ws th mi nd dr me di re) (hn : n ≤ 3) (hJ : gJ w g) (hi : i < n) (hy : ws i = (ho, po, ch, lo, ac, bu, sl, may, mp)) (hp : po < 144) :
    ∃ w' g', am_x 179 [.ref m, .int (nI i)] w = some (.inl (some (.int (nI (cnt 144 may)))), w') ∧ RM w' g' m kd hr cp br n (up ws i (tellY (ws i))) 0 mi nd dr me di re ∧ stp 100 800 g g' 1 144 w w' := by
  have z1 := x99 R (nI i)
  rw [nwk_f hn hi] at z1
  obtain ⟨w1, a1, R1, f1⟩ := x96 R hn false (c := 1) (by decide)
  have hJ1 : gJ w1 g := stp_J (stp_frm hJ f1 (Nat.le_refl 100) (Nat.le_refl 101))
  have h1 := rm_get R1 hi hy
  have kf1 := mk_kf h1
  have v1 := x150 (rm_L R1) hn hi
  have z37 := x37 h1
  have e1 : ext w1 (nwr w1 2 144 (fun _ => 0)) 1 144 := nwr_ext
  have gb : g w1.2.1 = 0 := hJ1 _ (Nat.le_refl _)
  have R2 := rm_g (rm_ext R1 hn hJ1 e1) (up_g (t := 111 + 10 * i) gb)
  have h2 := rm_get R2 hi hy
  have Gb : up g w1.2.1 (111 + 10 * i) w1.2.1 = 111 + 10 * i := up_s
  obtain ⟨ma, mq, c2, d2, d3, g1, g2, g3⟩ := h2
  have pf : am_pf (nwr w1 2 144 (fun _ => 0)) (wad i) 10 3 (.ref w1.2.1) = some (am_pt (nwr w1 2 144 (fun _ => 0)) (wad i) (.inr (10, oK po ho ch w1.2.1 mq lo ac bu sl))) := pfc c2 (by show 3 < 9; decide) (by decide)
  have ne : wad i ≠ w1.2.1 := fun q => by rw [q, Gb] at g1; omega
  have c3 : cO (am_pt (nwr w1 2 144 (fun _ => 0)) (wad i) (.inr (10, oK po ho ch w1.2.1 mq lo ac bu sl))) (wad i) 10 (oK po ho ch w1.2.1 mq lo ac bu sl) := pt_s
  have b3 : cI (am_pt (nwr w1 2 144 (fun _ => 0)) (wad i) (.inr (10, oK po ho ch w1.2.1 mq lo ac bu sl))) w1.2.1 2 144 (fun _ => 0) := cI_of nwr_at (pt_n (fun q => ne q.symm))
  have f3 : frm (up g w1.2.1 (111 + 10 * i)) (110 + 10 * i) (111 + 10 * i) (nwr w1 2 144 (fun _ => 0)) (am_pt (nwr w1 2 144 (fun _ => 0)) (wad i) (.inr (10, oK po ho ch w1.2.1 mq lo ac bu sl))) := frm_pt (by omega) (by omega)
  have r3 := d3.of (f3.1 mq (by omega)) (fun b z1 z2 => f3.1 b (by omega))
  generalize am_pt (nwr w1 2 144 (fun _ => 0)) (wad i) (.inr (10, oK po ho ch w1.2.1 mq lo ac bu sl)) = w3 at pf c3 b3 f3 r3
  have hF : mR2 (upd (fun _ => 0) po (b2i true)) (fun q => decide (q = po)) := fun q hq => by
    show upd (fun _ => 0) po (b2i true) q = b2i (decide (q = po))
    by_cases e : q = po
    · rw [e, pk_us, decide_eq_true rfl]
    · rw [pk_un e, decide_eq_false e]; rfl
  have pw : am_wi 2 w3 w1.2.1 (nI po) (b2i true) = some (mrw w3 w1.2.1 (upd (fun _ => 0) po (b2i true))) := wic b3 hp (by decide)
  obtain ⟨k1, k2⟩ := Mkv_may (g := up g w1.2.1 (111 + 10 * i)) c3 hF r3 (by omega) g1 Gb g3
  have f4 := frm_tr (frm_wk f3 (show 110 + 10 * i ≤ 110 + 10 * i by omega) (show 111 + 10 * i ≤ 113 + 10 * i by omega)) (frm_wk k2 (by omega) (by omega))
  have R4 := rm_wk2 R2 hn hi k1 f4
  have s1 : stp 100 800 g (up g w1.2.1 (111 + 10 * i)) 1 144 w1 (mrw w3 w1.2.1 (upd (fun _ => 0) po (b2i true))) := stp_new hJ1 e1 (Nat.le_refl _) (Nat.lt_succ_self _) f4 (by omega) (by omega) (by omega) (by omega)
  refine ⟨_, _, ?_, ⟨_, _, _, _, _, _, _, by rw [hy]; exact R4⟩, stp_wk (stp_tr (stp_frm hJ f1 (Nat.le_refl 100) (show 101 ≤ 800 by decide)) s1) (by omega) (by omega)⟩
  have na : am_na w1 2 (nI 144) = some (nwr w1 2 144 (fun _ => 0)) := na_nwr (by decide) rfl
  simp only [bk179_0, bk179_6, bk179_10, bk179_15, bk179_13, bk179_19, bk179_23, bk179_26, bk179_31, bk179_38, bk179_41, bk179_45, bk179_49, bk179_51, bx179, rm_kf R, z1, a1, b2i_0, gfc R1.1, oM_0, oM_1, oM_2, oM_3, oM_4, oM_5, oM_6, oM_7, oM_8, oM_9, oM_10, oM_11, rm_lk R1, v1, kf1, z37, na, pf, gfc c3, oK_0, oK_1, oK_2, oK_3, oK_4, oK_5, oK_6, oK_7, oK_8, nar_1, pw, Option.bind_some, bct_v, bct_t, otl_s, otl_n, List.cons_append, List.nil_append, List.getElem?_cons_zero, List.getElem?_cons_succ, ↓reduceIte]
theorem y179n (R : RMx w g m kq hq ca ba wl ed wad kd hr cp br n ws th mi nd dr me di re) (hn : n ≤ 3) (hJ : gJ w g) {z : Int32} (hz : z < nI 0 ∨ nI n ≤ z) : ∃ w', am_x 179 [.ref m, .int z] w = some (.inl (some (.int (nI 0))), w') ∧ RM w' g m kd hr cp br n ws 1 mi nd dr me di re ∧ stp 100 800 g g 0 0 w w' := by
  have z1 := x99 R z
  rw [nwk_t hn hz] at z1
  obtain ⟨w1, a1, R1, f1⟩ := x96 R hn true (c := 1) (by decide)
  refine ⟨w1, ?_, ⟨_, _, _, _, _, _, _, R1⟩, stp_frm hJ f1 (by decide) (by decide)⟩
  simp only [bk179_0, bk179_6, bk179_10, bk179_15, bk179_13, bk179_19, bk179_23, bk179_26, bk179_31, bk179_38, bk179_41, bk179_45, bk179_49, bk179_51, bx179, rm_kf R, z1, a1, b2i_0, reduceCtorEq, Option.bind_some, bct_v, bct_t, otl_s, otl_n, List.cons_append, List.nil_append, List.getElem?_cons_zero, List.getElem?_cons_succ, ↓reduceIte]
end CC
end
section
/-! THE REFERENCE'S CALLS: edge, lay. Mine. -/
section CD
variable {w : am_Wd} {g : Nat → Nat} {m kq hq ca ba wl ed : Nat} {wad : Nat → Nat} {kd hr : Nat → Nat} {cp br : Nat → Bool} {n : Nat} {ws : Nat → sW} {th mi nd : Nat} {dr me di re : Int32}
variable {i a ho po ch : Nat} {lo ac bu sl : Int32} {may : Nat → Bool} {mp : Nat → Nat}
theorem rm_kd (R : RMx w g m kq hq ca ba wl ed wad kd hr cp br n ws th mi nd dr me di re) (hn : n ≤ 3) {c j v : Nat} (hc : c < 36) (hj : j < 2) : ∃ w', am_wi 0 w (kq + 1 + c) (nI j) (nI v) = some w' ∧ RMx w' g m kq hq ca ba wl ed wad (up kd (2 * c + j) v) hr cp br n ws th mi nd dr me di re ∧ frm g 200 236 w w' := by
  obtain ⟨h1, k1, k2, k3, k4, k5, k6, g1, g2, g3, g4, g5, g6⟩ := R
  obtain ⟨w', e, r, f⟩ := k1.put (by omega) hc hj (v := v)
  have he : w'.1 ed = w.1 ed := by
    rcases k5.2 with ⟨-, -, -, e⟩ | ⟨-, e⟩ <;> exact f.1 ed (by omega)
  exact ⟨w', e, ⟨cO_of h1 (f.1 m (by omega)), r, k2.of (f.1 hq (by omega)) (fun b z1 z2 => f.1 b (by omega)), cI_of k3 (f.1 ca (by omega)), cI_of k4 (f.1 ba (by omega)), k5.of (f.1 wl (by omega)) he (by rw [f.2]), fun i hi => (k6 i hi).of (fun b z1 z2 => f.1 b (by omega)) (fun b z1 z2 => f.1 b (by omega)), g1, g2, g3, g4, g5, g6⟩, f⟩
theorem rm_hr (R : RMx w g m kq hq ca ba wl ed wad kd hr cp br n ws th mi nd dr me di re) (hn : n ≤ 3) {c j v : Nat} (hc : c < 36) (hj : j < 2) : ∃ w', am_wi 0 w (hq + 1 + c) (nI j) (nI v) = some w' ∧ RMx w' g m kq hq ca ba wl ed wad kd (up hr (2 * c + j) v) cp br n ws th mi nd dr me di re ∧ frm g 300 336 w w' := by
  obtain ⟨h1, k1, k2, k3, k4, k5, k6, g1, g2, g3, g4, g5, g6⟩ := R
  obtain ⟨w', e, r, f⟩ := k2.put (by omega) hc hj (v := v)
  have he : w'.1 ed = w.1 ed := by
    rcases k5.2 with ⟨-, -, -, e⟩ | ⟨-, e⟩ <;> exact f.1 ed (by omega)
  exact ⟨w', e, ⟨cO_of h1 (f.1 m (by omega)), k1.of (f.1 kq (by omega)) (fun b z1 z2 => f.1 b (by omega)), r, cI_of k3 (f.1 ca (by omega)), cI_of k4 (f.1 ba (by omega)), k5.of (f.1 wl (by omega)) he (by rw [f.2]), fun i hi => (k6 i hi).of (fun b z1 z2 => f.1 b (by omega)) (fun b z1 z2 => f.1 b (by omega)), g1, g2, g3, g4, g5, g6⟩, f⟩
/-- edge -/
theorem y176 (R : RMx w g m kq hq ca ba wl ed wad kd hr cp br n ws th mi nd dr me di re) (hn : n ≤ 3) (hJ : gJ w g) {c s k h d : Nat} (hc : c ≤ 35) (hs : s ≤ 3) (hk2 : k ≤ 2) (hh2 : h ≤ 16777215) (hb : nb c s = some d) :
    ∃ w', am_x 176 [.ref m, .int (nI c), .int (nI s), .int (nI k), .int (nI h)] w = some (.inl (some (.int (nI (kd (plc c s))))), w') ∧ RM w' g m (up kd (plc c s) k) (up hr (plc c s) (if k = 2 then h else 0)) cp br n ws 0 mi nd dr me di re ∧ stp 100 800 g g 0 0 w w' := by
  have hc' : c < 36 := by omega
  have hs' : s < 4 := by omega
  have hd := nb_lt hc' hs' hb
  have hkp := kp_lt hc' hs' hb
  have hw := way_lt (s := s)
  obtain ⟨w1, a1, R1, f1⟩ := x96 R hn false (c := 1) (by decide)
  obtain ⟨w2, a2, R2, f2⟩ := x40 R1 hn false (c := 2) (by decide)
  obtain ⟨w3, a3, R3, f3⟩ := rm_kd R2 hn hkp hw (v := k)
  obtain ⟨w4, a4, R4, f4⟩ := rm_hr R3 hn hkp hw (v := if k = 2 then h else 0)
  have a1' : am_x 96 [.ref m, .int (nI 0), .int (nI 1)] w = _ := a1
  have a2' : am_x 40 [.ref m, .int (nI 0), .int (nI 2)] w1 = _ := a2
  have zc := x97 (w := w) hc
  have zs := x98 (w := w) hs
  have zb := fun w => x100 (w := w) hc' hs'
  rw [hb] at zb
  have zb' : ∀ w, am_x 100 [.int (nI c), .int (nI s)] w = some (.inl (some (.int (nI d))), w) := zb
  have zk := fun w => x39g (w := w) (z := nI k) (a := nI 0) (b := nI 2)
  rw [ok_rng (by decide) (Nat.zero_le k) hk2] at zk
  have zh := fun w => x39g (w := w) (z := nI h) (a := nI 0) (b := nI 16777215)
  rw [ok_rng (by decide) (Nat.zero_le h) hh2] at zh
  have zp := fun w => x142 (w := w) hc' hs' hb
  have zw := fun w => x41 (w := w) hs'
  have p2 := R2.2.1.row hkp
  have v2 := R2.2.1.at hkp hw
  have p3 := R3.2.2.1.row hkp
  rw [← plc_at hb] at v2
  have e1 : RM w4 g m (up kd (plc c s) k) (up hr (plc c s) (if k = 2 then h else 0)) cp br n ws 0 mi nd dr me di re := by
    rw [plc_at hb]
    exact ⟨_, _, _, _, _, _, _, R4⟩
  refine ⟨w4, ?_, e1, stp_frm hJ (frm_tr (frm_wk f1 (show 100 ≤ 100 by decide) (show 101 ≤ 336 by decide)) (frm_tr (frm_wk f2 (by decide) (by decide)) (frm_tr (frm_wk f3 (by decide) (by decide)) (frm_wk f4 (by decide) (by decide))))) (Nat.le_refl 100) (show 336 ≤ 800 by decide)⟩
  by_cases q : k = 2
  · have a4' : am_wi 0 w3 (hq + 1 + (if s = 0 ∨ s = 3 then d else c)) (nI (if s = 1 ∨ s = 3 then 0 else 1)) (nI h) = some w4 := by rw [if_pos q] at a4; exact a4
    have ek : (nI k = nI 2) = True := eq_true (congrArg nI q)
    simp only [bk176_0, bk176_5, bk176_15, bk176_8, bk176_20, bk176_12, bk176_24, bk176_19, bk176_29, bk176_27, bk176_35, bk176_59, bk176_39, bk176_64, bk176_45, bk176_68, bk176_48, bk176_73, bk176_71, bk176_56, bk176_78, bk176_63, bk176_84, bk176_87, bk176_91, bk176_92, bk176_98, bk176_101, bk176_105, bk176_107, bk176_111, bk176_114, bk176_118, bk176_128, bk176_123, bk176_129, bk176_130, bx176, zc, zs, rm_kf R, a1', nI_eqS (show 0 < 2147483648 by decide) (show 0 < 2147483648 by decide), not_true_eq_false, zb', nI_m1S (show d < 2147483648 by omega), zk, zh, b2i_0, reduceCtorEq, not_false_eq_true, rm_kf R1, a2', zp, zw, gfc R2.1, gfc R3.1, oM_0, oM_1, oM_2, oM_3, oM_4, oM_5, oM_6, oM_7, oM_8, oM_9, oM_10, oM_11, p2, v2, a3, p3, a4', ek, Option.bind_some, bct_v, bct_t, otl_s, otl_n, List.cons_append, List.nil_append, List.getElem?_cons_zero, List.getElem?_cons_succ, ↓reduceIte]
  · have a4' : am_wi 0 w3 (hq + 1 + (if s = 0 ∨ s = 3 then d else c)) (nI (if s = 1 ∨ s = 3 then 0 else 1)) (nI 0) = some w4 := by rw [if_neg q] at a4; exact a4
    have ek : (nI k = nI 2) = False := by rw [nI_eqS (by omega) (by decide)]; exact eq_false q
    simp only [bk176_0, bk176_5, bk176_15, bk176_8, bk176_20, bk176_12, bk176_24, bk176_19, bk176_29, bk176_27, bk176_35, bk176_59, bk176_39, bk176_64, bk176_45, bk176_68, bk176_48, bk176_73, bk176_71, bk176_56, bk176_78, bk176_63, bk176_84, bk176_87, bk176_91, bk176_92, bk176_98, bk176_101, bk176_105, bk176_107, bk176_111, bk176_114, bk176_118, bk176_128, bk176_123, bk176_129, bk176_130, bx176, zc, zs, rm_kf R, a1', nI_eqS (show 0 < 2147483648 by decide) (show 0 < 2147483648 by decide), not_true_eq_false, zb', nI_m1S (show d < 2147483648 by omega), zk, zh, b2i_0, reduceCtorEq, not_false_eq_true, rm_kf R1, a2', zp, zw, gfc R2.1, gfc R3.1, oM_0, oM_1, oM_2, oM_3, oM_4, oM_5, oM_6, oM_7, oM_8, oM_9, oM_10, oM_11, p2, v2, a3, p3, a4', ek, Option.bind_some, bct_v, bct_t, otl_s, otl_n, List.cons_append, List.nil_append, List.getElem?_cons_zero, List.getElem?_cons_succ, ↓reduceIte]
theorem y176c (R : RMx w g m kq hq ca ba wl ed wad kd hr cp br n ws th mi nd dr me di re) (hn : n ≤ 3) (hJ : gJ w g) {z z2 z3 z4 : Int32} (hz : z < nI 0 ∨ nI 35 < z) : ∃ w', am_x 176 [.ref m, .int z, .int z2, .int z3, .int z4] w = some (.inl (some (.int (nI 0))), w') ∧ RM w' g m kd hr cp br n ws 1 mi nd dr me di re ∧ stp 100 800 g g 0 0 w w' := by
  have z1 := x97n (w := w) hz
  obtain ⟨w1, a1, R1, f1⟩ := x96 R hn true (c := 1) (by decide)
  have a1' : am_x 96 [.ref m, .int (nI 1), .int (nI 1)] w = _ := a1
  refine ⟨w1, ?_, ⟨_, _, _, _, _, _, _, R1⟩, stp_frm hJ f1 (by decide) (by decide)⟩
  simp only [bk176_0, bk176_5, bk176_15, bk176_8, bk176_20, bk176_12, bk176_24, bk176_19, bk176_29, bk176_27, bk176_35, bk176_59, bk176_39, bk176_64, bk176_45, bk176_68, bk176_48, bk176_73, bk176_71, bk176_56, bk176_78, bk176_63, bk176_84, bk176_87, bk176_91, bk176_92, bk176_98, bk176_101, bk176_105, bk176_107, bk176_111, bk176_114, bk176_118, bk176_128, bk176_123, bk176_129, bk176_130, bx176, z1, rm_kf R, a1', nI_eqS (show 1 < 2147483648 by decide) (show 0 < 2147483648 by decide), show ¬ 1 = 0 from by decide, not_false_eq_true, b2i_0, reduceCtorEq, Option.bind_some, bct_v, bct_t, otl_s, otl_n, List.cons_append, List.nil_append, List.getElem?_cons_zero, List.getElem?_cons_succ, ↓reduceIte]
theorem y176s (R : RMx w g m kq hq ca ba wl ed wad kd hr cp br n ws th mi nd dr me di re) (hn : n ≤ 3) (hJ : gJ w g) {c : Nat} (hc : c ≤ 35) {z z3 z4 : Int32} (hz : z < nI 0 ∨ nI 3 < z) : ∃ w', am_x 176 [.ref m, .int (nI c), .int z, .int z3, .int z4] w = some (.inl (some (.int (nI 0))), w') ∧ RM w' g m kd hr cp br n ws 1 mi nd dr me di re ∧ stp 100 800 g g 0 0 w w' := by
  have z1 := x98n (w := w) hz
  obtain ⟨w1, a1, R1, f1⟩ := x96 R hn true (c := 1) (by decide)
  have a1' : am_x 96 [.ref m, .int (nI 1), .int (nI 1)] w = _ := a1
  refine ⟨w1, ?_, ⟨_, _, _, _, _, _, _, R1⟩, stp_frm hJ f1 (by decide) (by decide)⟩
  simp only [bk176_0, bk176_5, bk176_15, bk176_8, bk176_20, bk176_12, bk176_24, bk176_19, bk176_29, bk176_27, bk176_35, bk176_59, bk176_39, bk176_64, bk176_45, bk176_68, bk176_48, bk176_73, bk176_71, bk176_56, bk176_78, bk176_63, bk176_84, bk176_87, bk176_91, bk176_92, bk176_98, bk176_101, bk176_105, bk176_107, bk176_111, bk176_114, bk176_118, bk176_128, bk176_123, bk176_129, bk176_130, bx176, x97 (w := w) hc, z1, rm_kf R, a1', nI_eqS (show 1 < 2147483648 by decide) (show 0 < 2147483648 by decide), show ¬ 1 = 0 from by decide, not_false_eq_true, not_true_eq_false, b2i_0, reduceCtorEq, Option.bind_some, bct_v, bct_t, otl_s, otl_n, List.cons_append, List.nil_append, List.getElem?_cons_zero, List.getElem?_cons_succ, ↓reduceIte]
theorem y176o (R : RMx w g m kq hq ca ba wl ed wad kd hr cp br n ws th mi nd dr me di re) (hn : n ≤ 3) (hJ : gJ w g) {c s : Nat} (hc : c ≤ 35) (hs : s ≤ 3) (hb : nb c s = none) {z3 z4 : Int32} : ∃ w', am_x 176 [.ref m, .int (nI c), .int (nI s), .int z3, .int z4] w = some (.inl (some (.int (nI 0))), w') ∧ RM w' g m kd hr cp br n ws 2 mi nd dr me di re ∧ stp 100 800 g g 0 0 w w' := by
  obtain ⟨w1, a1, R1, f1⟩ := x96 R hn false (c := 1) (by decide)
  obtain ⟨w2, a2, R2, f2⟩ := x40 R1 hn true (c := 2) (by decide)
  have a1' : am_x 96 [.ref m, .int (nI 0), .int (nI 1)] w = _ := a1
  have a2' : am_x 40 [.ref m, .int (nI 1), .int (nI 2)] w1 = _ := a2
  have zb := fun w => x100 (w := w) (c := c) (s := s) (by omega) (by omega)
  rw [hb] at zb
  have zb' : ∀ w, am_x 100 [.int (nI c), .int (nI s)] w = some (.inl (some (.int (-1))), w) := zb
  refine ⟨w2, ?_, ⟨_, _, _, _, _, _, _, R2⟩, stp_frm hJ (frm_tr f1 f2) (by decide) (by decide)⟩
  simp only [bk176_0, bk176_5, bk176_15, bk176_8, bk176_20, bk176_12, bk176_24, bk176_19, bk176_29, bk176_27, bk176_35, bk176_59, bk176_39, bk176_64, bk176_45, bk176_68, bk176_48, bk176_73, bk176_71, bk176_56, bk176_78, bk176_63, bk176_84, bk176_87, bk176_91, bk176_92, bk176_98, bk176_101, bk176_105, bk176_107, bk176_111, bk176_114, bk176_118, bk176_128, bk176_123, bk176_129, bk176_130, bx176, x97 (w := w) hc, x98 (w := w) hs, rm_kf R, a1', nI_eqS (show 0 < 2147483648 by decide) (show 0 < 2147483648 by decide), not_false_eq_true, not_true_eq_false, zb', rm_kf R1, a2', b2i_0, reduceCtorEq, Option.bind_some, bct_v, bct_t, otl_s, otl_n, List.cons_append, List.nil_append, List.getElem?_cons_zero, List.getElem?_cons_succ, ↓reduceIte]
theorem y176k (R : RMx w g m kq hq ca ba wl ed wad kd hr cp br n ws th mi nd dr me di re) (hn : n ≤ 3) (hJ : gJ w g) {c s d : Nat} (hc : c ≤ 35) (hs : s ≤ 3) (hb : nb c s = some d) {z3 z4 : Int32} (hz : z3 < nI 0 ∨ nI 2 < z3) : ∃ w', am_x 176 [.ref m, .int (nI c), .int (nI s), .int z3, .int z4] w = some (.inl (some (.int (nI 0))), w') ∧ RM w' g m kd hr cp br n ws 2 mi nd dr me di re ∧ stp 100 800 g g 0 0 w w' := by
  obtain ⟨w1, a1, R1, f1⟩ := x96 R hn false (c := 1) (by decide)
  obtain ⟨w2, a2, R2, f2⟩ := x40 R1 hn true (c := 2) (by decide)
  have a1' : am_x 96 [.ref m, .int (nI 0), .int (nI 1)] w = _ := a1
  have a2' : am_x 40 [.ref m, .int (nI 1), .int (nI 2)] w1 = _ := a2
  have hd := nb_lt (show c < 36 by omega) (show s < 4 by omega) hb
  have zb := fun w => x100 (w := w) (c := c) (s := s) (by omega) (by omega)
  rw [hb] at zb
  have zb' : ∀ w, am_x 100 [.int (nI c), .int (nI s)] w = some (.inl (some (.int (nI d))), w) := zb
  have zk := fun w => x39g (w := w) (z := z3) (a := nI 0) (b := nI 2)
  rw [ng_rng hz] at zk
  refine ⟨w2, ?_, ⟨_, _, _, _, _, _, _, R2⟩, stp_frm hJ (frm_tr f1 f2) (by decide) (by decide)⟩
  simp only [bk176_0, bk176_5, bk176_15, bk176_8, bk176_20, bk176_12, bk176_24, bk176_19, bk176_29, bk176_27, bk176_35, bk176_59, bk176_39, bk176_64, bk176_45, bk176_68, bk176_48, bk176_73, bk176_71, bk176_56, bk176_78, bk176_63, bk176_84, bk176_87, bk176_91, bk176_92, bk176_98, bk176_101, bk176_105, bk176_107, bk176_111, bk176_114, bk176_118, bk176_128, bk176_123, bk176_129, bk176_130, bx176, x97 (w := w) hc, x98 (w := w) hs, rm_kf R, a1', nI_eqS (show 0 < 2147483648 by decide) (show 0 < 2147483648 by decide), not_false_eq_true, not_true_eq_false, zb', nI_m1S (show d < 2147483648 by omega), zk, rm_kf R1, a2', b2i_0, reduceCtorEq, Option.bind_some, bct_v, bct_t, otl_s, otl_n, List.cons_append, List.nil_append, List.getElem?_cons_zero, List.getElem?_cons_succ, ↓reduceIte]
theorem y176h (R : RMx w g m kq hq ca ba wl ed wad kd hr cp br n ws th mi nd dr me di re) (hn : n ≤ 3) (hJ : gJ w g) {c s d k : Nat} (hc : c ≤ 35) (hs : s ≤ 3) (hb : nb c s = some d) (hk2 : k ≤ 2) {z4 : Int32} (hz : z4 < nI 0 ∨ nI 16777215 < z4) : ∃ w', am_x 176 [.ref m, .int (nI c), .int (nI s), .int (nI k), .int z4] w = some (.inl (some (.int (nI 0))), w') ∧ RM w' g m kd hr cp br n ws 2 mi nd dr me di re ∧ stp 100 800 g g 0 0 w w' := by
  obtain ⟨w1, a1, R1, f1⟩ := x96 R hn false (c := 1) (by decide)
  obtain ⟨w2, a2, R2, f2⟩ := x40 R1 hn true (c := 2) (by decide)
  have a1' : am_x 96 [.ref m, .int (nI 0), .int (nI 1)] w = _ := a1
  have a2' : am_x 40 [.ref m, .int (nI 1), .int (nI 2)] w1 = _ := a2
  have hd := nb_lt (show c < 36 by omega) (show s < 4 by omega) hb
  have zb := fun w => x100 (w := w) (c := c) (s := s) (by omega) (by omega)
  rw [hb] at zb
  have zb' : ∀ w, am_x 100 [.int (nI c), .int (nI s)] w = some (.inl (some (.int (nI d))), w) := zb
  have zk := fun w => x39g (w := w) (z := nI k) (a := nI 0) (b := nI 2)
  rw [ok_rng (by decide) (Nat.zero_le k) hk2] at zk
  have zh := fun w => x39g (w := w) (z := z4) (a := nI 0) (b := nI 16777215)
  rw [ng_rng hz] at zh
  refine ⟨w2, ?_, ⟨_, _, _, _, _, _, _, R2⟩, stp_frm hJ (frm_tr f1 f2) (by decide) (by decide)⟩
  simp only [bk176_0, bk176_5, bk176_15, bk176_8, bk176_20, bk176_12, bk176_24, bk176_19, bk176_29, bk176_27, bk176_35, bk176_59, bk176_39, bk176_64, bk176_45, bk176_68, bk176_48, bk176_73, bk176_71, bk176_56, bk176_78, bk176_63, bk176_84, bk176_87, bk176_91, bk176_92, bk176_98, bk176_101, bk176_105, bk176_107, bk176_111, bk176_114, bk176_118, bk176_128, bk176_123, bk176_129, bk176_130, bx176, x97 (w := w) hc, x98 (w := w) hs, rm_kf R, a1', nI_eqS (show 0 < 2147483648 by decide) (show 0 < 2147483648 by decide), not_false_eq_true, not_true_eq_false, zb', nI_m1S (show d < 2147483648 by omega), zk, zh, rm_kf R1, a2', b2i_0, reduceCtorEq, Option.bind_some, bct_v, bct_t, otl_s, otl_n, List.cons_append, List.nil_append, List.getElem?_cons_zero, List.getElem?_cons_succ, ↓reduceIte]
end CD
end
section
/-! THE REFERENCE'S CALLS: lay. Mine. -/
section CE
variable {w : am_Wd} {g : Nat → Nat} {m kq hq ca ba wl ed : Nat} {wad : Nat → Nat} {kd hr : Nat → Nat} {cp br : Nat → Bool} {n : Nat} {ws : Nat → sW} {th mi nd : Nat} {dr me di re : Int32}
variable {i a ho po ch : Nat} {lo ac bu sl : Int32} {may : Nat → Bool} {mp : Nat → Nat}
theorem plc_1 {c s d : Nat} (hs : s = 1 ∨ s = 2) (h : nb c s = some d) : plc c s = 2 * c + (s - 1) := by
  rw [plc_at h]
  rcases hs with rfl | rfl <;> rfl
theorem it206 (R : RMx w g m kq hq ca ba wl ed wad kd hr cp br n ws th mi nd dr me di re) (hn : n ≤ 3) {c j z : Nat} (hc : c < 36) (hj : j < 2) (hz : z < 127) :
    ∃ w', am_run 206 38 [some (.ref m), none, some (.int (nI z)), some (.int (nI c)), some (.int (nI j))] [] w = am_run 206 38 [some (.ref m), none, some (.int (nI (lay1 c (j + 1) (z, kd, hr)).1)), some (.int (nI c)), some (.int (nI (j + 1)))] [] w' ∧ RMx w' g m kq hq ca ba wl ed wad (lay1 c (j + 1) (z, kd, hr)).2.1 (lay1 c (j + 1) (z, kd, hr)).2.2 cp br n ws th mi nd dr me di re ∧ frm g 200 336 w w' := by
  have y := x143 (w := w) hc hj
  unfold lay1
  rw [bk206_38, if_neg (by rw [nI_leS (by decide) (by omega)]; omega)]
  cases e : nb c (j + 1) with
  | none =>
    rw [e] at y
    have y' : am_x 143 [.int (nI c), .int (nI j)] w = some (.inl (some (.int (nI 0))), w) := y
    refine ⟨w, ?_, R, frm_rf⟩
    rw [if_pos rfl]
    simp only [bk206_44, y', bk206_50, not_true_eq_false, bk206_53, bk206_97, nI_add, Option.bind_some, bct_v, bct_t, otl_s, otl_n, List.cons_append, List.nil_append, List.getElem?_cons_zero, List.getElem?_cons_succ, ↓reduceIte]
  | some d =>
    rw [e] at y
    have y' : am_x 143 [.int (nI c), .int (nI j)] w = some (.inl (some (.int (nI 1))), w) := y
    have ep : plc c (j + 1) = 2 * c + j := plc_1 (by omega) e
    rw [if_neg (fun q => nomatch q), ep]
    obtain ⟨w1, a1, R1, f1⟩ := rm_kd R hn hc hj (v := if 40 ≤ (29 * z + 13) % 127 then 0 else 1)
    obtain ⟨w2, a2, R2, f2⟩ := rm_hr R1 hn hc hj (v := 0)
    have p0 := R.2.1.row hc
    have p1 := R1.2.2.1.row hc
    have ez : bj_irem (nI 29 * nI z + nI 13) (nI 127) = nI ((29 * z + 13) % 127) := by rw [nI_mulS, nI_add, nI_remS (by omega) (by decide) (by decide)]
    have el : (nI 40 ≤ nI ((29 * z + 13) % 127)) = (40 ≤ (29 * z + 13) % 127) := nI_leS (by decide) (by omega)
    refine ⟨w2, ?_, R2, frm_tr (frm_wk f1 (by decide) (by decide)) (frm_wk f2 (by decide) (by decide))⟩
    by_cases q : 40 ≤ (29 * z + 13) % 127
    · rw [if_pos q] at a1
      simp only [bk206_44, y', bk206_50, nI_eqS (show 1 < 2147483648 by decide) (show 0 < 2147483648 by decide), show ¬ 1 = 0 from by decide, not_false_eq_true, bk206_56, gfc R.1, oM_0, oM_1, oM_2, oM_3, oM_4, oM_5, oM_6, oM_7, oM_8, oM_9, oM_10, oM_11, ez, bk206_71, p0, bk206_73, el, q, bk206_85, bk206_86, a1, bk206_87, gfc R1.1, bk206_91, p1, bk206_93, a2, bk206_97, nI_add, Option.bind_some, bct_v, bct_t, otl_s, otl_n, List.cons_append, List.nil_append, List.getElem?_cons_zero, List.getElem?_cons_succ, ↓reduceIte]
    · rw [if_neg q] at a1
      simp only [bk206_44, y', bk206_50, nI_eqS (show 1 < 2147483648 by decide) (show 0 < 2147483648 by decide), show ¬ 1 = 0 from by decide, not_false_eq_true, bk206_56, gfc R.1, oM_0, oM_1, oM_2, oM_3, oM_4, oM_5, oM_6, oM_7, oM_8, oM_9, oM_10, oM_11, ez, bk206_71, p0, bk206_73, el, q, bk206_81, bk206_86, a1, bk206_87, gfc R1.1, bk206_91, p1, bk206_93, a2, bk206_97, nI_add, Option.bind_some, bct_v, bct_t, otl_s, otl_n, List.cons_append, List.nil_append, List.getElem?_cons_zero, List.getElem?_cons_succ, ↓reduceIte]
theorem cell206 (R : RMx w g m kq hq ca ba wl ed wad kd hr cp br n ws th mi nd dr me di re) (hn : n ≤ 3) {c z : Nat} (hc : c < 36) (hz : z < 127) :
    ∃ w', am_run 206 29 [some (.ref m), none, some (.int (nI z)), some (.int (nI c)), none] [] w = am_run 206 29 [some (.ref m), none, some (.int (nI (lay1 c 2 (lay1 c 1 (z, kd, hr))).1)), some (.int (nI (c + 1))), none] [] w' ∧ RMx w' g m kq hq ca ba wl ed wad (lay1 c 2 (lay1 c 1 (z, kd, hr))).2.1 (lay1 c 2 (lay1 c 1 (z, kd, hr))).2.2 cp br n ws th mi nd dr me di re ∧ frm g 200 336 w w' := by
  obtain ⟨w1, e1, R1, f1⟩ := it206 R hn (j := 0) hc (by decide) hz
  have hz1 : (lay1 c 1 (z, kd, hr)).1 < 127 := lay1_lt hz
  obtain ⟨w2, e2, R2, f2⟩ := it206 R1 hn (j := 1) hc (by decide) hz1
  refine ⟨w2, ?_, R2, frm_tr f1 f2⟩
  rw [bk206_29, if_neg (by rw [nI_leS (by decide) (by omega)]; omega), bk206_35]
  refine Eq.trans e1 (Eq.trans e2 ?_)
  rw [bk206_38, if_pos (by rw [nI_leS (by decide) (by decide)]; decide), bk206_103, nI_add]
theorem loop206 (R : RMx w g m kq hq ca ba wl ed wad kd hr cp br n ws th mi nd dr me di re) (hn : n ≤ 3) {s : Nat} (hs : s < 127) : ∀ c, c ≤ 36 →
    ∃ w', am_run 206 29 [some (.ref m), none, some (.int (nI s)), some (.int (nI 0)), none] [] w = am_run 206 29 [some (.ref m), none, some (.int (nI (layN c (s, kd, hr)).1)), some (.int (nI c)), none] [] w' ∧ RMx w' g m kq hq ca ba wl ed wad (layN c (s, kd, hr)).2.1 (layN c (s, kd, hr)).2.2 cp br n ws th mi nd dr me di re ∧ frm g 200 336 w w' := by
  intro c
  induction c with
  | zero => exact fun _ => ⟨w, rfl, R, frm_rf⟩
  | succ c ih =>
    intro hc
    obtain ⟨w1, e1, R1, f1⟩ := ih (by omega)
    obtain ⟨w2, e2, R2, f2⟩ := cell206 R1 hn (c := c) (by omega) (layN_lt (z := (s, kd, hr)) hs c)
    exact ⟨w2, e1.trans e2, R2, frm_tr f1 f2⟩
theorem lay1_ok {c s : Nat} {z : sLay} (h : kdok z.2.1) : kdok (lay1 c s z).2.1 := by
  unfold lay1
  split
  · exact h
  · intro k
    show up z.2.1 (plc c s) _ k ≤ 2
    unfold up
    split
    · split <;> decide
    · exact h k
theorem layN_ok {z : sLay} (h : kdok z.2.1) : ∀ c, kdok (layN c z).2.1
  | 0 => h
  | c + 1 => lay1_ok (lay1_ok (layN_ok h c))
theorem y206 (R : RMx w g m kq hq ca ba wl ed wad kd hr cp br n ws th mi nd dr me di re) (hn : n ≤ 3) (hJ : gJ w g) (hk : kdok kd) {s : Nat} (hs : s ≤ 126) : ∃ w', am_x 206 [.ref m, .int (nI s)] w = some (.inl (some (.int (nI (cnt 72 (fun k => wiP k && (layN 36 (s, kd, hr)).2.1 k == 1))))), w') ∧ RM w' g m (layN 36 (s, kd, hr)).2.1 (layN 36 (s, kd, hr)).2.2 cp br n ws 0 mi nd dr me di re ∧ stp 100 800 g g 0 0 w w' := by
  have z := x39g (w := w) (z := nI s) (a := nI 0) (b := nI 126)
  rw [ok_rng (by decide) (Nat.zero_le s) hs] at z
  obtain ⟨w1, a1, R1, f1⟩ := x96 R hn false (c := 1) (by decide)
  have a1' : am_x 96 [.ref m, .int (nI 0), .int (nI 1)] w = _ := a1
  obtain ⟨w2, e2, R2, f2⟩ := loop206 R1 hn (s := s) (by omega) 36 (Nat.le_refl 36)
  have zk := x177 R2 (layN_ok (z := (s, kd, hr)) hk 36) (q := 1) (by decide)
  refine ⟨w2, ?_, ⟨_, _, _, _, _, _, _, R2⟩, stp_frm hJ (frm_tr (frm_wk f1 (show 100 ≤ 100 by decide) (show 101 ≤ 336 by decide)) (frm_wk f2 (by decide) (by decide))) (Nat.le_refl 100) (show 336 ≤ 800 by decide)⟩
  have st : am_x 206 [.ref m, .int (nI s)] w = am_run 206 29 [some (.ref m), none, some (.int (nI s)), some (.int (nI 0)), none] [] w1 := by
    simp only [bx206, bk206_0, z, bk206_8, b2i_0, reduceCtorEq, not_false_eq_true, bk206_15, bk206_16, rm_kf R, a1', bk206_20, bk206_25, Option.bind_some, bct_v, bct_t, otl_s, otl_n, List.cons_append, List.nil_append, List.getElem?_cons_zero, List.getElem?_cons_succ, ↓reduceIte]
  rw [st, e2, bk206_29, if_pos (by rw [nI_leS (by decide) (by decide)]; decide)]
  simp only [bk206_109, rm_kf R2, zk, bk206_114, Option.bind_some, bct_v, bct_t, otl_s, otl_n, List.cons_append, List.nil_append, List.getElem?_cons_zero, List.getElem?_cons_succ, ↓reduceIte]
theorem y206n (R : RMx w g m kq hq ca ba wl ed wad kd hr cp br n ws th mi nd dr me di re) (hn : n ≤ 3) (hJ : gJ w g) {z : Int32} (hz : z < nI 0 ∨ nI 126 < z) : ∃ w', am_x 206 [.ref m, .int z] w = some (.inl (some (.int (nI 0))), w') ∧ RM w' g m kd hr cp br n ws 1 mi nd dr me di re ∧ stp 100 800 g g 0 0 w w' := by
  have z1 := x39g (w := w) (z := z) (a := nI 0) (b := nI 126)
  rw [ng_rng hz] at z1
  obtain ⟨w1, a1, R1, f1⟩ := x96 R hn true (c := 1) (by decide)
  have a1' : am_x 96 [.ref m, .int (nI 1), .int (nI 1)] w = _ := a1
  refine ⟨w1, ?_, ⟨_, _, _, _, _, _, _, R1⟩, stp_frm hJ f1 (by decide) (by decide)⟩
  simp only [bx206, bk206_0, z1, bk206_8, b2i_0, not_true_eq_false, bk206_11, bk206_16, rm_kf R, a1', bk206_20, reduceCtorEq, bk206_23, Option.bind_some, bct_v, bct_t, otl_s, otl_n, List.cons_append, List.nil_append, List.getElem?_cons_zero, List.getElem?_cons_succ, ↓reduceIte]
end CE
end
