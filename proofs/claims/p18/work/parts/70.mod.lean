/-! THE REFERENCE: its cells; lists; small methods. Mine. -/
/-- a world grown: nothing old is changed; at most k cells of s slots more -/
def ext (w w' : am_Wd) (k s : Nat) : Prop := (∀ b, b < w.2.1 → w'.1 b = w.1 b) ∧ w.2.1 ≤ w'.2.1 ∧ w'.2.1 ≤ w.2.1 + k ∧ w.2.2.1 ≤ w'.2.2.1 ∧ w'.2.2.1 ≤ w.2.2.1 + s ∧ w'.2.2.2 = w.2.2.2
theorem ext_rf {w : am_Wd} : ext w w 0 0 := ⟨fun _ _ => rfl, Nat.le_refl _, Nat.le_refl _, Nat.le_refl _, Nat.le_refl _, rfl⟩
theorem ext_tr {w w' w'' : am_Wd} {k s k' s' : Nat} (h : ext w w' k s) (h' : ext w' w'' k' s') : ext w w'' (k + k') (s + s') := by
  obtain ⟨a1, a2, a3, a4, a5, a6⟩ := h
  obtain ⟨b1, b2, b3, b4, b5, b6⟩ := h'
  exact ⟨fun b hb => (b1 b (by omega)).trans (a1 b hb), by omega, by omega, by omega, by omega, b6.trans a6⟩
theorem ext_wk {w w' : am_Wd} {k s k' s' : Nat} (h : ext w w' k s) (hk : k ≤ k') (hs : s ≤ s') : ext w w' k' s' := by
  obtain ⟨a1, a2, a3, a4, a5, a6⟩ := h
  exact ⟨a1, a2, by omega, a4, by omega, a6⟩
theorem ext_nw {w : am_Wd} {e : am_En} {n : Nat} : ext w (am_nw w e n) 1 n := ⟨fun b hb => nw_n (by omega), Nat.le_succ _, Nat.le_refl _, Nat.le_add_right _ _, Nat.le_refl _, rfl⟩
/-- something new written -/
theorem ext_pt {w w' : am_Wd} {k s a : Nat} {e : am_En} (h : ext w w' k s) (ha : w.2.1 ≤ a) : ext w (am_pt w' a e) k s := by
  obtain ⟨a1, a2, a3, a4, a5, a6⟩ := h
  exact ⟨fun b hb => (pt_n (by omega)).trans (a1 b hb), a2, a3, a4, a5, a6⟩
/-- rows of two, one behind another -/
def Rws (w : am_Wd) (g : Nat → Nat) (q t : Nat) (kd : Nat → Nat) : Prop := cQ w q 6 36 (fun i => if i < 36 then some (q + 1 + i) else none) ∧ ∀ c, c < 36 → (∃ f, cI w (q + 1 + c) 0 2 f ∧ f 0 = nI (kd (2 * c)) ∧ f 1 = nI (kd (2 * c + 1))) ∧ g (q + 1 + c) = t + c
theorem Rws.of {w w' : am_Wd} {g : Nat → Nat} {q t : Nat} {kd : Nat → Nat} (h : Rws w g q t kd) (e : w'.1 q = w.1 q) (e2 : ∀ b, t ≤ g b → g b < t + 36 → w'.1 b = w.1 b) : Rws w' g q t kd := by
  refine ⟨cQ_of h.1 e, fun c hc => ?_⟩
  obtain ⟨⟨f, f1, f2, f3⟩, hg⟩ := h.2 c hc
  exact ⟨⟨f, cI_of f1 (e2 _ (by omega) (by omega)), f2, f3⟩, hg⟩
theorem Rws.g {w : am_Wd} {g g' : Nat → Nat} {q t : Nat} {kd : Nat → Nat} (h : Rws w g q t kd) (ht : t ≠ 0) (hg : ∀ b, g b ≠ 0 → g' b = g b) : Rws w g' q t kd :=
  ⟨h.1, fun c hc => ⟨(h.2 c hc).1, (hg _ (by have := (h.2 c hc).2; omega)).trans (h.2 c hc).2⟩⟩
theorem Rws.row {w : am_Wd} {g : Nat → Nat} {q t : Nat} {kd : Nat → Nat} (h : Rws w g q t kd) {c : Nat} (hc : c < 36) : am_rq w q (nI c) = some (.ref (q + 1 + c)) := by
  rw [rqc h.1 (i := c) (Or.inr (Or.inr rfl)) hc (by decide), if_pos hc]
  rfl
theorem Rws.at {w : am_Wd} {g : Nat → Nat} {q t : Nat} {kd : Nat → Nat} (h : Rws w g q t kd) {c j : Nat} (hc : c < 36) (hj : j < 2) : am_ri 0 w (q + 1 + c) (nI j) = some (nI (kd (2 * c + j))) := by
  obtain ⟨⟨f, f1, f2, f3⟩, -⟩ := h.2 c hc
  rw [ric f1 (i := j) rfl hj (by decide)]
  rcases (show j = 0 ∨ j = 1 by omega) with rfl | rfl
  · exact congrArg some f2
  · exact congrArg some f3
theorem Rws.put {w : am_Wd} {g : Nat → Nat} {q t : Nat} {kd : Nat → Nat} (h : Rws w g q t kd) (hq : g q < t ∨ t + 36 ≤ g q) {c j v : Nat} (hc : c < 36) (hj : j < 2) : ∃ w', am_wi 0 w (q + 1 + c) (nI j) (nI v) = some w' ∧ Rws w' g q t (up kd (2 * c + j) v) ∧ frm g t (t + 36) w w' := by
  obtain ⟨⟨f, f1, f2, f3⟩, hg⟩ := h.2 c hc
  refine ⟨_, wic f1 (i := j) hj (by decide), ⟨cQ_of h.1 (pt_n (fun e => by rw [e, hg] at hq; omega)), fun c' hc' => ?_⟩, frm_pt (by omega) (by omega)⟩
  obtain ⟨⟨f', f1', f2', f3'⟩, hg'⟩ := h.2 c' hc'
  by_cases e : c' = c
  · subst e
    refine ⟨⟨upd f j (nI v), pt_s, ?_, ?_⟩, hg'⟩
    · rcases (show j = 0 ∨ j = 1 by omega) with rfl | rfl
      · rw [pk_us]; unfold up; rw [if_pos (by omega)]
      · rw [pk_un (by decide), f2]; unfold up; rw [if_neg (by omega)]
    · rcases (show j = 0 ∨ j = 1 by omega) with rfl | rfl
      · rw [pk_un (by decide), f3]; unfold up; rw [if_neg (by omega)]
      · rw [pk_us]; unfold up; rw [if_pos rfl]
  · refine ⟨⟨f', cI_of f1' (pt_n (by omega)), ?_, ?_⟩, hg'⟩
    · rw [f2', up_n (by omega)]
    · rw [f3', up_n (by omega)]
def oK (po ho ch ma mq : Nat) (lo ac bu sl : Int32) : List Value := [.int (nI po), .int (nI ho), .int (nI ch), .ref ma, .ref mq, .int lo, .int ac, .int bu, .int sl]
theorem oK_0 {po ho ch ma mq : Nat} {lo ac bu sl : Int32} : (oK po ho ch ma mq lo ac bu sl)[0]? = some (.int (nI po)) := rfl
theorem oK_1 {po ho ch ma mq : Nat} {lo ac bu sl : Int32} : (oK po ho ch ma mq lo ac bu sl)[1]? = some (.int (nI ho)) := rfl
theorem oK_2 {po ho ch ma mq : Nat} {lo ac bu sl : Int32} : (oK po ho ch ma mq lo ac bu sl)[2]? = some (.int (nI ch)) := rfl
theorem oK_3 {po ho ch ma mq : Nat} {lo ac bu sl : Int32} : (oK po ho ch ma mq lo ac bu sl)[3]? = some (.ref ma) := rfl
theorem oK_4 {po ho ch ma mq : Nat} {lo ac bu sl : Int32} : (oK po ho ch ma mq lo ac bu sl)[4]? = some (.ref mq) := rfl
theorem oK_5 {po ho ch ma mq : Nat} {lo ac bu sl : Int32} : (oK po ho ch ma mq lo ac bu sl)[5]? = some (.int lo) := rfl
theorem oK_6 {po ho ch ma mq : Nat} {lo ac bu sl : Int32} : (oK po ho ch ma mq lo ac bu sl)[6]? = some (.int ac) := rfl
theorem oK_7 {po ho ch ma mq : Nat} {lo ac bu sl : Int32} : (oK po ho ch ma mq lo ac bu sl)[7]? = some (.int bu) := rfl
theorem oK_8 {po ho ch ma mq : Nat} {lo ac bu sl : Int32} : (oK po ho ch ma mq lo ac bu sl)[8]? = some (.int sl) := rfl
/-- a row of what may be -/
def mR (w : am_Wd) (a : Nat) (may : Nat → Bool) : Prop := ∃ f, cI w a 2 144 f ∧ ∀ p, p < 144 → f p = b2i (may p)
theorem mR.of {w w' : am_Wd} {a : Nat} {may : Nat → Bool} (h : mR w a may) (e : w'.1 a = w.1 a) : mR w' a may := ⟨h.choose, cI_of h.choose_spec.1 e, h.choose_spec.2⟩
theorem mR.at {w : am_Wd} {a : Nat} {may : Nat → Bool} (h : mR w a may) {p : Nat} (hp : p < 144) : am_ri 2 w a (nI p) = some (b2i (may p)) := by
  obtain ⟨f, h1, h2⟩ := h
  have r := ric h1 (i := p) rfl hp (by decide)
  rw [h2 p hp] at r
  exact r
theorem mR.len {w : am_Wd} {a : Nat} {may : Nat → Bool} (h : mR w a may) : am_len w a = some 144 := lenI h.choose_spec.1 (by decide)
/-- the reference's walker -/
def Mkv (w : am_Wd) (g : Nat → Nat) (i a : Nat) (x : sW) : Prop := match x with
  | (ho, po, ch, lo, ac, bu, sl, may, mp) => ∃ (ma mq : Nat), cO w a 10 (oK po ho ch ma mq lo ac bu sl) ∧ mR w ma may ∧ Rws w g mq (400 + 100 * i) mp ∧ g a = 110 + 10 * i ∧ g ma = 111 + 10 * i ∧ g mq = 112 + 10 * i
theorem Mkv.of {w w' : am_Wd} {g : Nat → Nat} {i a : Nat} {x : sW} (h : Mkv w g i a x) (e : ∀ b, 110 + 10 * i ≤ g b → g b < 113 + 10 * i → w'.1 b = w.1 b) (e2 : ∀ b, 400 + 100 * i ≤ g b → g b < 436 + 100 * i → w'.1 b = w.1 b) : Mkv w' g i a x := by
  obtain ⟨ho, po, ch, lo, ac, bu, sl, may, mp⟩ := x
  obtain ⟨ma, mq, h1, h2, h3, g1, g2, g3⟩ := h
  exact ⟨ma, mq, cO_of h1 (e a (by omega) (by omega)), h2.of (e ma (by omega) (by omega)), h3.of (e mq (by omega) (by omega)) (fun b k1 k2 => e2 b (by omega) (by omega)), g1, g2, g3⟩
theorem Mkv.g {w : am_Wd} {g g' : Nat → Nat} {i a : Nat} {x : sW} (h : Mkv w g i a x) (hg : ∀ b, g b ≠ 0 → g' b = g b) : Mkv w g' i a x := by
  obtain ⟨ho, po, ch, lo, ac, bu, sl, may, mp⟩ := x
  obtain ⟨ma, mq, h1, h2, h3, g1, g2, g3⟩ := h
  exact ⟨ma, mq, h1, h2, h3.g (by omega) hg, (hg _ (by omega)).trans g1, (hg _ (by omega)).trans g2, (hg _ (by omega)).trans g3⟩
def oM (th mi nd : Nat) (dr me di re : Int32) (kq hq ca ba wl : Nat) : List Value := [.int (nI th), .int (nI mi), .int (nI nd), .int dr, .int me, .int di, .int re, .ref kq, .ref hq, .ref ca, .ref ba, .ref wl]
theorem oM_0 {th mi nd : Nat} {dr me di re : Int32} {kq hq ca ba wl : Nat} : (oM th mi nd dr me di re kq hq ca ba wl)[0]? = some (.int (nI th)) := rfl
theorem oM_1 {th mi nd : Nat} {dr me di re : Int32} {kq hq ca ba wl : Nat} : (oM th mi nd dr me di re kq hq ca ba wl)[1]? = some (.int (nI mi)) := rfl
theorem oM_2 {th mi nd : Nat} {dr me di re : Int32} {kq hq ca ba wl : Nat} : (oM th mi nd dr me di re kq hq ca ba wl)[2]? = some (.int (nI nd)) := rfl
theorem oM_3 {th mi nd : Nat} {dr me di re : Int32} {kq hq ca ba wl : Nat} : (oM th mi nd dr me di re kq hq ca ba wl)[3]? = some (.int dr) := rfl
theorem oM_4 {th mi nd : Nat} {dr me di re : Int32} {kq hq ca ba wl : Nat} : (oM th mi nd dr me di re kq hq ca ba wl)[4]? = some (.int me) := rfl
theorem oM_5 {th mi nd : Nat} {dr me di re : Int32} {kq hq ca ba wl : Nat} : (oM th mi nd dr me di re kq hq ca ba wl)[5]? = some (.int di) := rfl
theorem oM_6 {th mi nd : Nat} {dr me di re : Int32} {kq hq ca ba wl : Nat} : (oM th mi nd dr me di re kq hq ca ba wl)[6]? = some (.int re) := rfl
theorem oM_7 {th mi nd : Nat} {dr me di re : Int32} {kq hq ca ba wl : Nat} : (oM th mi nd dr me di re kq hq ca ba wl)[7]? = some (.ref kq) := rfl
theorem oM_8 {th mi nd : Nat} {dr me di re : Int32} {kq hq ca ba wl : Nat} : (oM th mi nd dr me di re kq hq ca ba wl)[8]? = some (.ref hq) := rfl
theorem oM_9 {th mi nd : Nat} {dr me di re : Int32} {kq hq ca ba wl : Nat} : (oM th mi nd dr me di re kq hq ca ba wl)[9]? = some (.ref ca) := rfl
theorem oM_10 {th mi nd : Nat} {dr me di re : Int32} {kq hq ca ba wl : Nat} : (oM th mi nd dr me di re kq hq ca ba wl)[10]? = some (.ref ba) := rfl
theorem oM_11 {th mi nd : Nat} {dr me di re : Int32} {kq hq ca ba wl : Nat} : (oM th mi nd dr me di re kq hq ca ba wl)[11]? = some (.ref wl) := rfl
/-- the list of walkers: n of them, in a row of ten; none: the empty row that stood there before -/
def Lst (w : am_Wd) (g : Nat → Nat) (wl ed n : Nat) (wad : Nat → Nat) : Prop := cO w wl 3 [.int (nI n), .ref ed, .int (nI n)] ∧ ((n = 0 ∧ w.2.2.2 1 = some ed ∧ cQ w ed 13 0 (fun _ => none) ∧ g ed = 721) ∨ (cQ w ed 5 10 (wks n wad) ∧ g ed = 106))
/-- the reference's cells -/
def RMx (w : am_Wd) (g : Nat → Nat) (m kq hq ca ba wl ed : Nat) (wad : Nat → Nat) (kd hr : Nat → Nat) (cp br : Nat → Bool) (n : Nat) (ws : Nat → sW) (th mi nd : Nat) (dr me di re : Int32) : Prop :=
  cO w m 11 (oM th mi nd dr me di re kq hq ca ba wl) ∧ Rws w g kq 200 kd ∧ Rws w g hq 300 hr ∧ cI w ca 2 36 (fun c => b2i (cp c)) ∧ cI w ba 2 36 (fun c => b2i (br c)) ∧ Lst w g wl ed n wad ∧ (∀ i, i < n → Mkv w g i (wad i) (ws i)) ∧ g m = 100 ∧ g kq = 101 ∧ g hq = 102 ∧ g ca = 103 ∧ g ba = 104 ∧ g wl = 105
section MOD
variable {w w' : am_Wd} {g : Nat → Nat} {m kq hq ca ba wl ed : Nat} {wad : Nat → Nat} {kd hr : Nat → Nat} {cp br : Nat → Bool} {n : Nat} {ws : Nat → sW} {th mi nd : Nat} {dr me di re : Int32}
theorem Lst.of {w w' : am_Wd} (h : Lst w g wl ed n wad) (e : w'.1 wl = w.1 wl) (e2 : w'.1 ed = w.1 ed) (e3 : w'.2.2.2 = w.2.2.2) : Lst w' g wl ed n wad := by
  refine ⟨cO_of h.1 e, ?_⟩
  rcases h.2 with ⟨a1, a2, a3, a4⟩ | ⟨a1, a2⟩
  · exact Or.inl ⟨a1, by rw [e3]; exact a2, cQ_of a3 e2, a4⟩
  · exact Or.inr ⟨cQ_of a1 e2, a2⟩
/-- what is not of the reference's tags may change -/
theorem rm_fr (R : RMx w g m kq hq ca ba wl ed wad kd hr cp br n ws th mi nd dr me di re) (hn : n ≤ 3) (h : ∀ b, 100 ≤ g b → g b < 800 → w'.1 b = w.1 b) (h2 : w'.2.2.2 = w.2.2.2) : RMx w' g m kq hq ca ba wl ed wad kd hr cp br n ws th mi nd dr me di re := by
  obtain ⟨h1, k1, k2, k3, k4, k5, k6, g1, g2, g3, g4, g5, g6⟩ := R
  have he : w'.1 ed = w.1 ed := by
    rcases k5.2 with ⟨-, -, -, e⟩ | ⟨-, e⟩
    · exact h ed (by omega) (by omega)
    · exact h ed (by omega) (by omega)
  exact ⟨cO_of h1 (h m (by omega) (by omega)), k1.of (h kq (by omega) (by omega)) (fun b z1 z2 => h b (by omega) (by omega)), k2.of (h hq (by omega) (by omega)) (fun b z1 z2 => h b (by omega) (by omega)), cI_of k3 (h ca (by omega) (by omega)), cI_of k4 (h ba (by omega) (by omega)), k5.of (h wl (by omega) (by omega)) he h2, fun i hi => (k6 i hi).of (fun b z1 z2 => h b (by omega) (by omega)) (fun b z1 z2 => h b (by omega) (by omega)), g1, g2, g3, g4, g5, g6⟩
theorem rm_ext (R : RMx w g m kq hq ca ba wl ed wad kd hr cp br n ws th mi nd dr me di re) (hn : n ≤ 3) (hJ : gJ w g) {k s : Nat} (h : ext w w' k s) : RMx w' g m kq hq ca ba wl ed wad kd hr cp br n ws th mi nd dr me di re :=
  rm_fr R hn (fun b h1 _ => h.1 b (by
    rcases Nat.lt_or_ge b w.2.1 with q | q
    · exact q
    · exact absurd (hJ b q) (by omega))) h.2.2.2.2.2
theorem gJ_ext (hJ : gJ w g) {k s : Nat} (h : ext w w' k s) : gJ w' g := fun b hb => hJ b (Nat.le_trans h.2.1 hb)
theorem lt_J (hJ : gJ w g) {b k : Nat} (h : g b = k) (hk : k ≠ 0) : b < w.2.1 := by
  rcases Nat.lt_or_ge b w.2.1 with q | q
  · exact q
  · exact absurd (hJ b q) (by omega)
theorem Mkv.ext (hJ : gJ w g) {i a : Nat} {y : sW} (h : Mkv w g i a y) {k s : Nat} (e : ext w w' k s) : Mkv w' g i a y := h.of (fun b z1 z2 => e.1 b (lt_J hJ rfl (by omega))) (fun b z1 z2 => e.1 b (lt_J hJ rfl (by omega)))
/-- the object's own fields -/
theorem rm_m {th' mi' nd' : Nat} {dr' me' di' re' : Int32} (R : RMx w g m kq hq ca ba wl ed wad kd hr cp br n ws th mi nd dr me di re) (hn : n ≤ 3) : RMx (am_pt w m (.inr (11, oM th' mi' nd' dr' me' di' re' kq hq ca ba wl))) g m kq hq ca ba wl ed wad kd hr cp br n ws th' mi' nd' dr' me' di' re' ∧ frm g 100 101 w (am_pt w m (.inr (11, oM th' mi' nd' dr' me' di' re' kq hq ca ba wl))) := by
  obtain ⟨h1, k1, k2, k3, k4, k5, k6, g1, g2, g3, g4, g5, g6⟩ := R
  have f : frm g 100 101 w (am_pt w m (.inr (11, oM th' mi' nd' dr' me' di' re' kq hq ca ba wl))) := frm_pt (by omega) (by omega)
  have he : (am_pt w m (.inr (11, oM th' mi' nd' dr' me' di' re' kq hq ca ba wl))).1 ed = w.1 ed := by
    rcases k5.2 with ⟨-, -, -, e⟩ | ⟨-, e⟩ <;> exact f.1 ed (by omega)
  exact ⟨⟨pt_s, k1.of (f.1 kq (by omega)) (fun b z1 z2 => f.1 b (by omega)), k2.of (f.1 hq (by omega)) (fun b z1 z2 => f.1 b (by omega)), cI_of k3 (f.1 ca (by omega)), cI_of k4 (f.1 ba (by omega)), k5.of (f.1 wl (by omega)) he rfl, fun i hi => (k6 i hi).of (fun b z1 z2 => f.1 b (by omega)) (fun b z1 z2 => f.1 b (by omega)), g1, g2, g3, g4, g5, g6⟩, f⟩
/-- a walker changed -/
theorem rm_wk (R : RMx w g m kq hq ca ba wl ed wad kd hr cp br n ws th mi nd dr me di re) (hn : n ≤ 3) {i : Nat} {y : sW} (hi : i < n) (h : Mkv w' g i (wad i) y) (f : ∀ b, (g b < 110 + 10 * i ∨ 113 + 10 * i ≤ g b) → (g b < 400 + 100 * i ∨ 436 + 100 * i ≤ g b) → w'.1 b = w.1 b) (f2 : w'.2.2.2 = w.2.2.2) : RMx w' g m kq hq ca ba wl ed wad kd hr cp br n (up ws i y) th mi nd dr me di re := by
  obtain ⟨h1, k1, k2, k3, k4, k5, k6, g1, g2, g3, g4, g5, g6⟩ := R
  have he : w'.1 ed = w.1 ed := by
    rcases k5.2 with ⟨-, -, -, e⟩ | ⟨-, e⟩ <;> exact f ed (by omega) (by omega)
  refine ⟨cO_of h1 (f m (by omega) (by omega)), k1.of (f kq (by omega) (by omega)) (fun b z1 z2 => f b (by omega) (by omega)), k2.of (f hq (by omega) (by omega)) (fun b z1 z2 => f b (by omega) (by omega)), cI_of k3 (f ca (by omega) (by omega)), cI_of k4 (f ba (by omega) (by omega)), k5.of (f wl (by omega) (by omega)) he f2, fun j hj => ?_, g1, g2, g3, g4, g5, g6⟩
  by_cases e : j = i
  · subst e; rw [up_s]; exact h
  · rw [up_n e]
    exact (k6 j hj).of (fun b z1 z2 => f b (by omega) (by omega)) (fun b z1 z2 => f b (by omega) (by omega))
theorem rm_kf (R : RMx w g m kq hq ca ba wl ed wad kd hr cp br n ws th mi nd dr me di re) : am_kf w m 11 = some () := kfc R.1
theorem mk_kf {i a : Nat} {y : sW} (h : Mkv w g i a y) : am_kf w a 10 = some () := by
  obtain ⟨ho, po, ch, lo, ac, bu, sl, may, mp⟩ := y
  obtain ⟨ma, mq, h1, -⟩ := h
  exact kfc h1
/-! lists -/
theorem x56 (h : Lst w g wl ed n wad) : am_x 56 [.ref wl] w = some (.inl (some (.int (nI n))), w) := by
  simp only [bk56_0, bk56_4, bx56, gfc h.1, Option.bind_some, bct_v, bct_t, otl_s, otl_n, List.cons_append, List.nil_append, List.getElem?_cons_zero, List.getElem?_cons_succ, ↓reduceIte]
theorem x58 {a b : Nat} (ha : a < b) (hb : b < 2147483648) : am_x 58 [.int (nI a), .int (nI b), .null] w = some (.inl (some (.int (nI a))), w) := by
  have e1 : (nI a < nI 0) = False := by rw [nI_ltS (by omega) (by decide)]; exact eq_false (by omega)
  have e2 : (nI a < nI b) = True := by rw [nI_ltS (by omega) (by omega)]; exact eq_true ha
  simp only [bx58n, bk58_0a, e1, bk58_4a, e2, bk58_16, ↓reduceIte]
theorem x150 (h : Lst w g wl ed n wad) (hn : n ≤ 3) {i : Nat} (hi : i < n) : am_x 150 [.ref wl, .int (nI i)] w = some (.inl (some (.ref (wad i))), w) := by
  obtain ⟨h1, h2⟩ := h
  have hq : cQ w ed 5 10 (wks n wad) := by
    rcases h2 with ⟨h2, -⟩ | ⟨h2, -⟩
    · omega
    · exact h2
  have r0 := rqc hq (i := i) (Or.inr (Or.inl rfl)) (by omega) (by decide)
  rw [show wks n wad i = some (wad i) from if_pos hi] at r0
  have r0' : am_rq w ed (nI i) = some (.ref (wad i)) := r0
  simp only [bk150_0, bk150_5, bk150_8, bk150_14, bx150, bk107_0, bk107_6, bx107, bk54_0, bk54_4, bk54_6, bx54, gfc h1, kfc h1, x58 hi (by omega), r0', Option.bind_some, bct_v, bct_t, otl_s, otl_n, List.cons_append, List.nil_append, List.getElem?_cons_zero, List.getElem?_cons_succ, ↓reduceIte]
/-! small methods -/
theorem x38 {a : Nat} {po ho ch ma mq : Nat} {lo ac bu sl : Int32} (h : cO w a 10 (oK po ho ch ma mq lo ac bu sl)) (hp : po < 144) : am_x 38 [.ref a] w = some (.inl (some (.int (nI (po / 4)))), w) := by
  simp only [bk38_0, bk38_4, bx38, gfc h, oK_0, nI_divS (show po < 2147483648 by omega) (show 0 < 4 by decide) (show 4 < 2147483648 by decide), Option.bind_some, bct_v, bct_t, otl_s, otl_n, List.cons_append, List.nil_append, List.getElem?_cons_zero, List.getElem?_cons_succ, ↓reduceIte]
theorem x39 {a b j : Nat} (hb : b < 2147483648) (h1 : a ≤ j) (h2 : j ≤ b) : am_x 39 [.int (nI j), .int (nI a), .int (nI b)] w = some (.inl (some (.int (nI 1))), w) := by
  simp only [bk39_0, bk39_14, bk39_5, bk39_10, bx39, nI_ltS (show j < 2147483648 by omega) (show a < 2147483648 by omega), nI_ltS (show b < 2147483648 by omega) (show j < 2147483648 by omega), show ¬ j < a from by omega, show ¬ b < j from by omega, ↓reduceIte]
  exact bk39_15 (by rfl)
theorem x39n {a b : Nat} {z : Int32} (h : z < nI a ∨ nI b < z) : am_x 39 [.int z, .int (nI a), .int (nI b)] w = some (.inl (some (.int (nI 0))), w) := by
  by_cases q : z < nI a
  · simp only [bk39_0, bk39_14, bk39_5, bk39_10, bx39, q, ↓reduceIte]
    exact bk39_15 (by rfl)
  · simp only [bk39_0, bk39_14, bk39_5, bk39_10, bx39, q, h.resolve_left q, ↓reduceIte]
    exact bk39_15 (by rfl)
theorem x97 {c : Nat} (hc : c ≤ 35) : am_x 97 [.int (nI c)] w = some (.inl (some (.int (nI 0))), w) := by
  simp only [bk97_0, bk97_7, bk97_14, bk97_10, bk97_15, bx97, x39 (show 35 < 2147483648 by decide) (Nat.zero_le c) hc, nI_eqS (show 1 < 2147483648 by decide) (show 0 < 2147483648 by decide), Option.bind_some, bct_v, bct_t, otl_s, otl_n, List.cons_append, List.nil_append, List.getElem?_cons_zero, List.getElem?_cons_succ, ↓reduceIte, nI_add, nI_leS, nI_ltS, nI_eqS, nI_m1S, Nat.reduceAdd, Nat.reduceLT, Nat.reduceLeDiff, Nat.reduceMul, Nat.reduceEqDiff, not_true_eq_false, not_false_eq_true]
  try exact bk97_15 (by rfl)
theorem x97n {z : Int32} (h : z < nI 0 ∨ nI 35 < z) : am_x 97 [.int z] w = some (.inl (some (.int (nI 1))), w) := by
  simp only [bk97_0, bk97_7, bk97_14, bk97_10, bk97_15, bx97, x39n h, Option.bind_some, bct_v, bct_t, otl_s, otl_n, List.cons_append, List.nil_append, List.getElem?_cons_zero, List.getElem?_cons_succ, ↓reduceIte, nI_add, nI_leS, nI_ltS, nI_eqS, nI_m1S, Nat.reduceAdd, Nat.reduceLT, Nat.reduceLeDiff, Nat.reduceMul, Nat.reduceEqDiff, not_true_eq_false, not_false_eq_true]
  try exact bk97_15 (by rfl)
end MOD
