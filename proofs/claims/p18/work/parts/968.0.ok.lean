/-! EVERY METHOD: its rows are what the words link (by the kernel; laid by wip/gen/okg.py). Mine. -/
theorem am_all_td {α : Type} {p : α → Bool} {l : List α} (n : Nat) (h1 : (l.take n).all p = true) (h2 : (l.drop n).all p = true) : l.all p = true := by
  rw [← List.take_append_drop n l, List.all_append, h1, h2]
  rfl
theorem am_okg0 : (List.range' 0 13).all am_okm = true := by decide +kernel
theorem am_okg13 : (List.range' 13 10).all am_okm = true := by decide +kernel
theorem am_okg23 : (List.range' 23 17).all am_okm = true := by decide +kernel
theorem am_okg40 : (List.range' 40 10).all am_okm = true := by decide +kernel
theorem am_okg50 : (List.range' 50 17).all am_okm = true := by decide +kernel
theorem am_okg67 : (List.range' 67 9).all am_okm = true := by decide +kernel
theorem am_okg76 : (List.range' 76 11).all am_okm = true := by decide +kernel
