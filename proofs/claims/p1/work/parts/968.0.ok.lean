/-! EVERY METHOD: its rows are what the words link (by the kernel; laid by wip/gen/fast.py). Mine. -/
theorem am_all_td {α : Type} {p : α → Bool} {l : List α} (n : Nat) (h1 : (l.take n).all p = true) (h2 : (l.drop n).all p = true) : l.all p = true := by
  rw [← List.take_append_drop n l, List.all_append, h1, h2]
  rfl
theorem am_okg0 : (List.range' 0 37).all (fun m => (am_mth m).all (am_okr3 m)) = true := by decide +kernel
theorem am_okg37 : (List.range' 37 34).all (fun m => (am_mth m).all (am_okr3 m)) = true := by decide +kernel
theorem am_okg71 : (List.range' 71 31).all (fun m => (am_mth m).all (am_okr3 m)) = true := by decide +kernel
