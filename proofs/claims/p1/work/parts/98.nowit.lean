/-! WHY THE PRINTED START CAN'T MEET ITS PREMISES: where the table has no class of this array's name, no premise holds. Mine. -/
theorem am_nowit_in : Cond.not (.castable "[Ljava/lang/StackTraceElement;" "java/lang/String") ∈ Jvm.Free.XT.flat narrow_1 := by decide +kernel
theorem am_nowit {args : Array Value} {s : State} (hf : s.vm.findClass "[Ljava/lang/StackTraceElement;" = none) : (Jvm.Cond.and given_1 narrow_1).before args s = false := by
  cases hq : (Jvm.Cond.and given_1 narrow_1).before args s with
  | false => rfl
  | true =>
    exfalso
    rw [Cond.before_and, Bool.and_eq_true] at hq
    have h := flat_of_before _ hq.2 _ am_nowit_in
    simp [Cond.before, Cond.holds, Cond.value, hf] at h
