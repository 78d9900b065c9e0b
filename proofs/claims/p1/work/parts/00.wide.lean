/-! Names a word of the library's rest at once: the round is read over the whole of it from its first part. Mine. -/
theorem am_wide : Jvm.Free.XT.flat = Jvm.Free.XT.flat := rfl
