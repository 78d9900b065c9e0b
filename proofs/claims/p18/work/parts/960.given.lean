/-! WHAT THE PREMISES GIVE of what stood there before the law: out of narrow_1. Mine (laid by wip/gen/given.py). -/
/-- the literals: owner, number in its pool, bytes, role (29: not asked for), role of the bytes -/
def am_sq : List (String × Nat × List Int32 × Nat × Nat) := [
  ("Bumpward", 340, [97, 110, 32, 97, 114, 103, 117, 109, 101, 110, 116, 32, 100, 111, 101, 115, 32, 110, 111, 116, 32, 102, 105, 116], 17, 71),
  ("Bumpward", 343, [116, 104, 101, 114, 101, 32, 105, 115, 32, 110, 111, 32, 115, 117, 99, 104, 32, 99, 101, 108, 108], 18, 76),
  ("Bumpward", 345, [116, 104, 101, 114, 101, 32, 105, 115, 32, 110, 111, 32, 115, 117, 99, 104, 32, 115, 105, 100, 101], 19, 76),
  ("Bumpward", 347, [116, 104, 101, 114, 101, 32, 105, 115, 32, 110, 111, 32, 115, 117, 99, 104, 32, 119, 97, 108, 107, 101, 114], 20, 77),
  ("Bumpward", 81, [116, 104, 101, 114, 101, 32, 105, 115, 32, 110, 111, 32, 114, 111, 111, 109, 32, 102, 111, 114, 32, 97, 110, 111, 116, 104, 101, 114, 32, 119, 97, 108, 107, 101, 114], 10, 70),
  ("Bumpward", 349, [116, 104, 101, 32, 119, 97, 108, 107, 101, 114, 32, 104, 97, 115, 32, 110, 111, 32, 99, 104, 97, 114, 103, 101], 21, 71),
  ("Bumpward", 351, [116, 104, 101, 32, 97, 99, 116, 32, 105, 115, 32, 110, 111, 116, 32, 115, 97, 102, 101], 22, 78),
  ("Bumpward", 353, [116, 104, 101, 114, 101, 32, 97, 114, 101, 32, 110, 111, 32, 109, 105, 110, 117, 116, 101, 115, 32, 108, 101, 102, 116], 23, 79),
  ("Bumpward", 101, [116, 104, 101, 32, 99, 101, 108, 108, 32, 97, 104, 101, 97, 100, 32, 105, 115, 32, 98, 97, 114, 114, 101, 100], 11, 71),
  ("Bumpward", 156, [116, 104, 101, 32, 119, 97, 108, 107, 101, 114, 32, 105, 115, 32, 110, 111, 116, 32, 105, 110, 32, 105, 116, 115, 32, 104, 111, 109, 101], 12, 72),
  ("Bumpward", 171, [116, 104, 101, 115, 101, 32, 119, 97, 108, 107, 101, 114, 115, 32, 99, 97, 110, 32, 110, 111, 116, 32, 109, 101, 101, 116], 13, 73),
  ("Bumpward", 195, [116, 104, 101, 114, 101, 32, 97, 114, 101, 32, 110, 111, 116, 32, 115, 111, 32, 109, 97, 110, 121, 32, 109, 105, 110, 117, 116, 101, 115, 32, 108, 101, 102, 116], 14, 74),
  ("Bumpward", 225, [116, 104, 101, 114, 101, 32, 105, 115, 32, 110, 111, 32, 115, 117, 99, 104, 32, 114, 111, 119], 15, 75),
  ("java/util/Arrays", 337, [32, 62, 32], 29, 82),
  ("Bumpward", 249, [116, 104, 101, 114, 101, 32, 105, 115, 32, 110, 111, 32, 115, 117, 99, 104, 32, 112, 111, 115, 101], 16, 76),
  ("BumpwardModel", 239, [], 24, 80),
  ("BumpwardModel", 250, [120], 25, 81),
  ("BumpwardModel", 252, [99], 26, 81),
  ("BumpwardModel", 254, [46], 27, 81),
  ("BumpwardModel", 260, [32, 124, 47], 28, 82)]
def am_s0 : String × Nat × List Int32 × Nat × Nat := ("", 0, [], 29, 99)
def am_sq1 (i : Nat) : String × Nat × List Int32 × Nat × Nat := am_sq.getD i am_s0
def am_tm (q : String × Nat × List Int32 × Nat × Nat) : Term := .string q.1 q.2.1
def am_tv (q : String × Nat × List Int32 × Nat × Nat) : Term := .field (am_tm q) "java/lang/String" "value" "[B"
def am_blk (q : String × Nat × List Int32 × Nat × Nat) : List Cond := [.exactly (am_tm q) "java/lang/String", .eq (.field (am_tm q) "java/lang/String" "coder" "B") (.int 0), .arrayOf (am_tv q) .byte, .eq (.length (am_tv q)) (.int (Int32.ofNat q.2.2.1.length))] ++ (List.range q.2.2.1.length).map fun j => .eq (.elem (am_tv q) (.int (Int32.ofNat j))) (.int (q.2.2.1.getD j 0))
def am_tO : Term := .static "Bumpward$Grid" "OUTER" "[J"
def am_tE : Term := .static "java/util/ArrayList" "DEFAULTCAPACITY_EMPTY_ELEMENTDATA" "[Ljava/lang/Object;"
def am_tD : Term := .static "java/lang/Integer" "DigitOnes" "[B"
def am_tT : Term := .static "java/lang/Integer" "DigitTens" "[B"
def am_tP : Term := .static "jdk/internal/util/Preconditions" "SIOOBE_FORMATTER" "Ljava/util/function/BiFunction;"
def am_fO (j : Nat) : Int64 := [63, 34905131040, 67645734912, 1090785345].getD j 0
def am_fD (j : Nat) : Int32 := Int32.ofNat (48 + j % 10)
def am_gst : List Cond := [.isRef (.static "java/lang/Throwable" "UNASSIGNED_STACK" "[Ljava/lang/StackTraceElement;"), .isRef (.static "java/lang/Throwable" "SUPPRESSED_SENTINEL" "Ljava/util/List;"),
  .isRef am_tO, .arrayOf am_tO .long, .eq (.length am_tO) (.int 4)] ++ ((List.range 4).map fun j => .eq (.elem am_tO (.int (Int32.ofNat j))) (.long (am_fO j))) ++
  [.eq (.static "java/lang/String" "COMPACT_STRINGS" "Z") (.int 1), .isRef am_tP, .isRef am_tD, .arrayOf am_tD .byte, .eq (.length am_tD) (.int 100)] ++ ((List.range 100).map fun j => .eq (.elem am_tD (.int (Int32.ofNat j))) (.int (am_fD j))) ++
  [.isRef am_tT, .isRef am_tE, .arrayOf am_tE (.object "java/lang/Object"), .eq (.length am_tE) (.int 0)]
def am_gsr : List Cond := (List.range 20).flatMap fun j => am_blk (am_sq1 j) ++ (List.range j).map fun i => .not (.eq (am_tm (am_sq1 i)) (am_tm (am_sq1 j)))
def am_sbl : List Cond → List Cond → Bool
  | [], _ => true
  | _ :: _, [] => false
  | a :: s, b :: t => if a = b then am_sbl s t else am_sbl (a :: s) t
theorem am_sbl_ok : ∀ {a b : List Cond}, am_sbl a b = true → ∀ w ∈ a, w ∈ b
  | [], _, _, w, hw => by cases hw
  | _ :: _, [], h, _, _ => by cases h
  | a :: s, b :: t, h, w, hw => by
    unfold am_sbl at h
    split at h
    · rename_i e
      subst e
      rcases List.mem_cons.mp hw with rfl | hw
      · exact List.mem_cons_self
      · exact List.mem_cons_of_mem _ (am_sbl_ok h w hw)
    · exact List.mem_cons_of_mem _ (am_sbl_ok h w hw)
theorem am_gst_in : am_sbl am_gst (Jvm.Free.XT.flat narrow_1) = true := by decide +kernel
theorem am_gsr_in : am_sbl am_gsr (Jvm.Free.XT.flat narrow_1) = true := by decide +kernel
theorem am_gx_in : [Cond.exactly am_tO "[J"].all (fun w => decide (w ∈ Jvm.Free.XT.flat narrow_1)) = true := by decide +kernel
theorem am_given {args : Array Value} {s : State} (h : (Jvm.Cond.and given_1 narrow_1).before args s = true) : ∀ w, w ∈ am_gst ∨ w ∈ am_gsr ∨ w = Cond.exactly am_tO "[J" → w.before args s = true := by
  rw [Cond.before_and, Bool.and_eq_true] at h
  have hs := flat_of_before _ h.2
  intro w hw
  rcases hw with hw | hw | rfl
  · exact hs w (am_sbl_ok am_gst_in w hw)
  · exact hs w (am_sbl_ok am_gsr_in w hw)
  · have := List.all_eq_true.mp am_gx_in _ (List.mem_singleton.mpr rfl)
    exact hs _ (of_decide_eq_true this)
