def RX0 : String := "Bumpward$Belief"
def TX0 : u_T := fun k => match k with
  | _ => ("Bumpward$Belief", "cells", "[J", true)
def tyX0 : Nat → FieldType := fun k => match k with
  | _ => .array .long
abbrev wsX00 : List Cond := u_ws RX0 TX0 1
theorem nmX0 : ∀ a, a < 1 → ∀ b, b < 1 → a ≠ b → (TX0 a).2.1 ≠ (TX0 b).2.1 := by decide +kernel
theorem tyX0_ok : ∀ k, k < 1 → parseFieldDescriptor (TX0 k).2.2.1 = some (tyX0 k) := by decide +kernel
abbrev cX0_init : ByteArray := prog_2_method_1_code
def yX0_init : MethodName := ⟨RX0, "<init>", "()V"⟩
abbrev cX0_setAll : ByteArray := prog_2_method_2_code
def yX0_setAll : MethodName := ⟨RX0, "setAll", "()V"⟩
abbrev cX0_setOnly : ByteArray := prog_2_method_3_code
def yX0_setOnly : MethodName := ⟨RX0, "setOnly", "(I)V"⟩
abbrev cX0_size : ByteArray := prog_2_method_4_code
def yX0_size : MethodName := ⟨RX0, "size", "()I"⟩
abbrev cX0_holds : ByteArray := prog_2_method_5_code
def yX0_holds : MethodName := ⟨RX0, "holds", "(I)Z"⟩
abbrev cX0_anyFacing : ByteArray := prog_2_method_6_code
def yX0_anyFacing : MethodName := ⟨RX0, "anyFacing", "()J"⟩
abbrev cX0_onlyPose : ByteArray := prog_2_method_7_code
def yX0_onlyPose : MethodName := ⟨RX0, "onlyPose", "()I"⟩
abbrev cX0_ifForward : ByteArray := prog_2_method_8_code
def yX0_ifForward : MethodName := ⟨RX0, "ifForward", "(IZLBumpward$WalkerMap;)J"⟩
abbrev cX0_ifFelt : ByteArray := prog_2_method_9_code
def yX0_ifFelt : MethodName := ⟨RX0, "ifFelt", "(IILBumpward$WalkerMap;)J"⟩
abbrev cX0_changeByForward : ByteArray := prog_2_method_10_code
def yX0_changeByForward : MethodName := ⟨RX0, "changeByForward", "(ZLBumpward$WalkerMap;)V"⟩
abbrev cX0_changeByFelt : ByteArray := prog_2_method_11_code
def yX0_changeByFelt : MethodName := ⟨RX0, "changeByFelt", "(ILBumpward$WalkerMap;)V"⟩
abbrev cX0_rotateRight : ByteArray := prog_2_method_12_code
def yX0_rotateRight : MethodName := ⟨RX0, "rotateRight", "()V"⟩
abbrev cX0_rotateLeft : ByteArray := prog_2_method_13_code
def yX0_rotateLeft : MethodName := ⟨RX0, "rotateLeft", "()V"⟩
abbrev cX0_sizeIfForward : ByteArray := prog_2_method_14_code
def yX0_sizeIfForward : MethodName := ⟨RX0, "sizeIfForward", "(ZLBumpward$WalkerMap;)I"⟩
abbrev cX0_sizeIfFelt : ByteArray := prog_2_method_15_code
def yX0_sizeIfFelt : MethodName := ⟨RX0, "sizeIfFelt", "(ILBumpward$WalkerMap;)I"⟩
def RX1 : String := "Bumpward$Floor"
def TX1 : u_T := fun k => match k with
  | 0 => ("Bumpward$Floor", "kinds", "[I", true)
  | 1 => ("Bumpward$Floor", "hours", "[I", true)
  | 2 => ("Bumpward$Floor", "carpets", "J", false)
  | _ => ("Bumpward$Floor", "barred", "J", false)
def tyX1 : Nat → FieldType := fun k => match k with
  | 0 => .array .int
  | 1 => .array .int
  | 2 => .long
  | _ => .long
abbrev wsX10 : List Cond := u_ws RX1 TX1 4
theorem nmX1 : ∀ a, a < 4 → ∀ b, b < 4 → a ≠ b → (TX1 a).2.1 ≠ (TX1 b).2.1 := by decide +kernel
theorem tyX1_ok : ∀ k, k < 4 → parseFieldDescriptor (TX1 k).2.2.1 = some (tyX1 k) := by decide +kernel
abbrev cX1_init : ByteArray := prog_3_method_1_code
def yX1_init : MethodName := ⟨RX1, "<init>", "()V"⟩
abbrev cX1_placeOf : ByteArray := prog_3_method_2_code
def yX1_placeOf : MethodName := ⟨RX1, "placeOf", "(II)I"⟩
abbrev cX1_isPlace : ByteArray := prog_3_method_3_code
def yX1_isPlace : MethodName := ⟨RX1, "isPlace", "(I)Z"⟩
abbrev cX1_tell : ByteArray := prog_3_method_4_code
def yX1_tell : MethodName := ⟨RX1, "tell", "(IIII)V"⟩
abbrev cX1_layBySeed : ByteArray := prog_3_method_5_code
def yX1_layBySeed : MethodName := ⟨RX1, "layBySeed", "(I)V"⟩
abbrev cX1_tellCell : ByteArray := prog_3_method_6_code
def yX1_tellCell : MethodName := ⟨RX1, "tellCell", "(IZZ)V"⟩
abbrev cX1_kindOf : ByteArray := prog_3_method_7_code
def yX1_kindOf : MethodName := ⟨RX1, "kindOf", "(II)I"⟩
abbrev cX1_hoursOf : ByteArray := prog_3_method_8_code
def yX1_hoursOf : MethodName := ⟨RX1, "hoursOf", "(II)I"⟩
abbrev cX1_isClosed : ByteArray := prog_3_method_9_code
def yX1_isClosed : MethodName := ⟨RX1, "isClosed", "(III)Z"⟩
abbrev cX1_isOpenAt : ByteArray := prog_3_method_10_code
def yX1_isOpenAt : MethodName := ⟨RX1, "isOpenAt", "(II)Z"⟩
abbrev cX1_feltAt : ByteArray := prog_3_method_11_code
def yX1_feltAt : MethodName := ⟨RX1, "feltAt", "(III)I"⟩
abbrev cX1_countOf : ByteArray := prog_3_method_12_code
def yX1_countOf : MethodName := ⟨RX1, "countOf", "(I)I"⟩
abbrev cX1_countOpenDoors : ByteArray := prog_3_method_13_code
def yX1_countOpenDoors : MethodName := ⟨RX1, "countOpenDoors", "(I)I"⟩
abbrev cX1_countKnown : ByteArray := prog_3_method_14_code
def yX1_countKnown : MethodName := ⟨RX1, "countKnown", "(LBumpward$WalkerMap;ZI)I"⟩
def RX2 : String := "Bumpward$Grid"
def TX2 : u_T := fun k => match k with
  | _ => ("", "", "", false)
def tyX2 : Nat → FieldType := fun k => match k with
  | _ => .int
abbrev wsX20 : List Cond := u_ws RX2 TX2 0
theorem nmX2 : ∀ a, a < 0 → ∀ b, b < 0 → a ≠ b → (TX2 a).2.1 ≠ (TX2 b).2.1 := by decide +kernel
theorem tyX2_ok : ∀ k, k < 0 → parseFieldDescriptor (TX2 k).2.2.1 = some (tyX2 k) := by decide +kernel
abbrev cX2_has : ByteArray := prog_4_method_2_code
def yX2_has : MethodName := ⟨RX2, "has", "(JI)Z"⟩
abbrev cX2_outerCells : ByteArray := prog_4_method_3_code
def yX2_outerCells : MethodName := ⟨RX2, "outerCells", "()[J"⟩
abbrev cX2_ahead : ByteArray := prog_4_method_4_code
def yX2_ahead : MethodName := ⟨RX2, "ahead", "(II)I"⟩
abbrev cX2_moved : ByteArray := prog_4_method_5_code
def yX2_moved : MethodName := ⟨RX2, "moved", "(JI)J"⟩
abbrev cX2_feltSide : ByteArray := prog_4_method_6_code
def yX2_feltSide : MethodName := ⟨RX2, "feltSide", "(II)I"⟩
abbrev cX2_isNear : ByteArray := prog_4_method_7_code
def yX2_isNear : MethodName := ⟨RX2, "isNear", "(II)Z"⟩
def RX3 : String := "Bumpward$Walker"
def TX3 : u_T := fun k => match k with
  | 0 => ("Bumpward$Walker", "home", "I", true)
  | 1 => ("Bumpward$Walker", "map", "LBumpward$WalkerMap;", true)
  | 2 => ("Bumpward$Walker", "belief", "LBumpward$Belief;", true)
  | 3 => ("Bumpward$Walker", "pose", "I", false)
  | 4 => ("Bumpward$Walker", "charge", "I", false)
  | 5 => ("Bumpward$Walker", "lost", "I", false)
  | 6 => ("Bumpward$Walker", "acts", "I", false)
  | 7 => ("Bumpward$Walker", "bumps", "I", false)
  | _ => ("Bumpward$Walker", "slips", "I", false)
def tyX3 : Nat → FieldType := fun k => match k with
  | 0 => .int
  | 1 => .object "Bumpward$WalkerMap"
  | 2 => .object "Bumpward$Belief"
  | 3 => .int
  | 4 => .int
  | 5 => .int
  | 6 => .int
  | 7 => .int
  | _ => .int
abbrev wsX30 : List Cond := u_ws RX3 TX3 9
theorem nmX3 : ∀ a, a < 9 → ∀ b, b < 9 → a ≠ b → (TX3 a).2.1 ≠ (TX3 b).2.1 := by decide +kernel
theorem tyX3_ok : ∀ k, k < 9 → parseFieldDescriptor (TX3 k).2.2.1 = some (tyX3 k) := by decide +kernel
abbrev cX3_init : ByteArray := prog_5_method_1_code
def yX3_init : MethodName := ⟨RX3, "<init>", "(IIIZ)V"⟩
abbrev cX3_cellNow : ByteArray := prog_5_method_2_code
def yX3_cellNow : MethodName := ⟨RX3, "cellNow", "()I"⟩
abbrev cX3_facingNow : ByteArray := prog_5_method_3_code
def yX3_facingNow : MethodName := ⟨RX3, "facingNow", "()I"⟩
abbrev cX3_isSure : ByteArray := prog_5_method_4_code
def yX3_isSure : MethodName := ⟨RX3, "isSure", "()Z"⟩
abbrev cX3_step : ByteArray := prog_5_method_5_code
def yX3_step : MethodName := ⟨RX3, "step", "()V"⟩
abbrev cX3_rotate : ByteArray := prog_5_method_6_code
def yX3_rotate : MethodName := ⟨RX3, "rotate", "(Z)V"⟩
abbrev cX3_learnForward : ByteArray := prog_5_method_7_code
def yX3_learnForward : MethodName := ⟨RX3, "learnForward", "(Z)V"⟩
abbrev cX3_learnFelt : ByteArray := prog_5_method_8_code
def yX3_learnFelt : MethodName := ⟨RX3, "learnFelt", "(I)V"⟩
abbrev cX3_startAnewIfLost : ByteArray := prog_5_method_9_code
def yX3_startAnewIfLost : MethodName := ⟨RX3, "startAnewIfLost", "()V"⟩
abbrev cX3_wayHome : ByteArray := prog_5_method_10_code
def yX3_wayHome : MethodName := ⟨RX3, "wayHome", "()I"⟩
abbrev cX3_costOf : ByteArray := prog_5_method_11_code
def yX3_costOf : MethodName := ⟨RX3, "costOf", "(I)I"⟩
abbrev cX3_isSafe : ByteArray := prog_5_method_12_code
def yX3_isSafe : MethodName := ⟨RX3, "isSafe", "()Z"⟩
abbrev cX3_goal : ByteArray := prog_5_method_13_code
def yX3_goal : MethodName := ⟨RX3, "goal", "()I"⟩
abbrev cX3_worstOf : ByteArray := prog_5_method_14_code
def yX3_worstOf : MethodName := ⟨RX3, "worstOf", "(I)I"⟩
abbrev cX3_figure : ByteArray := prog_5_method_15_code
def yX3_figure : MethodName := ⟨RX3, "figure", "(I)I"⟩
abbrev cX3_isInOrder : ByteArray := prog_5_method_16_code
def yX3_isInOrder : MethodName := ⟨RX3, "isInOrder", "()Z"⟩
def RX4 : String := "Bumpward$WalkerMap"
def TX4 : u_T := fun k => match k with
  | 0 => ("Bumpward$WalkerMap", "free", "[J", true)
  | _ => ("Bumpward$WalkerMap", "wall", "[J", true)
def tyX4 : Nat → FieldType := fun k => match k with
  | 0 => .array .long
  | _ => .array .long
abbrev wsX40 : List Cond := u_ws RX4 TX4 2
theorem nmX4 : ∀ a, a < 2 → ∀ b, b < 2 → a ≠ b → (TX4 a).2.1 ≠ (TX4 b).2.1 := by decide +kernel
theorem tyX4_ok : ∀ k, k < 2 → parseFieldDescriptor (TX4 k).2.2.1 = some (tyX4 k) := by decide +kernel
abbrev cX4_init : ByteArray := prog_6_method_1_code
def yX4_init : MethodName := ⟨RX4, "<init>", "()V"⟩
abbrev cX4_stateOf : ByteArray := prog_6_method_2_code
def yX4_stateOf : MethodName := ⟨RX4, "stateOf", "(II)I"⟩
abbrev cX4_put : ByteArray := prog_6_method_3_code
def yX4_put : MethodName := ⟨RX4, "put", "(IIZ)V"⟩
abbrev cX4_mark : ByteArray := prog_6_method_4_code
def yX4_mark : MethodName := ⟨RX4, "mark", "(IIZ)V"⟩
abbrev cX4_fitting : ByteArray := prog_6_method_5_code
def yX4_fitting : MethodName := ⟨RX4, "fitting", "(IZ)J"⟩
abbrev cX4_unknownOn : ByteArray := prog_6_method_6_code
def yX4_unknownOn : MethodName := ⟨RX4, "unknownOn", "(I)J"⟩
abbrev cX4_countFree : ByteArray := prog_6_method_7_code
def yX4_countFree : MethodName := ⟨RX4, "countFree", "()I"⟩
abbrev cX4_countWalls : ByteArray := prog_6_method_8_code
def yX4_countWalls : MethodName := ⟨RX4, "countWalls", "()I"⟩
abbrev cX4_withNeighbours : ByteArray := prog_6_method_12_code
def yX4_withNeighbours : MethodName := ⟨RX4, "withNeighbours", "(J)J"⟩
abbrev cX4_wayBetween : ByteArray := prog_6_method_13_code
def yX4_wayBetween : MethodName := ⟨RX4, "wayBetween", "(II)I"⟩
abbrev cX4_goalFrom : ByteArray := prog_6_method_14_code
def yX4_goalFrom : MethodName := ⟨RX4, "goalFrom", "(I)I"⟩
abbrev cX4_firstOf : ByteArray := prog_6_method_15_code
def yX4_firstOf : MethodName := ⟨RX4, "firstOf", "(J)I"⟩
def RX5 : String := "Bumpward"
def TX5 : u_T := fun k => match k with
  | 0 => ("Bumpward", "floor", "LBumpward$Floor;", true)
  | 1 => ("Bumpward", "walkers", "[LBumpward$Walker;", true)
  | 2 => ("Bumpward", "walkerCount", "I", false)
  | 3 => ("Bumpward", "minute", "I", false)
  | 4 => ("Bumpward", "nextDrawn", "I", false)
  | 5 => ("Bumpward", "drawn", "I", false)
  | 6 => ("Bumpward", "meetings", "I", false)
  | 7 => ("Bumpward", "disputes", "I", false)
  | _ => ("Bumpward", "refused", "I", false)
def tyX5 : Nat → FieldType := fun k => match k with
  | 0 => .object "Bumpward$Floor"
  | 1 => .array (.object "Bumpward$Walker")
  | 2 => .int
  | 3 => .int
  | 4 => .int
  | 5 => .int
  | 6 => .int
  | 7 => .int
  | _ => .int
abbrev wsX50 : List Cond := u_ws RX5 TX5 9
theorem nmX5 : ∀ a, a < 9 → ∀ b, b < 9 → a ≠ b → (TX5 a).2.1 ≠ (TX5 b).2.1 := by decide +kernel
theorem tyX5_ok : ∀ k, k < 9 → parseFieldDescriptor (TX5 k).2.2.1 = some (tyX5 k) := by decide +kernel
abbrev cX5_init : ByteArray := prog_1_method_1_code
def yX5_init : MethodName := ⟨RX5, "<init>", "()V"⟩
abbrev cX5_lay : ByteArray := prog_1_method_3_code
def yX5_lay : MethodName := ⟨RX5, "lay", "(I)I"⟩
abbrev cX5_cell : ByteArray := prog_1_method_4_code
def yX5_cell : MethodName := ⟨RX5, "cell", "(IZZ)I"⟩
abbrev cX5_walker : ByteArray := prog_1_method_5_code
def yX5_walker : MethodName := ⟨RX5, "walker", "(IIIZ)I"⟩
abbrev cX5_forward : ByteArray := prog_1_method_6_code
def yX5_forward : MethodName := ⟨RX5, "forward", "(IZ)Z"⟩
abbrev cX5_turn : ByteArray := prog_1_method_7_code
def yX5_turn : MethodName := ⟨RX5, "turn", "(IZZ)I"⟩
abbrev cX5_feel : ByteArray := prog_1_method_8_code
def yX5_feel : MethodName := ⟨RX5, "feel", "(IZ)I"⟩
abbrev cX5_listen : ByteArray := prog_1_method_9_code
def yX5_listen : MethodName := ⟨RX5, "listen", "(IZ)I"⟩
abbrev cX5_pass : ByteArray := prog_1_method_13_code
def yX5_pass : MethodName := ⟨RX5, "pass", "(I)I"⟩
abbrev cX5_call : ByteArray := prog_1_method_14_code
def yX5_call : MethodName := ⟨RX5, "call", "()I"⟩
abbrev cX5_ofEdge : ByteArray := prog_1_method_15_code
def yX5_ofEdge : MethodName := ⟨RX5, "ofEdge", "(III)I"⟩
abbrev cX5_ofWalker : ByteArray := prog_1_method_16_code
def yX5_ofWalker : MethodName := ⟨RX5, "ofWalker", "(II)I"⟩
abbrev cX5_house : ByteArray := prog_1_method_17_code
def yX5_house : MethodName := ⟨RX5, "house", "(I)I"⟩
abbrev cX5_map : ByteArray := prog_1_method_19_code
def yX5_map : MethodName := ⟨RX5, "map", "(III)I"⟩
abbrev cX5_may : ByteArray := prog_1_method_20_code
def yX5_may : MethodName := ⟨RX5, "may", "(II)Z"⟩
abbrev cX5_where : ByteArray := prog_1_method_21_code
def yX5_where : MethodName := ⟨RX5, "where", "(II)J"⟩
abbrev cX5_way : ByteArray := prog_1_method_22_code
def yX5_way : MethodName := ⟨RX5, "way", "(III)I"⟩
abbrev cX5_safety : ByteArray := prog_1_method_23_code
def yX5_safety : MethodName := ⟨RX5, "safety", "(II)I"⟩
abbrev cX5_doubt : ByteArray := prog_1_method_24_code
def yX5_doubt : MethodName := ⟨RX5, "doubt", "(I)D"⟩
abbrev cX5_worst : ByteArray := prog_1_method_25_code
def yX5_worst : MethodName := ⟨RX5, "worst", "(II)I"⟩
abbrev cX5_best : ByteArray := prog_1_method_26_code
def yX5_best : MethodName := ⟨RX5, "best", "(I)I"⟩
abbrev cX5_isSound : ByteArray := prog_1_method_29_code
def yX5_isSound : MethodName := ⟨RX5, "isSound", "()Z"⟩
abbrev cX5_digest : ByteArray := prog_1_method_30_code
def yX5_digest : MethodName := ⟨RX5, "digest", "()J"⟩
abbrev cX5_joinedWalker : ByteArray := prog_1_method_31_code
def yX5_joinedWalker : MethodName := ⟨RX5, "joinedWalker", "(JI)J"⟩
abbrev cX5_joined : ByteArray := prog_1_method_32_code
def yX5_joined : MethodName := ⟨RX5, "joined", "(JJ)J"⟩
abbrev cX5_asNumber : ByteArray := prog_1_method_33_code
def yX5_asNumber : MethodName := ⟨RX5, "asNumber", "(Z)I"⟩
abbrev cX5_numberBehind : ByteArray := prog_1_method_34_code
def yX5_numberBehind : MethodName := ⟨RX5, "numberBehind", "(I)I"⟩
abbrev cX5_require : ByteArray := prog_1_method_35_code
def yX5_require : MethodName := ⟨RX5, "require", "(Z)V"⟩
abbrev cX5_requireWithin : ByteArray := prog_1_method_36_code
def yX5_requireWithin : MethodName := ⟨RX5, "requireWithin", "(III)V"⟩
abbrev cX5_requireCell : ByteArray := prog_1_method_37_code
def yX5_requireCell : MethodName := ⟨RX5, "requireCell", "(I)V"⟩
abbrev cX5_requireSide : ByteArray := prog_1_method_38_code
def yX5_requireSide : MethodName := ⟨RX5, "requireSide", "(I)V"⟩
abbrev cX5_known : ByteArray := prog_1_method_39_code
def yX5_known : MethodName := ⟨RX5, "known", "(I)LBumpward$Walker;"⟩
abbrev cX5_requireAct : ByteArray := prog_1_method_40_code
def yX5_requireAct : MethodName := ⟨RX5, "requireAct", "(LBumpward$Walker;Z)V"⟩
abbrev cX5_finishAct : ByteArray := prog_1_method_41_code
def yX5_finishAct : MethodName := ⟨RX5, "finishAct", "(LBumpward$Walker;)V"⟩
abbrev cX5_isBarredAhead : ByteArray := prog_1_method_42_code
def yX5_isBarredAhead : MethodName := ⟨RX5, "isBarredAhead", "(LBumpward$Walker;)Z"⟩
abbrev cX5_stepOrSlip : ByteArray := prog_1_method_43_code
def yX5_stepOrSlip : MethodName := ⟨RX5, "stepOrSlip", "(LBumpward$Walker;)V"⟩
abbrev cX5_draw : ByteArray := prog_1_method_44_code
def yX5_draw : MethodName := ⟨RX5, "draw", "()I"⟩
abbrev cX5_hourNow : ByteArray := prog_1_method_45_code
def yX5_hourNow : MethodName := ⟨RX5, "hourNow", "()I"⟩
abbrev cX5_isCountedRight : ByteArray := prog_1_method_48_code
def yX5_isCountedRight : MethodName := ⟨RX5, "isCountedRight", "(LBumpward$Walker;)Z"⟩
def RX6 : String := "BumpwardModel$Walker"
def TX6 : u_T := fun k => match k with
  | _ => ("", "", "", false)
def tyX6 : Nat → FieldType := fun k => match k with
  | _ => .int
abbrev wsX60 : List Cond := u_ws RX6 TX6 0
theorem nmX6 : ∀ a, a < 0 → ∀ b, b < 0 → a ≠ b → (TX6 a).2.1 ≠ (TX6 b).2.1 := by decide +kernel
theorem tyX6_ok : ∀ k, k < 0 → parseFieldDescriptor (TX6 k).2.2.1 = some (tyX6 k) := by decide +kernel
def RX7 : String := "BumpwardModel"
def TX7 : u_T := fun k => match k with
  | _ => ("", "", "", false)
def tyX7 : Nat → FieldType := fun k => match k with
  | _ => .int
abbrev wsX70 : List Cond := u_ws RX7 TX7 0
theorem nmX7 : ∀ a, a < 0 → ∀ b, b < 0 → a ≠ b → (TX7 a).2.1 ≠ (TX7 b).2.1 := by decide +kernel
theorem tyX7_ok : ∀ k, k < 0 → parseFieldDescriptor (TX7 k).2.2.1 = some (tyX7 k) := by decide +kernel
def RJx145de : String := "java/io/Serializable"
def TJx145de : u_T := fun k => match k with
  | _ => ("", "", "", false)
def tyJx145de : Nat → FieldType := fun k => match k with
  | _ => .int
abbrev wsJx145de0 : List Cond := u_ws RJx145de TJx145de 0
theorem nmJx145de : ∀ a, a < 0 → ∀ b, b < 0 → a ≠ b → (TJx145de a).2.1 ≠ (TJx145de b).2.1 := by decide +kernel
theorem tyJx145de_ok : ∀ k, k < 0 → parseFieldDescriptor (TJx145de k).2.2.1 = some (tyJx145de k) := by decide +kernel
def RJx8e188 : String := "java/lang/Cloneable"
def TJx8e188 : u_T := fun k => match k with
  | _ => ("", "", "", false)
def tyJx8e188 : Nat → FieldType := fun k => match k with
  | _ => .int
abbrev wsJx8e1880 : List Cond := u_ws RJx8e188 TJx8e188 0
theorem nmJx8e188 : ∀ a, a < 0 → ∀ b, b < 0 → a ≠ b → (TJx8e188 a).2.1 ≠ (TJx8e188 b).2.1 := by decide +kernel
theorem tyJx8e188_ok : ∀ k, k < 0 → parseFieldDescriptor (TJx8e188 k).2.2.1 = some (tyJx8e188 k) := by decide +kernel
def RJ13 : String := "java/lang/Long"
def TJ13 : u_T := fun k => match k with
  | _ => ("", "", "", false)
def tyJ13 : Nat → FieldType := fun k => match k with
  | _ => .int
abbrev wsJ130 : List Cond := u_ws RJ13 TJ13 0
theorem nmJ13 : ∀ a, a < 0 → ∀ b, b < 0 → a ≠ b → (TJ13 a).2.1 ≠ (TJ13 b).2.1 := by decide +kernel
theorem tyJ13_ok : ∀ k, k < 0 → parseFieldDescriptor (TJ13 k).2.2.1 = some (tyJ13 k) := by decide +kernel
abbrev cJ13_bitCount_95d88 : ByteArray := prog_15_method_50_code
def yJ13_bitCount_95d88 : MethodName := ⟨RJ13, "bitCount", "(J)I"⟩
def RJ9 : String := "java/lang/Math"
def TJ9 : u_T := fun k => match k with
  | _ => ("", "", "", false)
def tyJ9 : Nat → FieldType := fun k => match k with
  | _ => .int
abbrev wsJ90 : List Cond := u_ws RJ9 TJ9 0
theorem nmJ9 : ∀ a, a < 0 → ∀ b, b < 0 → a ≠ b → (TJ9 a).2.1 ≠ (TJ9 b).2.1 := by decide +kernel
theorem tyJ9_ok : ∀ k, k < 0 → parseFieldDescriptor (TJ9 k).2.2.1 = some (tyJ9 k) := by decide +kernel
abbrev cJ9_abs_0f7a4 : ByteArray := prog_16_method_59_code
def yJ9_abs_0f7a4 : MethodName := ⟨RJ9, "abs", "(I)I"⟩
abbrev cJ9_max_7cf53 : ByteArray := prog_16_method_65_code
def yJ9_max_7cf53 : MethodName := ⟨RJ9, "max", "(II)I"⟩
abbrev cJ9_min_7cf53 : ByteArray := prog_16_method_69_code
def yJ9_min_7cf53 : MethodName := ⟨RJ9, "min", "(II)I"⟩
def RJ0 : String := "java/lang/String"
def TJ0 : u_T := fun k => match k with
  | _ => ("", "", "", false)
def tyJ0 : Nat → FieldType := fun k => match k with
  | _ => .int
abbrev wsJ00 : List Cond := u_ws RJ0 TJ0 0
theorem nmJ0 : ∀ a, a < 0 → ∀ b, b < 0 → a ≠ b → (TJ0 a).2.1 ≠ (TJ0 b).2.1 := by decide +kernel
theorem tyJ0_ok : ∀ k, k < 0 → parseFieldDescriptor (TJ0 k).2.2.1 = some (tyJ0 k) := by decide +kernel
def RL : String := "BumpwardLaw"
abbrev cL_below : ByteArray := method_2_code
def yL_below : MethodName := ⟨RL, "below", "(II)I"⟩
abbrev cL_cell : ByteArray := method_3_code
def yL_cell : MethodName := ⟨RL, "cell", "([II)I"⟩
abbrev cL_law : ByteArray := code
def yL_law : MethodName := ⟨RL, "law", "([I)Z"⟩
abbrev cL_isDone : ByteArray := method_5_code
def yL_isDone : MethodName := ⟨RL, "isDone", "(LBumpward;IIII)Z"⟩
abbrev cL_isWell : ByteArray := method_6_code
def yL_isWell : MethodName := ⟨RL, "isWell", "(LBumpward;I)Z"⟩
abbrev vwCl : List vw_C := [(RX0, TX0, 1), (RX1, TX1, 4), (RX3, TX3, 9), (RX4, TX4, 2), (RX5, TX5, 9)]
