section
def RX0 : String := "Bumpward$Belief"
def TX0 : u_T := fun k => match k with
  | _ => ("Bumpward$Belief", "cells", "[J", true)
def tyX0 : Nat → FieldType := fun k => match k with
  | _ => .array .long
abbrev wsX00 : List Cond := u_ws RX0 TX0 1
theorem nmX0 : ∀ a, a < 1 → ∀ b, b < 1 → a ≠ b → (TX0 a).2.1 ≠ (TX0 b).2.1 := by decide +kernel
theorem tyX0_ok : ∀ k, k < 1 → parseFieldDescriptor (TX0 k).2.2.1 = some (tyX0 k) := by decide +kernel
abbrev cX0_init : ByteArray := prog_2_method_1_code
def yX0_init : MethodName := ⟨RX0, "<init>", "()V"⟩
abbrev cX0_setAll : ByteArray := prog_2_method_2_code
def yX0_setAll : MethodName := ⟨RX0, "setAll", "()V"⟩
abbrev cX0_setOnly : ByteArray := prog_2_method_3_code
def yX0_setOnly : MethodName := ⟨RX0, "setOnly", "(I)V"⟩
abbrev cX0_size : ByteArray := prog_2_method_4_code
def yX0_size : MethodName := ⟨RX0, "size", "()I"⟩
abbrev cX0_holds : ByteArray := prog_2_method_5_code
def yX0_holds : MethodName := ⟨RX0, "holds", "(I)Z"⟩
abbrev cX0_anyFacing : ByteArray := prog_2_method_6_code
def yX0_anyFacing : MethodName := ⟨RX0, "anyFacing", "()J"⟩
abbrev cX0_onlyPose : ByteArray := prog_2_method_7_code
def yX0_onlyPose : MethodName := ⟨RX0, "onlyPose", "()I"⟩
abbrev cX0_ifForward : ByteArray := prog_2_method_8_code
def yX0_ifForward : MethodName := ⟨RX0, "ifForward", "(IZLBumpward$WalkerMap;)J"⟩
abbrev cX0_ifFelt : ByteArray := prog_2_method_9_code
def yX0_ifFelt : MethodName := ⟨RX0, "ifFelt", "(IILBumpward$WalkerMap;)J"⟩
abbrev cX0_changeByForward : ByteArray := prog_2_method_10_code
def yX0_changeByForward : MethodName := ⟨RX0, "changeByForward", "(ZLBumpward$WalkerMap;)V"⟩
abbrev cX0_changeByFelt : ByteArray := prog_2_method_11_code
def yX0_changeByFelt : MethodName := ⟨RX0, "changeByFelt", "(ILBumpward$WalkerMap;)V"⟩
abbrev cX0_rotateRight : ByteArray := prog_2_method_12_code
def yX0_rotateRight : MethodName := ⟨RX0, "rotateRight", "()V"⟩
abbrev cX0_rotateLeft : ByteArray := prog_2_method_13_code
def yX0_rotateLeft : MethodName := ⟨RX0, "rotateLeft", "()V"⟩
abbrev cX0_sizeIfForward : ByteArray := prog_2_method_14_code
def yX0_sizeIfForward : MethodName := ⟨RX0, "sizeIfForward", "(ZLBumpward$WalkerMap;)I"⟩
abbrev cX0_sizeIfFelt : ByteArray := prog_2_method_15_code
def yX0_sizeIfFelt : MethodName := ⟨RX0, "sizeIfFelt", "(ILBumpward$WalkerMap;)I"⟩
def RX1 : String := "Bumpward$Floor"
def TX1 : u_T := fun k => match k with
  | 0 => ("Bumpward$Floor", "kinds", "[I", true)
  | 1 => ("Bumpward$Floor", "hours", "[I", true)
  | 2 => ("Bumpward$Floor", "carpets", "J", false)
  | _ => ("Bumpward$Floor", "barred", "J", false)
def tyX1 : Nat → FieldType := fun k => match k with
  | 0 => .array .int
  | 1 => .array .int
  | 2 => .long
  | _ => .long
abbrev wsX10 : List Cond := u_ws RX1 TX1 4
theorem nmX1 : ∀ a, a < 4 → ∀ b, b < 4 → a ≠ b → (TX1 a).2.1 ≠ (TX1 b).2.1 := by decide +kernel
theorem tyX1_ok : ∀ k, k < 4 → parseFieldDescriptor (TX1 k).2.2.1 = some (tyX1 k) := by decide +kernel
abbrev cX1_init : ByteArray := prog_3_method_1_code
def yX1_init : MethodName := ⟨RX1, "<init>", "()V"⟩
abbrev cX1_placeOf : ByteArray := prog_3_method_2_code
def yX1_placeOf : MethodName := ⟨RX1, "placeOf", "(II)I"⟩
abbrev cX1_isPlace : ByteArray := prog_3_method_3_code
def yX1_isPlace : MethodName := ⟨RX1, "isPlace", "(I)Z"⟩
abbrev cX1_tell : ByteArray := prog_3_method_4_code
def yX1_tell : MethodName := ⟨RX1, "tell", "(IIII)V"⟩
abbrev cX1_layBySeed : ByteArray := prog_3_method_5_code
def yX1_layBySeed : MethodName := ⟨RX1, "layBySeed", "(I)V"⟩
abbrev cX1_tellCell : ByteArray := prog_3_method_6_code
def yX1_tellCell : MethodName := ⟨RX1, "tellCell", "(IZZ)V"⟩
abbrev cX1_kindOf : ByteArray := prog_3_method_7_code
def yX1_kindOf : MethodName := ⟨RX1, "kindOf", "(II)I"⟩
abbrev cX1_hoursOf : ByteArray := prog_3_method_8_code
def yX1_hoursOf : MethodName := ⟨RX1, "hoursOf", "(II)I"⟩
abbrev cX1_isClosed : ByteArray := prog_3_method_9_code
def yX1_isClosed : MethodName := ⟨RX1, "isClosed", "(III)Z"⟩
abbrev cX1_isOpenAt : ByteArray := prog_3_method_10_code
def yX1_isOpenAt : MethodName := ⟨RX1, "isOpenAt", "(II)Z"⟩
abbrev cX1_feltAt : ByteArray := prog_3_method_11_code
def yX1_feltAt : MethodName := ⟨RX1, "feltAt", "(III)I"⟩
abbrev cX1_countOf : ByteArray := prog_3_method_12_code
def yX1_countOf : MethodName := ⟨RX1, "countOf", "(I)I"⟩
abbrev cX1_countOpenDoors : ByteArray := prog_3_method_13_code
def yX1_countOpenDoors : MethodName := ⟨RX1, "countOpenDoors", "(I)I"⟩
abbrev cX1_countKnown : ByteArray := prog_3_method_14_code
def yX1_countKnown : MethodName := ⟨RX1, "countKnown", "(LBumpward$WalkerMap;ZI)I"⟩
def RX2 : String := "Bumpward$Grid"
def TX2 : u_T := fun k => match k with
  | _ => ("", "", "", false)
def tyX2 : Nat → FieldType := fun k => match k with
  | _ => .int
abbrev wsX20 : List Cond := u_ws RX2 TX2 0
theorem nmX2 : ∀ a, a < 0 → ∀ b, b < 0 → a ≠ b → (TX2 a).2.1 ≠ (TX2 b).2.1 := by decide +kernel
theorem tyX2_ok : ∀ k, k < 0 → parseFieldDescriptor (TX2 k).2.2.1 = some (tyX2 k) := by decide +kernel
abbrev cX2_has : ByteArray := prog_4_method_2_code
def yX2_has : MethodName := ⟨RX2, "has", "(JI)Z"⟩
abbrev cX2_outerCells : ByteArray := prog_4_method_3_code
def yX2_outerCells : MethodName := ⟨RX2, "outerCells", "()[J"⟩
abbrev cX2_ahead : ByteArray := prog_4_method_4_code
def yX2_ahead : MethodName := ⟨RX2, "ahead", "(II)I"⟩
abbrev cX2_moved : ByteArray := prog_4_method_5_code
def yX2_moved : MethodName := ⟨RX2, "moved", "(JI)J"⟩
abbrev cX2_feltSide : ByteArray := prog_4_method_6_code
def yX2_feltSide : MethodName := ⟨RX2, "feltSide", "(II)I"⟩
abbrev cX2_isNear : ByteArray := prog_4_method_7_code
def yX2_isNear : MethodName := ⟨RX2, "isNear", "(II)Z"⟩
def RX3 : String := "Bumpward$Walker"
def TX3 : u_T := fun k => match k with
  | 0 => ("Bumpward$Walker", "home", "I", true)
  | 1 => ("Bumpward$Walker", "map", "LBumpward$WalkerMap;", true)
  | 2 => ("Bumpward$Walker", "belief", "LBumpward$Belief;", true)
  | 3 => ("Bumpward$Walker", "pose", "I", false)
  | 4 => ("Bumpward$Walker", "charge", "I", false)
  | 5 => ("Bumpward$Walker", "lost", "I", false)
  | 6 => ("Bumpward$Walker", "acts", "I", false)
  | 7 => ("Bumpward$Walker", "bumps", "I", false)
  | _ => ("Bumpward$Walker", "slips", "I", false)
def tyX3 : Nat → FieldType := fun k => match k with
  | 0 => .int
  | 1 => .object "Bumpward$WalkerMap"
  | 2 => .object "Bumpward$Belief"
  | 3 => .int
  | 4 => .int
  | 5 => .int
  | 6 => .int
  | 7 => .int
  | _ => .int
abbrev wsX30 : List Cond := u_ws RX3 TX3 9
theorem nmX3 : ∀ a, a < 9 → ∀ b, b < 9 → a ≠ b → (TX3 a).2.1 ≠ (TX3 b).2.1 := by decide +kernel
theorem tyX3_ok : ∀ k, k < 9 → parseFieldDescriptor (TX3 k).2.2.1 = some (tyX3 k) := by decide +kernel
abbrev cX3_init : ByteArray := prog_5_method_1_code
def yX3_init : MethodName := ⟨RX3, "<init>", "(IIIZ)V"⟩
abbrev cX3_cellNow : ByteArray := prog_5_method_2_code
def yX3_cellNow : MethodName := ⟨RX3, "cellNow", "()I"⟩
abbrev cX3_facingNow : ByteArray := prog_5_method_3_code
def yX3_facingNow : MethodName := ⟨RX3, "facingNow", "()I"⟩
abbrev cX3_isSure : ByteArray := prog_5_method_4_code
def yX3_isSure : MethodName := ⟨RX3, "isSure", "()Z"⟩
abbrev cX3_step : ByteArray := prog_5_method_5_code
def yX3_step : MethodName := ⟨RX3, "step", "()V"⟩
abbrev cX3_rotate : ByteArray := prog_5_method_6_code
def yX3_rotate : MethodName := ⟨RX3, "rotate", "(Z)V"⟩
abbrev cX3_learnForward : ByteArray := prog_5_method_7_code
def yX3_learnForward : MethodName := ⟨RX3, "learnForward", "(Z)V"⟩
abbrev cX3_learnFelt : ByteArray := prog_5_method_8_code
def yX3_learnFelt : MethodName := ⟨RX3, "learnFelt", "(I)V"⟩
abbrev cX3_startAnewIfLost : ByteArray := prog_5_method_9_code
def yX3_startAnewIfLost : MethodName := ⟨RX3, "startAnewIfLost", "()V"⟩
abbrev cX3_wayHome : ByteArray := prog_5_method_10_code
def yX3_wayHome : MethodName := ⟨RX3, "wayHome", "()I"⟩
abbrev cX3_costOf : ByteArray := prog_5_method_11_code
def yX3_costOf : MethodName := ⟨RX3, "costOf", "(I)I"⟩
abbrev cX3_isSafe : ByteArray := prog_5_method_12_code
def yX3_isSafe : MethodName := ⟨RX3, "isSafe", "()Z"⟩
abbrev cX3_goal : ByteArray := prog_5_method_13_code
def yX3_goal : MethodName := ⟨RX3, "goal", "()I"⟩
abbrev cX3_worstOf : ByteArray := prog_5_method_14_code
def yX3_worstOf : MethodName := ⟨RX3, "worstOf", "(I)I"⟩
abbrev cX3_figure : ByteArray := prog_5_method_15_code
def yX3_figure : MethodName := ⟨RX3, "figure", "(I)I"⟩
abbrev cX3_isInOrder : ByteArray := prog_5_method_16_code
def yX3_isInOrder : MethodName := ⟨RX3, "isInOrder", "()Z"⟩
def RX4 : String := "Bumpward$WalkerMap"
def TX4 : u_T := fun k => match k with
  | 0 => ("Bumpward$WalkerMap", "free", "[J", true)
  | _ => ("Bumpward$WalkerMap", "wall", "[J", true)
def tyX4 : Nat → FieldType := fun k => match k with
  | 0 => .array .long
  | _ => .array .long
abbrev wsX40 : List Cond := u_ws RX4 TX4 2
theorem nmX4 : ∀ a, a < 2 → ∀ b, b < 2 → a ≠ b → (TX4 a).2.1 ≠ (TX4 b).2.1 := by decide +kernel
theorem tyX4_ok : ∀ k, k < 2 → parseFieldDescriptor (TX4 k).2.2.1 = some (tyX4 k) := by decide +kernel
abbrev cX4_init : ByteArray := prog_6_method_1_code
def yX4_init : MethodName := ⟨RX4, "<init>", "()V"⟩
abbrev cX4_stateOf : ByteArray := prog_6_method_2_code
def yX4_stateOf : MethodName := ⟨RX4, "stateOf", "(II)I"⟩
abbrev cX4_put : ByteArray := prog_6_method_3_code
def yX4_put : MethodName := ⟨RX4, "put", "(IIZ)V"⟩
abbrev cX4_mark : ByteArray := prog_6_method_4_code
def yX4_mark : MethodName := ⟨RX4, "mark", "(IIZ)V"⟩
abbrev cX4_fitting : ByteArray := prog_6_method_5_code
def yX4_fitting : MethodName := ⟨RX4, "fitting", "(IZ)J"⟩
abbrev cX4_unknownOn : ByteArray := prog_6_method_6_code
def yX4_unknownOn : MethodName := ⟨RX4, "unknownOn", "(I)J"⟩
abbrev cX4_countFree : ByteArray := prog_6_method_7_code
def yX4_countFree : MethodName := ⟨RX4, "countFree", "()I"⟩
abbrev cX4_countWalls : ByteArray := prog_6_method_8_code
def yX4_countWalls : MethodName := ⟨RX4, "countWalls", "()I"⟩
abbrev cX4_countUnknown : ByteArray := prog_6_method_9_code
def yX4_countUnknown : MethodName := ⟨RX4, "countUnknown", "()I"⟩
abbrev cX4_disputesWith : ByteArray := prog_6_method_10_code
def yX4_disputesWith : MethodName := ⟨RX4, "disputesWith", "(LBumpward$WalkerMap;)I"⟩
abbrev cX4_learnFrom : ByteArray := prog_6_method_11_code
def yX4_learnFrom : MethodName := ⟨RX4, "learnFrom", "(LBumpward$WalkerMap;)I"⟩
abbrev cX4_withNeighbours : ByteArray := prog_6_method_12_code
def yX4_withNeighbours : MethodName := ⟨RX4, "withNeighbours", "(J)J"⟩
abbrev cX4_wayBetween : ByteArray := prog_6_method_13_code
def yX4_wayBetween : MethodName := ⟨RX4, "wayBetween", "(II)I"⟩
abbrev cX4_goalFrom : ByteArray := prog_6_method_14_code
def yX4_goalFrom : MethodName := ⟨RX4, "goalFrom", "(I)I"⟩
abbrev cX4_firstOf : ByteArray := prog_6_method_15_code
def yX4_firstOf : MethodName := ⟨RX4, "firstOf", "(J)I"⟩
def RX5 : String := "Bumpward"
def TX5 : u_T := fun k => match k with
  | 0 => ("Bumpward", "floor", "LBumpward$Floor;", true)
  | 1 => ("Bumpward", "walkers", "[LBumpward$Walker;", true)
  | 2 => ("Bumpward", "walkerCount", "I", false)
  | 3 => ("Bumpward", "minute", "I", false)
  | 4 => ("Bumpward", "nextDrawn", "I", false)
  | 5 => ("Bumpward", "drawn", "I", false)
  | 6 => ("Bumpward", "meetings", "I", false)
  | 7 => ("Bumpward", "disputes", "I", false)
  | _ => ("Bumpward", "refused", "I", false)
def tyX5 : Nat → FieldType := fun k => match k with
  | 0 => .object "Bumpward$Floor"
  | 1 => .array (.object "Bumpward$Walker")
  | 2 => .int
  | 3 => .int
  | 4 => .int
  | 5 => .int
  | 6 => .int
  | 7 => .int
  | _ => .int
abbrev wsX50 : List Cond := u_ws RX5 TX5 9
theorem nmX5 : ∀ a, a < 9 → ∀ b, b < 9 → a ≠ b → (TX5 a).2.1 ≠ (TX5 b).2.1 := by decide +kernel
theorem tyX5_ok : ∀ k, k < 9 → parseFieldDescriptor (TX5 k).2.2.1 = some (tyX5 k) := by decide +kernel
abbrev cX5_init : ByteArray := prog_1_method_1_code
def yX5_init : MethodName := ⟨RX5, "<init>", "()V"⟩
abbrev cX5_edge : ByteArray := prog_1_method_2_code
def yX5_edge : MethodName := ⟨RX5, "edge", "(IIII)I"⟩
abbrev cX5_lay : ByteArray := prog_1_method_3_code
def yX5_lay : MethodName := ⟨RX5, "lay", "(I)I"⟩
abbrev cX5_cell : ByteArray := prog_1_method_4_code
def yX5_cell : MethodName := ⟨RX5, "cell", "(IZZ)I"⟩
abbrev cX5_walker : ByteArray := prog_1_method_5_code
def yX5_walker : MethodName := ⟨RX5, "walker", "(IIIZ)I"⟩
abbrev cX5_forward : ByteArray := prog_1_method_6_code
def yX5_forward : MethodName := ⟨RX5, "forward", "(IZ)Z"⟩
abbrev cX5_turn : ByteArray := prog_1_method_7_code
def yX5_turn : MethodName := ⟨RX5, "turn", "(IZZ)I"⟩
abbrev cX5_feel : ByteArray := prog_1_method_8_code
def yX5_feel : MethodName := ⟨RX5, "feel", "(IZ)I"⟩
abbrev cX5_listen : ByteArray := prog_1_method_9_code
def yX5_listen : MethodName := ⟨RX5, "listen", "(IZ)I"⟩
abbrev cX5_charge : ByteArray := prog_1_method_10_code
def yX5_charge : MethodName := ⟨RX5, "charge", "(II)I"⟩
abbrev cX5_tellPose : ByteArray := prog_1_method_11_code
def yX5_tellPose : MethodName := ⟨RX5, "tellPose", "(I)I"⟩
abbrev cX5_meet : ByteArray := prog_1_method_12_code
def yX5_meet : MethodName := ⟨RX5, "meet", "(II)I"⟩
abbrev cX5_pass : ByteArray := prog_1_method_13_code
def yX5_pass : MethodName := ⟨RX5, "pass", "(I)I"⟩
abbrev cX5_call : ByteArray := prog_1_method_14_code
def yX5_call : MethodName := ⟨RX5, "call", "()I"⟩
abbrev cX5_ofEdge : ByteArray := prog_1_method_15_code
def yX5_ofEdge : MethodName := ⟨RX5, "ofEdge", "(III)I"⟩
abbrev cX5_ofWalker : ByteArray := prog_1_method_16_code
def yX5_ofWalker : MethodName := ⟨RX5, "ofWalker", "(II)I"⟩
abbrev cX5_house : ByteArray := prog_1_method_17_code
def yX5_house : MethodName := ⟨RX5, "house", "(I)I"⟩
abbrev cX5_row : ByteArray := prog_1_method_18_code
def yX5_row : MethodName := ⟨RX5, "row", "(I)Ljava/lang/String;"⟩
abbrev cX5_map : ByteArray := prog_1_method_19_code
def yX5_map : MethodName := ⟨RX5, "map", "(III)I"⟩
abbrev cX5_may : ByteArray := prog_1_method_20_code
def yX5_may : MethodName := ⟨RX5, "may", "(II)Z"⟩
abbrev cX5_where : ByteArray := prog_1_method_21_code
def yX5_where : MethodName := ⟨RX5, "where", "(II)J"⟩
abbrev cX5_way : ByteArray := prog_1_method_22_code
def yX5_way : MethodName := ⟨RX5, "way", "(III)I"⟩
abbrev cX5_safety : ByteArray := prog_1_method_23_code
def yX5_safety : MethodName := ⟨RX5, "safety", "(II)I"⟩
abbrev cX5_doubt : ByteArray := prog_1_method_24_code
def yX5_doubt : MethodName := ⟨RX5, "doubt", "(I)D"⟩
abbrev cX5_worst : ByteArray := prog_1_method_25_code
def yX5_worst : MethodName := ⟨RX5, "worst", "(II)I"⟩
abbrev cX5_best : ByteArray := prog_1_method_26_code
def yX5_best : MethodName := ⟨RX5, "best", "(I)I"⟩
abbrev cX5_wouldFeel : ByteArray := prog_1_method_27_code
def yX5_wouldFeel : MethodName := ⟨RX5, "wouldFeel", "(II)I"⟩
abbrev cX5_wouldBe : ByteArray := prog_1_method_28_code
def yX5_wouldBe : MethodName := ⟨RX5, "wouldBe", "(II)I"⟩
abbrev cX5_isSound : ByteArray := prog_1_method_29_code
def yX5_isSound : MethodName := ⟨RX5, "isSound", "()Z"⟩
abbrev cX5_digest : ByteArray := prog_1_method_30_code
def yX5_digest : MethodName := ⟨RX5, "digest", "()J"⟩
abbrev cX5_joinedWalker : ByteArray := prog_1_method_31_code
def yX5_joinedWalker : MethodName := ⟨RX5, "joinedWalker", "(JI)J"⟩
abbrev cX5_joined : ByteArray := prog_1_method_32_code
def yX5_joined : MethodName := ⟨RX5, "joined", "(JJ)J"⟩
abbrev cX5_asNumber : ByteArray := prog_1_method_33_code
def yX5_asNumber : MethodName := ⟨RX5, "asNumber", "(Z)I"⟩
abbrev cX5_numberBehind : ByteArray := prog_1_method_34_code
def yX5_numberBehind : MethodName := ⟨RX5, "numberBehind", "(I)I"⟩
abbrev cX5_require : ByteArray := prog_1_method_35_code
def yX5_require : MethodName := ⟨RX5, "require", "(Z)V"⟩
abbrev cX5_requireWithin : ByteArray := prog_1_method_36_code
def yX5_requireWithin : MethodName := ⟨RX5, "requireWithin", "(III)V"⟩
abbrev cX5_requireCell : ByteArray := prog_1_method_37_code
def yX5_requireCell : MethodName := ⟨RX5, "requireCell", "(I)V"⟩
abbrev cX5_requireSide : ByteArray := prog_1_method_38_code
def yX5_requireSide : MethodName := ⟨RX5, "requireSide", "(I)V"⟩
abbrev cX5_known : ByteArray := prog_1_method_39_code
def yX5_known : MethodName := ⟨RX5, "known", "(I)LBumpward$Walker;"⟩
abbrev cX5_requireAct : ByteArray := prog_1_method_40_code
def yX5_requireAct : MethodName := ⟨RX5, "requireAct", "(LBumpward$Walker;Z)V"⟩
abbrev cX5_finishAct : ByteArray := prog_1_method_41_code
def yX5_finishAct : MethodName := ⟨RX5, "finishAct", "(LBumpward$Walker;)V"⟩
abbrev cX5_isBarredAhead : ByteArray := prog_1_method_42_code
def yX5_isBarredAhead : MethodName := ⟨RX5, "isBarredAhead", "(LBumpward$Walker;)Z"⟩
abbrev cX5_stepOrSlip : ByteArray := prog_1_method_43_code
def yX5_stepOrSlip : MethodName := ⟨RX5, "stepOrSlip", "(LBumpward$Walker;)V"⟩
abbrev cX5_draw : ByteArray := prog_1_method_44_code
def yX5_draw : MethodName := ⟨RX5, "draw", "()I"⟩
abbrev cX5_hourNow : ByteArray := prog_1_method_45_code
def yX5_hourNow : MethodName := ⟨RX5, "hourNow", "()I"⟩
abbrev cX5_signOfCell : ByteArray := prog_1_method_46_code
def yX5_signOfCell : MethodName := ⟨RX5, "signOfCell", "(I)C"⟩
abbrev cX5_signOfKind : ByteArray := prog_1_method_47_code
def yX5_signOfKind : MethodName := ⟨RX5, "signOfKind", "(I)C"⟩
abbrev cX5_isCountedRight : ByteArray := prog_1_method_48_code
def yX5_isCountedRight : MethodName := ⟨RX5, "isCountedRight", "(LBumpward$Walker;)Z"⟩
def RX6 : String := "BumpwardLaw$Out"
def TX6 : u_T := fun k => match k with
  | 0 => ("BumpwardLaw$Out", "n", "J", false)
  | 1 => ("BumpwardLaw$Out", "d", "D", false)
  | _ => ("BumpwardLaw$Out", "s", "Ljava/lang/String;", false)
def tyX6 : Nat → FieldType := fun k => match k with
  | 0 => .long
  | 1 => .double
  | _ => .object "java/lang/String"
abbrev wsX60 : List Cond := u_ws RX6 TX6 3
theorem nmX6 : ∀ a, a < 3 → ∀ b, b < 3 → a ≠ b → (TX6 a).2.1 ≠ (TX6 b).2.1 := by decide +kernel
theorem tyX6_ok : ∀ k, k < 3 → parseFieldDescriptor (TX6 k).2.2.1 = some (tyX6 k) := by decide +kernel
abbrev cX6_init : ByteArray := prog_8_method_1_code
def yX6_init : MethodName := ⟨RX6, "<init>", "()V"⟩
def RX7 : String := "BumpwardModel$Walker"
def TX7 : u_T := fun k => match k with
  | 0 => ("BumpwardModel$Walker", "pose", "I", false)
  | 1 => ("BumpwardModel$Walker", "home", "I", false)
  | 2 => ("BumpwardModel$Walker", "charge", "I", false)
  | 3 => ("BumpwardModel$Walker", "may", "[Z", false)
  | 4 => ("BumpwardModel$Walker", "map", "[[I", true)
  | 5 => ("BumpwardModel$Walker", "lost", "I", false)
  | 6 => ("BumpwardModel$Walker", "acts", "I", false)
  | 7 => ("BumpwardModel$Walker", "bumps", "I", false)
  | _ => ("BumpwardModel$Walker", "slips", "I", false)
def tyX7 : Nat → FieldType := fun k => match k with
  | 0 => .int
  | 1 => .int
  | 2 => .int
  | 3 => .array .boolean
  | 4 => .array (.array .int)
  | 5 => .int
  | 6 => .int
  | 7 => .int
  | _ => .int
abbrev wsX70 : List Cond := u_ws RX7 TX7 9
theorem nmX7 : ∀ a, a < 9 → ∀ b, b < 9 → a ≠ b → (TX7 a).2.1 ≠ (TX7 b).2.1 := by decide +kernel
theorem tyX7_ok : ∀ k, k < 9 → parseFieldDescriptor (TX7 k).2.2.1 = some (tyX7 k) := by decide +kernel
abbrev cX7_init : ByteArray := prog_10_method_1_code
def yX7_init : MethodName := ⟨RX7, "<init>", "()V"⟩
abbrev cX7_many : ByteArray := prog_10_method_2_code
def yX7_many : MethodName := ⟨RX7, "many", "()I"⟩
abbrev cX7_sure : ByteArray := prog_10_method_3_code
def yX7_sure : MethodName := ⟨RX7, "sure", "()I"⟩
abbrev cX7_cell : ByteArray := prog_10_method_4_code
def yX7_cell : MethodName := ⟨RX7, "cell", "()I"⟩
def RX8 : String := "BumpwardModel"
def TX8 : u_T := fun k => match k with
  | 0 => ("BumpwardModel", "thrown", "I", false)
  | 1 => ("BumpwardModel", "minute", "I", false)
  | 2 => ("BumpwardModel", "drawn", "I", false)
  | 3 => ("BumpwardModel", "draws", "I", false)
  | 4 => ("BumpwardModel", "meetings", "I", false)
  | 5 => ("BumpwardModel", "disputes", "I", false)
  | 6 => ("BumpwardModel", "refused", "I", false)
  | 7 => ("BumpwardModel", "kind", "[[I", true)
  | 8 => ("BumpwardModel", "hours", "[[I", true)
  | 9 => ("BumpwardModel", "isCarpet", "[Z", true)
  | 10 => ("BumpwardModel", "isBarred", "[Z", true)
  | _ => ("BumpwardModel", "walkers", "Ljava/util/ArrayList;", true)
def tyX8 : Nat → FieldType := fun k => match k with
  | 0 => .int
  | 1 => .int
  | 2 => .int
  | 3 => .int
  | 4 => .int
  | 5 => .int
  | 6 => .int
  | 7 => .array (.array .int)
  | 8 => .array (.array .int)
  | 9 => .array .boolean
  | 10 => .array .boolean
  | _ => .object "java/util/ArrayList"
abbrev wsX80 : List Cond := u_ws RX8 TX8 12
theorem nmX8 : ∀ a, a < 12 → ∀ b, b < 12 → a ≠ b → (TX8 a).2.1 ≠ (TX8 b).2.1 := by decide +kernel
theorem tyX8_ok : ∀ k, k < 12 → parseFieldDescriptor (TX8 k).2.2.1 = some (tyX8 k) := by decide +kernel
abbrev cX8_init : ByteArray := prog_9_method_1_code
def yX8_init : MethodName := ⟨RX8, "<init>", "()V"⟩
abbrev cX8_thrown : ByteArray := prog_9_method_2_code
def yX8_thrown : MethodName := ⟨RX8, "thrown", "()I"⟩
abbrev cX8_isIn : ByteArray := prog_9_method_3_code
def yX8_isIn : MethodName := ⟨RX8, "isIn", "(III)Z"⟩
abbrev cX8_refuse : ByteArray := prog_9_method_4_code
def yX8_refuse : MethodName := ⟨RX8, "refuse", "(ZI)Z"⟩
abbrev cX8_start : ByteArray := prog_9_method_5_code
def yX8_start : MethodName := ⟨RX8, "start", "(ZI)Z"⟩
abbrev cX8_isNoCell : ByteArray := prog_9_method_6_code
def yX8_isNoCell : MethodName := ⟨RX8, "isNoCell", "(I)Z"⟩
abbrev cX8_isNoSide : ByteArray := prog_9_method_7_code
def yX8_isNoSide : MethodName := ⟨RX8, "isNoSide", "(I)Z"⟩
abbrev cX8_isNoWalker : ByteArray := prog_9_method_8_code
def yX8_isNoWalker : MethodName := ⟨RX8, "isNoWalker", "(I)Z"⟩
abbrev cX8_beyond : ByteArray := prog_9_method_9_code
def yX8_beyond : MethodName := ⟨RX8, "beyond", "(II)I"⟩
abbrev cX8_keeper : ByteArray := prog_9_method_10_code
def yX8_keeper : MethodName := ⟨RX8, "keeper", "(II)I"⟩
abbrev cX8_way : ByteArray := prog_9_method_11_code
def yX8_way : MethodName := ⟨RX8, "way", "(I)I"⟩
abbrev cX8_isOpen : ByteArray := prog_9_method_12_code
def yX8_isOpen : MethodName := ⟨RX8, "isOpen", "(II)Z"⟩
abbrev cX8_isWallBy : ByteArray := prog_9_method_13_code
def yX8_isWallBy : MethodName := ⟨RX8, "isWallBy", "(II)Z"⟩
abbrev cX8_isWallNow : ByteArray := prog_9_method_14_code
def yX8_isWallNow : MethodName := ⟨RX8, "isWallNow", "(II)Z"⟩
abbrev cX8_known : ByteArray := prog_9_method_15_code
def yX8_known : MethodName := ⟨RX8, "known", "(LBumpwardModel$Walker;II)I"⟩
abbrev cX8_learn : ByteArray := prog_9_method_16_code
def yX8_learn : MethodName := ⟨RX8, "learn", "(LBumpwardModel$Walker;IIZ)V"⟩
abbrev cX8_isWithin : ByteArray := prog_9_method_17_code
def yX8_isWithin : MethodName := ⟨RX8, "isWithin", "(II)Z"⟩
abbrev cX8_turned : ByteArray := prog_9_method_18_code
def yX8_turned : MethodName := ⟨RX8, "turned", "(II)I"⟩
abbrev cX8_edge : ByteArray := prog_9_method_19_code
def yX8_edge : MethodName := ⟨RX8, "edge", "(IIII)I"⟩
abbrev cX8_kinds : ByteArray := prog_9_method_20_code
def yX8_kinds : MethodName := ⟨RX8, "kinds", "(I)I"⟩
abbrev cX8_lay : ByteArray := prog_9_method_21_code
def yX8_lay : MethodName := ⟨RX8, "lay", "(I)I"⟩
abbrev cX8_all : ByteArray := prog_9_method_22_code
def yX8_all : MethodName := ⟨RX8, "all", "([Z)I"⟩
abbrev cX8_cell : ByteArray := prog_9_method_23_code
def yX8_cell : MethodName := ⟨RX8, "cell", "(IZZ)I"⟩
abbrev cX8_fill : ByteArray := prog_9_method_24_code
def yX8_fill : MethodName := ⟨RX8, "fill", "(LBumpwardModel$Walker;)V"⟩
abbrev cX8_walker : ByteArray := prog_9_method_25_code
def yX8_walker : MethodName := ⟨RX8, "walker", "(IIIZ)I"⟩
abbrev cX8_fars : ByteArray := prog_9_method_26_code
def yX8_fars : MethodName := ⟨RX8, "fars", "(LBumpwardModel$Walker;I)[I"⟩
abbrev cX8_returnOf : ByteArray := prog_9_method_27_code
def yX8_returnOf : MethodName := ⟨RX8, "returnOf", "(LBumpwardModel$Walker;)I"⟩
abbrev cX8_costOf : ByteArray := prog_9_method_28_code
def yX8_costOf : MethodName := ⟨RX8, "costOf", "(LBumpwardModel$Walker;)I"⟩
abbrev cX8_isSafe : ByteArray := prog_9_method_29_code
def yX8_isSafe : MethodName := ⟨RX8, "isSafe", "(LBumpwardModel$Walker;)Z"⟩
abbrev cX8_isRefused : ByteArray := prog_9_method_30_code
def yX8_isRefused : MethodName := ⟨RX8, "isRefused", "(LBumpwardModel$Walker;Z)Z"⟩
abbrev cX8_act : ByteArray := prog_9_method_31_code
def yX8_act : MethodName := ⟨RX8, "act", "(LBumpwardModel$Walker;)V"⟩
abbrev cX8_take : ByteArray := prog_9_method_32_code
def yX8_take : MethodName := ⟨RX8, "take", "(LBumpwardModel$Walker;[Z)V"⟩
abbrev cX8_stepped : ByteArray := prog_9_method_33_code
def yX8_stepped : MethodName := ⟨RX8, "stepped", "(LBumpwardModel$Walker;Z)[Z"⟩
abbrev cX8_forward : ByteArray := prog_9_method_34_code
def yX8_forward : MethodName := ⟨RX8, "forward", "(IZ)Z"⟩
abbrev cX8_turn : ByteArray := prog_9_method_35_code
def yX8_turn : MethodName := ⟨RX8, "turn", "(IZZ)I"⟩
abbrev cX8_felt : ByteArray := prog_9_method_36_code
def yX8_felt : MethodName := ⟨RX8, "felt", "(II)I"⟩
abbrev cX8_feeling : ByteArray := prog_9_method_37_code
def yX8_feeling : MethodName := ⟨RX8, "feeling", "(LBumpwardModel$Walker;I)[Z"⟩
abbrev cX8_feel : ByteArray := prog_9_method_38_code
def yX8_feel : MethodName := ⟨RX8, "feel", "(IZ)I"⟩
abbrev cX8_listen : ByteArray := prog_9_method_39_code
def yX8_listen : MethodName := ⟨RX8, "listen", "(IZ)I"⟩
abbrev cX8_charge : ByteArray := prog_9_method_40_code
def yX8_charge : MethodName := ⟨RX8, "charge", "(II)I"⟩
abbrev cX8_tellPose : ByteArray := prog_9_method_41_code
def yX8_tellPose : MethodName := ⟨RX8, "tellPose", "(I)I"⟩
abbrev cX8_meet : ByteArray := prog_9_method_42_code
def yX8_meet : MethodName := ⟨RX8, "meet", "(II)I"⟩
abbrev cX8_pass : ByteArray := prog_9_method_43_code
def yX8_pass : MethodName := ⟨RX8, "pass", "(I)I"⟩
abbrev cX8_call : ByteArray := prog_9_method_44_code
def yX8_call : MethodName := ⟨RX8, "call", "()I"⟩
abbrev cX8_ofEdgeNow : ByteArray := prog_9_method_45_code
def yX8_ofEdgeNow : MethodName := ⟨RX8, "ofEdgeNow", "(III)I"⟩
abbrev cX8_ofEdge : ByteArray := prog_9_method_46_code
def yX8_ofEdge : MethodName := ⟨RX8, "ofEdge", "(III)I"⟩
abbrev cX8_ofWalkerNow : ByteArray := prog_9_method_47_code
def yX8_ofWalkerNow : MethodName := ⟨RX8, "ofWalkerNow", "(LBumpwardModel$Walker;I)I"⟩
abbrev cX8_ofWalker : ByteArray := prog_9_method_48_code
def yX8_ofWalker : MethodName := ⟨RX8, "ofWalker", "(II)I"⟩
abbrev cX8_houseNow : ByteArray := prog_9_method_49_code
def yX8_houseNow : MethodName := ⟨RX8, "houseNow", "(I)I"⟩
abbrev cX8_house : ByteArray := prog_9_method_50_code
def yX8_house : MethodName := ⟨RX8, "house", "(I)I"⟩
abbrev cX8_row : ByteArray := prog_9_method_51_code
def yX8_row : MethodName := ⟨RX8, "row", "(I)Ljava/lang/String;"⟩
abbrev cX8_map : ByteArray := prog_9_method_52_code
def yX8_map : MethodName := ⟨RX8, "map", "(III)I"⟩
abbrev cX8_may : ByteArray := prog_9_method_53_code
def yX8_may : MethodName := ⟨RX8, "may", "(II)Z"⟩
abbrev cX8_whereNow : ByteArray := prog_9_method_54_code
def yX8_whereNow : MethodName := ⟨RX8, "whereNow", "(LBumpwardModel$Walker;I)J"⟩
abbrev cX8_where : ByteArray := prog_9_method_55_code
def yX8_where : MethodName := ⟨RX8, "where", "(II)J"⟩
abbrev cX8_way_ : ByteArray := prog_9_method_56_code
def yX8_way_ : MethodName := ⟨RX8, "way", "(III)I"⟩
abbrev cX8_goalOf : ByteArray := prog_9_method_57_code
def yX8_goalOf : MethodName := ⟨RX8, "goalOf", "(LBumpwardModel$Walker;)I"⟩
abbrev cX8_safetyNow : ByteArray := prog_9_method_58_code
def yX8_safetyNow : MethodName := ⟨RX8, "safetyNow", "(LBumpwardModel$Walker;I)I"⟩
abbrev cX8_safety : ByteArray := prog_9_method_59_code
def yX8_safety : MethodName := ⟨RX8, "safety", "(II)I"⟩
abbrev cX8_doubtNow : ByteArray := prog_9_method_60_code
def yX8_doubtNow : MethodName := ⟨RX8, "doubtNow", "(LBumpwardModel$Walker;)D"⟩
abbrev cX8_doubt : ByteArray := prog_9_method_61_code
def yX8_doubt : MethodName := ⟨RX8, "doubt", "(I)D"⟩
abbrev cX8_worstNow : ByteArray := prog_9_method_62_code
def yX8_worstNow : MethodName := ⟨RX8, "worstNow", "(LBumpwardModel$Walker;I)I"⟩
abbrev cX8_worst : ByteArray := prog_9_method_63_code
def yX8_worst : MethodName := ⟨RX8, "worst", "(II)I"⟩
abbrev cX8_bestNow : ByteArray := prog_9_method_64_code
def yX8_bestNow : MethodName := ⟨RX8, "bestNow", "(LBumpwardModel$Walker;)I"⟩
abbrev cX8_best : ByteArray := prog_9_method_65_code
def yX8_best : MethodName := ⟨RX8, "best", "(I)I"⟩
abbrev cX8_wouldFeel : ByteArray := prog_9_method_66_code
def yX8_wouldFeel : MethodName := ⟨RX8, "wouldFeel", "(II)I"⟩
abbrev cX8_wouldBe : ByteArray := prog_9_method_67_code
def yX8_wouldBe : MethodName := ⟨RX8, "wouldBe", "(II)I"⟩
abbrev cX8_isSoundNow : ByteArray := prog_9_method_68_code
def yX8_isSoundNow : MethodName := ⟨RX8, "isSoundNow", "()Z"⟩
abbrev cX8_isSound : ByteArray := prog_9_method_69_code
def yX8_isSound : MethodName := ⟨RX8, "isSound", "()Z"⟩
abbrev cX8_digest : ByteArray := prog_9_method_70_code
def yX8_digest : MethodName := ⟨RX8, "digest", "()J"⟩
def RJx145de : String := "java/io/Serializable"
def TJx145de : u_T := fun k => match k with
  | _ => ("", "", "", false)
def tyJx145de : Nat → FieldType := fun k => match k with
  | _ => .int
abbrev wsJx145de0 : List Cond := u_ws RJx145de TJx145de 0
theorem nmJx145de : ∀ a, a < 0 → ∀ b, b < 0 → a ≠ b → (TJx145de a).2.1 ≠ (TJx145de b).2.1 := by decide +kernel
theorem tyJx145de_ok : ∀ k, k < 0 → parseFieldDescriptor (TJx145de k).2.2.1 = some (tyJx145de k) := by decide +kernel
def RJ5 : String := "java/lang/AbstractStringBuilder"
def TJ5 : u_T := fun k => match k with
  | _ => ("", "", "", false)
def tyJ5 : Nat → FieldType := fun k => match k with
  | _ => .int
abbrev wsJ50 : List Cond := u_ws RJ5 TJ5 0
theorem nmJ5 : ∀ a, a < 0 → ∀ b, b < 0 → a ≠ b → (TJ5 a).2.1 ≠ (TJ5 b).2.1 := by decide +kernel
theorem tyJ5_ok : ∀ k, k < 0 → parseFieldDescriptor (TJ5 k).2.2.1 = some (tyJ5 k) := by decide +kernel
abbrev cJ5_init_d00df : ByteArray := prog_12_method_2_code
def yJ5_init_d00df : MethodName := ⟨RJ5, "<init>", "(I)V"⟩
abbrev cJ5_length_8abf5 : ByteArray := prog_12_method_6_code
def yJ5_length_8abf5 : MethodName := ⟨RJ5, "length", "()I"⟩
abbrev cJ5_ensureCapacityInternal_d00df : ByteArray := prog_12_method_9_code
def yJ5_ensureCapacityInternal_d00df : MethodName := ⟨RJ5, "ensureCapacityInternal", "(I)V"⟩
abbrev cJ5_newCapacity_0f7a4 : ByteArray := prog_12_method_10_code
def yJ5_newCapacity_0f7a4 : MethodName := ⟨RJ5, "newCapacity", "(I)I"⟩
abbrev cJ5_inflate_da8c8 : ByteArray := prog_12_method_11_code
def yJ5_inflate_da8c8 : MethodName := ⟨RJ5, "inflate", "()V"⟩
abbrev cJ5_append_cf1ce : ByteArray := prog_12_method_22_code
def yJ5_append_cf1ce : MethodName := ⟨RJ5, "append", "(Ljava/lang/String;)Ljava/lang/AbstractStringBuilder;"⟩
abbrev cJ5_appendNull_278bc : ByteArray := prog_12_method_26_code
def yJ5_appendNull_278bc : MethodName := ⟨RJ5, "appendNull", "()Ljava/lang/AbstractStringBuilder;"⟩
abbrev cJ5_append_3fe6f : ByteArray := prog_12_method_31_code
def yJ5_append_3fe6f : MethodName := ⟨RJ5, "append", "(C)Ljava/lang/AbstractStringBuilder;"⟩
abbrev cJ5_append_c97b9 : ByteArray := prog_12_method_32_code
def yJ5_append_c97b9 : MethodName := ⟨RJ5, "append", "(I)Ljava/lang/AbstractStringBuilder;"⟩
abbrev cJ5_getValue_6d5f1 : ByteArray := prog_12_method_64_code
def yJ5_getValue_6d5f1 : MethodName := ⟨RJ5, "getValue", "()[B"⟩
abbrev cJ5_isLatin1_aae02 : ByteArray := prog_12_method_68_code
def yJ5_isLatin1_aae02 : MethodName := ⟨RJ5, "isLatin1", "()Z"⟩
abbrev cJ5_inflateIfNeededFor_a7421 : ByteArray := prog_12_method_71_code
def yJ5_inflateIfNeededFor_a7421 : MethodName := ⟨RJ5, "inflateIfNeededFor", "(Ljava/lang/String;)V"⟩
abbrev cJ5_putStringAt_47b60 : ByteArray := prog_12_method_73_code
def yJ5_putStringAt_47b60 : MethodName := ⟨RJ5, "putStringAt", "(ILjava/lang/String;)V"⟩
def RJx2cfe8 : String := "java/lang/Appendable"
def TJx2cfe8 : u_T := fun k => match k with
  | _ => ("", "", "", false)
def tyJx2cfe8 : Nat → FieldType := fun k => match k with
  | _ => .int
abbrev wsJx2cfe80 : List Cond := u_ws RJx2cfe8 TJx2cfe8 0
theorem nmJx2cfe8 : ∀ a, a < 0 → ∀ b, b < 0 → a ≠ b → (TJx2cfe8 a).2.1 ≠ (TJx2cfe8 b).2.1 := by decide +kernel
theorem tyJx2cfe8_ok : ∀ k, k < 0 → parseFieldDescriptor (TJx2cfe8 k).2.2.1 = some (tyJx2cfe8 k) := by decide +kernel
def RJx9f9b0 : String := "java/lang/CharSequence"
def TJx9f9b0 : u_T := fun k => match k with
  | _ => ("", "", "", false)
def tyJx9f9b0 : Nat → FieldType := fun k => match k with
  | _ => .int
abbrev wsJx9f9b00 : List Cond := u_ws RJx9f9b0 TJx9f9b0 0
theorem nmJx9f9b0 : ∀ a, a < 0 → ∀ b, b < 0 → a ≠ b → (TJx9f9b0 a).2.1 ≠ (TJx9f9b0 b).2.1 := by decide +kernel
theorem tyJx9f9b0_ok : ∀ k, k < 0 → parseFieldDescriptor (TJx9f9b0 k).2.2.1 = some (tyJx9f9b0 k) := by decide +kernel
def RJx8e188 : String := "java/lang/Cloneable"
def TJx8e188 : u_T := fun k => match k with
  | _ => ("", "", "", false)
def tyJx8e188 : Nat → FieldType := fun k => match k with
  | _ => .int
abbrev wsJx8e1880 : List Cond := u_ws RJx8e188 TJx8e188 0
theorem nmJx8e188 : ∀ a, a < 0 → ∀ b, b < 0 → a ≠ b → (TJx8e188 a).2.1 ≠ (TJx8e188 b).2.1 := by decide +kernel
theorem tyJx8e188_ok : ∀ k, k < 0 → parseFieldDescriptor (TJx8e188 k).2.2.1 = some (tyJx8e188 k) := by decide +kernel
def RJxb160c : String := "java/lang/Comparable"
def TJxb160c : u_T := fun k => match k with
  | _ => ("", "", "", false)
def tyJxb160c : Nat → FieldType := fun k => match k with
  | _ => .int
abbrev wsJxb160c0 : List Cond := u_ws RJxb160c TJxb160c 0
theorem nmJxb160c : ∀ a, a < 0 → ∀ b, b < 0 → a ≠ b → (TJxb160c a).2.1 ≠ (TJxb160c b).2.1 := by decide +kernel
theorem tyJxb160c_ok : ∀ k, k < 0 → parseFieldDescriptor (TJxb160c k).2.2.1 = some (tyJxb160c k) := by decide +kernel
def RJ6 : String := "java/lang/Integer"
def TJ6 : u_T := fun k => match k with
  | _ => ("", "", "", false)
def tyJ6 : Nat → FieldType := fun k => match k with
  | _ => .int
abbrev wsJ60 : List Cond := u_ws RJ6 TJ6 0
theorem nmJ6 : ∀ a, a < 0 → ∀ b, b < 0 → a ≠ b → (TJ6 a).2.1 ≠ (TJ6 b).2.1 := by decide +kernel
theorem tyJ6_ok : ∀ k, k < 0 → parseFieldDescriptor (TJ6 k).2.2.1 = some (tyJ6 k) := by decide +kernel
abbrev cJ6_toString_b52d3 : ByteArray := prog_21_method_10_code
def yJ6_toString_b52d3 : MethodName := ⟨RJ6, "toString", "(I)Ljava/lang/String;"⟩
abbrev cJ6_getChars_ba4f3 : ByteArray := prog_21_method_12_code
def yJ6_getChars_ba4f3 : MethodName := ⟨RJ6, "getChars", "(II[B)I"⟩
abbrev cJ6_stringSize_0f7a4 : ByteArray := prog_21_method_13_code
def yJ6_stringSize_0f7a4 : MethodName := ⟨RJ6, "stringSize", "(I)I"⟩
def RJxab1ab : String := "java/lang/Iterable"
def TJxab1ab : u_T := fun k => match k with
  | _ => ("", "", "", false)
def tyJxab1ab : Nat → FieldType := fun k => match k with
  | _ => .int
abbrev wsJxab1ab0 : List Cond := u_ws RJxab1ab TJxab1ab 0
theorem nmJxab1ab : ∀ a, a < 0 → ∀ b, b < 0 → a ≠ b → (TJxab1ab a).2.1 ≠ (TJxab1ab b).2.1 := by decide +kernel
theorem tyJxab1ab_ok : ∀ k, k < 0 → parseFieldDescriptor (TJxab1ab k).2.2.1 = some (tyJxab1ab k) := by decide +kernel
def RJ13 : String := "java/lang/Long"
def TJ13 : u_T := fun k => match k with
  | _ => ("", "", "", false)
def tyJ13 : Nat → FieldType := fun k => match k with
  | _ => .int
abbrev wsJ130 : List Cond := u_ws RJ13 TJ13 0
theorem nmJ13 : ∀ a, a < 0 → ∀ b, b < 0 → a ≠ b → (TJ13 a).2.1 ≠ (TJ13 b).2.1 := by decide +kernel
theorem tyJ13_ok : ∀ k, k < 0 → parseFieldDescriptor (TJ13 k).2.2.1 = some (tyJ13 k) := by decide +kernel
abbrev cJ13_bitCount_95d88 : ByteArray := prog_23_method_50_code
def yJ13_bitCount_95d88 : MethodName := ⟨RJ13, "bitCount", "(J)I"⟩
def RJ9 : String := "java/lang/Math"
def TJ9 : u_T := fun k => match k with
  | _ => ("", "", "", false)
def tyJ9 : Nat → FieldType := fun k => match k with
  | _ => .int
abbrev wsJ90 : List Cond := u_ws RJ9 TJ9 0
theorem nmJ9 : ∀ a, a < 0 → ∀ b, b < 0 → a ≠ b → (TJ9 a).2.1 ≠ (TJ9 b).2.1 := by decide +kernel
theorem tyJ9_ok : ∀ k, k < 0 → parseFieldDescriptor (TJ9 k).2.2.1 = some (tyJ9 k) := by decide +kernel
abbrev cJ9_abs_0f7a4 : ByteArray := prog_24_method_59_code
def yJ9_abs_0f7a4 : MethodName := ⟨RJ9, "abs", "(I)I"⟩
abbrev cJ9_max_7cf53 : ByteArray := prog_24_method_65_code
def yJ9_max_7cf53 : MethodName := ⟨RJ9, "max", "(II)I"⟩
abbrev cJ9_min_7cf53 : ByteArray := prog_24_method_69_code
def yJ9_min_7cf53 : MethodName := ⟨RJ9, "min", "(II)I"⟩
def RJxd2413 : String := "java/lang/Number"
def TJxd2413 : u_T := fun k => match k with
  | _ => ("", "", "", false)
def tyJxd2413 : Nat → FieldType := fun k => match k with
  | _ => .int
abbrev wsJxd24130 : List Cond := u_ws RJxd2413 TJxd2413 0
theorem nmJxd2413 : ∀ a, a < 0 → ∀ b, b < 0 → a ≠ b → (TJxd2413 a).2.1 ≠ (TJxd2413 b).2.1 := by decide +kernel
theorem tyJxd2413_ok : ∀ k, k < 0 → parseFieldDescriptor (TJxd2413 k).2.2.1 = some (tyJxd2413 k) := by decide +kernel
def RJ0 : String := "java/lang/String"
def TJ0 : u_T := fun k => match k with
  | 0 => ("java/lang/String", "value", "[B", true)
  | 1 => ("java/lang/String", "coder", "B", true)
  | 2 => ("java/lang/String", "hash", "I", false)
  | _ => ("java/lang/String", "hashIsZero", "Z", false)
def tyJ0 : Nat → FieldType := fun k => match k with
  | 0 => .array .byte
  | 1 => .byte
  | 2 => .int
  | _ => .boolean
abbrev wsJ00 : List Cond := u_ws RJ0 TJ0 4
theorem nmJ0 : ∀ a, a < 4 → ∀ b, b < 4 → a ≠ b → (TJ0 a).2.1 ≠ (TJ0 b).2.1 := by decide +kernel
theorem tyJ0_ok : ∀ k, k < 4 → parseFieldDescriptor (TJ0 k).2.2.1 = some (tyJ0 k) := by decide +kernel
abbrev cJ0_init_81219 : ByteArray := prog_27_method_53_code
def yJ0_init_81219 : MethodName := ⟨RJ0, "<init>", "(Ljava/lang/StringBuilder;)V"⟩
abbrev cJ0_length_8abf5 : ByteArray := prog_27_method_54_code
def yJ0_length_8abf5 : MethodName := ⟨RJ0, "length", "()I"⟩
abbrev cJ0_charAt_5068e : ByteArray := prog_27_method_56_code
def yJ0_charAt_5068e : MethodName := ⟨RJ0, "charAt", "(I)C"⟩
abbrev cJ0_equals_9ea2d : ByteArray := prog_27_method_66_code
def yJ0_equals_9ea2d : MethodName := ⟨RJ0, "equals", "(Ljava/lang/Object;)Z"⟩
abbrev cJ0_valueOf_b52d3 : ByteArray := prog_27_method_140_code
def yJ0_valueOf_b52d3 : MethodName := ⟨RJ0, "valueOf", "(I)Ljava/lang/String;"⟩
abbrev cJ0_getBytes_840e7 : ByteArray := prog_27_method_147_code
def yJ0_getBytes_840e7 : MethodName := ⟨RJ0, "getBytes", "([BIB)V"⟩
abbrev cJ0_init_db425 : ByteArray := prog_27_method_150_code
def yJ0_init_db425 : MethodName := ⟨RJ0, "<init>", "(Ljava/lang/AbstractStringBuilder;Ljava/lang/Void;)V"⟩
abbrev cJ0_init_031fb : ByteArray := prog_27_method_151_code
def yJ0_init_031fb : MethodName := ⟨RJ0, "<init>", "([BB)V"⟩
abbrev cJ0_coder_7d493 : ByteArray := prog_27_method_152_code
def yJ0_coder_7d493 : MethodName := ⟨RJ0, "coder", "()B"⟩
abbrev cJ0_isLatin1_aae02 : ByteArray := prog_27_method_154_code
def yJ0_isLatin1_aae02 : MethodName := ⟨RJ0, "isLatin1", "()Z"⟩
abbrev cJ0_checkIndex_df160 : ByteArray := prog_27_method_155_code
def yJ0_checkIndex_df160 : MethodName := ⟨RJ0, "checkIndex", "(II)V"⟩
abbrev cJ0_checkBoundsOffCount_cabcc : ByteArray := prog_27_method_157_code
def yJ0_checkBoundsOffCount_cabcc : MethodName := ⟨RJ0, "checkBoundsOffCount", "(III)I"⟩
abbrev cJ0_checkBoundsBeginEnd_23922 : ByteArray := prog_27_method_158_code
def yJ0_checkBoundsBeginEnd_23922 : MethodName := ⟨RJ0, "checkBoundsBeginEnd", "(III)V"⟩
def RJ4 : String := "java/lang/StringBuilder"
def TJ4 : u_T := fun k => match k with
  | 0 => ("java/lang/AbstractStringBuilder", "value", "[B", false)
  | 1 => ("java/lang/AbstractStringBuilder", "coder", "B", false)
  | 2 => ("java/lang/AbstractStringBuilder", "maybeLatin1", "Z", false)
  | _ => ("java/lang/AbstractStringBuilder", "count", "I", false)
def tyJ4 : Nat → FieldType := fun k => match k with
  | 0 => .array .byte
  | 1 => .byte
  | 2 => .boolean
  | _ => .int
abbrev wsJ40 : List Cond := u_ws RJ4 TJ4 4
theorem nmJ4 : ∀ a, a < 4 → ∀ b, b < 4 → a ≠ b → (TJ4 a).2.1 ≠ (TJ4 b).2.1 := by decide +kernel
theorem tyJ4_ok : ∀ k, k < 4 → parseFieldDescriptor (TJ4 k).2.2.1 = some (tyJ4 k) := by decide +kernel
abbrev cJ4_init_da8c8 : ByteArray := prog_28_method_1_code
def yJ4_init_da8c8 : MethodName := ⟨RJ4, "<init>", "()V"⟩
abbrev cJ4_append_15ec4 : ByteArray := prog_28_method_7_code
def yJ4_append_15ec4 : MethodName := ⟨RJ4, "append", "(Ljava/lang/String;)Ljava/lang/StringBuilder;"⟩
abbrev cJ4_append_cf468 : ByteArray := prog_28_method_14_code
def yJ4_append_cf468 : MethodName := ⟨RJ4, "append", "(C)Ljava/lang/StringBuilder;"⟩
abbrev cJ4_append_bf812 : ByteArray := prog_28_method_15_code
def yJ4_append_bf812 : MethodName := ⟨RJ4, "append", "(I)Ljava/lang/StringBuilder;"⟩
abbrev cJ4_toString_0e30d : ByteArray := prog_28_method_42_code
def yJ4_toString_0e30d : MethodName := ⟨RJ4, "toString", "()Ljava/lang/String;"⟩
abbrev cJ4_length_8abf5 : ByteArray := prog_28_method_93_code
def yJ4_length_8abf5 : MethodName := ⟨RJ4, "length", "()I"⟩
def RJ1 : String := "java/lang/StringLatin1"
def TJ1 : u_T := fun k => match k with
  | _ => ("", "", "", false)
def tyJ1 : Nat → FieldType := fun k => match k with
  | _ => .int
abbrev wsJ10 : List Cond := u_ws RJ1 TJ1 0
theorem nmJ1 : ∀ a, a < 0 → ∀ b, b < 0 → a ≠ b → (TJ1 a).2.1 ≠ (TJ1 b).2.1 := by decide +kernel
theorem tyJ1_ok : ∀ k, k < 0 → parseFieldDescriptor (TJ1 k).2.2.1 = some (tyJ1 k) := by decide +kernel
abbrev cJ1_charAt_3b067 : ByteArray := prog_29_method_2_code
def yJ1_charAt_3b067 : MethodName := ⟨RJ1, "charAt", "([BI)C"⟩
abbrev cJ1_canEncode_fc78d : ByteArray := prog_29_method_3_code
def yJ1_canEncode_fc78d : MethodName := ⟨RJ1, "canEncode", "(C)Z"⟩
abbrev cJ1_equals_b5fdf : ByteArray := prog_29_method_13_code
def yJ1_equals_b5fdf : MethodName := ⟨RJ1, "equals", "([B[B)Z"⟩
abbrev cJ1_inflate_0e8fd : ByteArray := prog_29_method_50_code
def yJ1_inflate_0e8fd : MethodName := ⟨RJ1, "inflate", "([BI[BII)V"⟩
def RJ2 : String := "java/lang/StringUTF16"
def TJ2 : u_T := fun k => match k with
  | _ => ("", "", "", false)
def tyJ2 : Nat → FieldType := fun k => match k with
  | _ => .int
abbrev wsJ20 : List Cond := u_ws RJ2 TJ2 0
theorem nmJ2 : ∀ a, a < 0 → ∀ b, b < 0 → a ≠ b → (TJ2 a).2.1 ≠ (TJ2 b).2.1 := by decide +kernel
theorem tyJ2_ok : ∀ k, k < 0 → parseFieldDescriptor (TJ2 k).2.2.1 = some (tyJ2 k) := by decide +kernel
abbrev cJ2_newBytesFor_77867 : ByteArray := prog_30_method_2_code
def yJ2_newBytesFor_77867 : MethodName := ⟨RJ2, "newBytesFor", "(I)[B"⟩
abbrev cJ2_newBytesLength_0f7a4 : ByteArray := prog_30_method_3_code
def yJ2_newBytesLength_0f7a4 : MethodName := ⟨RJ2, "newBytesLength", "(I)I"⟩
abbrev cJ2_putChar_b72d1 : ByteArray := prog_30_method_4_code
def yJ2_putChar_b72d1 : MethodName := ⟨RJ2, "putChar", "([BII)V"⟩
abbrev cJ2_getChar_3b067 : ByteArray := prog_30_method_5_code
def yJ2_getChar_3b067 : MethodName := ⟨RJ2, "getChar", "([BI)C"⟩
abbrev cJ2_length_9d52b : ByteArray := prog_30_method_6_code
def yJ2_length_9d52b : MethodName := ⟨RJ2, "length", "([B)I"⟩
abbrev cJ2_coderFromArrayLen_85cad : ByteArray := prog_30_method_15_code
def yJ2_coderFromArrayLen_85cad : MethodName := ⟨RJ2, "coderFromArrayLen", "([BI)B"⟩
abbrev cJ2_compress_39247 : ByteArray := prog_30_method_17_code
def yJ2_compress_39247 : MethodName := ⟨RJ2, "compress", "([BII)[B"⟩
abbrev cJ2_compress_5af95 : ByteArray := prog_30_method_22_code
def yJ2_compress_5af95 : MethodName := ⟨RJ2, "compress", "([BI[BII)I"⟩
abbrev cJ2_putCharSB_b72d1 : ByteArray := prog_30_method_71_code
def yJ2_putCharSB_b72d1 : MethodName := ⟨RJ2, "putCharSB", "([BII)V"⟩
abbrev cJ2_getChars_46870 : ByteArray := prog_30_method_77_code
def yJ2_getChars_46870 : MethodName := ⟨RJ2, "getChars", "(III[B)I"⟩
abbrev cJ2_putCharsAt_cd4e5 : ByteArray := prog_30_method_81_code
def yJ2_putCharsAt_cd4e5 : MethodName := ⟨RJ2, "putCharsAt", "([BICCCC)I"⟩
abbrev cJ2_charAt_3b067 : ByteArray := prog_30_method_83_code
def yJ2_charAt_3b067 : MethodName := ⟨RJ2, "charAt", "([BI)C"⟩
abbrev cJ2_inflate_0e8fd : ByteArray := prog_30_method_86_code
def yJ2_inflate_0e8fd : MethodName := ⟨RJ2, "inflate", "([BI[BII)V"⟩
abbrev cJ2_getChars_ba4f3 : ByteArray := prog_30_method_89_code
def yJ2_getChars_ba4f3 : MethodName := ⟨RJ2, "getChars", "(II[B)I"⟩
abbrev cJ2_checkIndex_2214a : ByteArray := prog_30_method_91_code
def yJ2_checkIndex_2214a : MethodName := ⟨RJ2, "checkIndex", "(I[B)V"⟩
abbrev cJ2_checkBoundsBeginEnd_d044e : ByteArray := prog_30_method_93_code
def yJ2_checkBoundsBeginEnd_d044e : MethodName := ⟨RJ2, "checkBoundsBeginEnd", "(II[B)V"⟩
abbrev cJ2_checkBoundsOffCount_d044e : ByteArray := prog_30_method_94_code
def yJ2_checkBoundsOffCount_d044e : MethodName := ⟨RJ2, "checkBoundsOffCount", "(II[B)V"⟩
def RJ10 : String := "java/lang/System"
def TJ10 : u_T := fun k => match k with
  | _ => ("", "", "", false)
def tyJ10 : Nat → FieldType := fun k => match k with
  | _ => .int
abbrev wsJ100 : List Cond := u_ws RJ10 TJ10 0
theorem nmJ10 : ∀ a, a < 0 → ∀ b, b < 0 → a ≠ b → (TJ10 a).2.1 ≠ (TJ10 b).2.1 := by decide +kernel
theorem tyJ10_ok : ∀ k, k < 0 → parseFieldDescriptor (TJ10 k).2.2.1 = some (tyJ10 k) := by decide +kernel
def RJxfd54e : String := "java/lang/constant/Constable"
def TJxfd54e : u_T := fun k => match k with
  | _ => ("", "", "", false)
def tyJxfd54e : Nat → FieldType := fun k => match k with
  | _ => .int
abbrev wsJxfd54e0 : List Cond := u_ws RJxfd54e TJxfd54e 0
theorem nmJxfd54e : ∀ a, a < 0 → ∀ b, b < 0 → a ≠ b → (TJxfd54e a).2.1 ≠ (TJxfd54e b).2.1 := by decide +kernel
theorem tyJxfd54e_ok : ∀ k, k < 0 → parseFieldDescriptor (TJxfd54e k).2.2.1 = some (tyJxfd54e k) := by decide +kernel
def RJx3cf43 : String := "java/lang/constant/ConstantDesc"
def TJx3cf43 : u_T := fun k => match k with
  | _ => ("", "", "", false)
def tyJx3cf43 : Nat → FieldType := fun k => match k with
  | _ => .int
abbrev wsJx3cf430 : List Cond := u_ws RJx3cf43 TJx3cf43 0
theorem nmJx3cf43 : ∀ a, a < 0 → ∀ b, b < 0 → a ≠ b → (TJx3cf43 a).2.1 ≠ (TJx3cf43 b).2.1 := by decide +kernel
theorem tyJx3cf43_ok : ∀ k, k < 0 → parseFieldDescriptor (TJx3cf43 k).2.2.1 = some (tyJx3cf43 k) := by decide +kernel
def RJxa1e45 : String := "java/util/AbstractCollection"
def TJxa1e45 : u_T := fun k => match k with
  | _ => ("", "", "", false)
def tyJxa1e45 : Nat → FieldType := fun k => match k with
  | _ => .int
abbrev wsJxa1e450 : List Cond := u_ws RJxa1e45 TJxa1e45 0
theorem nmJxa1e45 : ∀ a, a < 0 → ∀ b, b < 0 → a ≠ b → (TJxa1e45 a).2.1 ≠ (TJxa1e45 b).2.1 := by decide +kernel
theorem tyJxa1e45_ok : ∀ k, k < 0 → parseFieldDescriptor (TJxa1e45 k).2.2.1 = some (tyJxa1e45 k) := by decide +kernel
abbrev cJxa1e45_init_da8c8 : ByteArray := prog_35_method_1_code
def yJxa1e45_init_da8c8 : MethodName := ⟨RJxa1e45, "<init>", "()V"⟩
def RJxc12de : String := "java/util/AbstractList"
def TJxc12de : u_T := fun k => match k with
  | _ => ("", "", "", false)
def tyJxc12de : Nat → FieldType := fun k => match k with
  | _ => .int
abbrev wsJxc12de0 : List Cond := u_ws RJxc12de TJxc12de 0
theorem nmJxc12de : ∀ a, a < 0 → ∀ b, b < 0 → a ≠ b → (TJxc12de a).2.1 ≠ (TJxc12de b).2.1 := by decide +kernel
theorem tyJxc12de_ok : ∀ k, k < 0 → parseFieldDescriptor (TJxc12de k).2.2.1 = some (tyJxc12de k) := by decide +kernel
abbrev cJxc12de_init_da8c8 : ByteArray := prog_36_method_1_code
def yJxc12de_init_da8c8 : MethodName := ⟨RJxc12de, "<init>", "()V"⟩
def RJx35411 : String := "java/util/ArrayList$Itr"
def TJx35411 : u_T := fun k => match k with
  | 0 => ("java/util/ArrayList$Itr", "cursor", "I", false)
  | 1 => ("java/util/ArrayList$Itr", "lastRet", "I", false)
  | 2 => ("java/util/ArrayList$Itr", "expectedModCount", "I", false)
  | _ => ("java/util/ArrayList$Itr", "this$0", "Ljava/util/ArrayList;", true)
def tyJx35411 : Nat → FieldType := fun k => match k with
  | 0 => .int
  | 1 => .int
  | 2 => .int
  | _ => .object "java/util/ArrayList"
abbrev wsJx354110 : List Cond := u_ws RJx35411 TJx35411 4
theorem nmJx35411 : ∀ a, a < 4 → ∀ b, b < 4 → a ≠ b → (TJx35411 a).2.1 ≠ (TJx35411 b).2.1 := by decide +kernel
theorem tyJx35411_ok : ∀ k, k < 4 → parseFieldDescriptor (TJx35411 k).2.2.1 = some (tyJx35411 k) := by decide +kernel
abbrev cJx35411_init_45d68 : ByteArray := prog_38_method_1_code
def yJx35411_init_45d68 : MethodName := ⟨RJx35411, "<init>", "(Ljava/util/ArrayList;)V"⟩
abbrev cJx35411_hasNext_aae02 : ByteArray := prog_38_method_2_code
def yJx35411_hasNext_aae02 : MethodName := ⟨RJx35411, "hasNext", "()Z"⟩
abbrev cJx35411_next_0502b : ByteArray := prog_38_method_3_code
def yJx35411_next_0502b : MethodName := ⟨RJx35411, "next", "()Ljava/lang/Object;"⟩
abbrev cJx35411_checkForComodification_da8c8 : ByteArray := prog_38_method_6_code
def yJx35411_checkForComodification_da8c8 : MethodName := ⟨RJx35411, "checkForComodification", "()V"⟩
def RJx4a65c : String := "java/util/ArrayList"
def TJx4a65c : u_T := fun k => match k with
  | 0 => ("java/util/AbstractList", "modCount", "I", false)
  | 1 => ("java/util/ArrayList", "elementData", "[Ljava/lang/Object;", false)
  | _ => ("java/util/ArrayList", "size", "I", false)
def tyJx4a65c : Nat → FieldType := fun k => match k with
  | 0 => .int
  | 1 => .array (.object "java/lang/Object")
  | _ => .int
abbrev wsJx4a65c0 : List Cond := u_ws RJx4a65c TJx4a65c 3
theorem nmJx4a65c : ∀ a, a < 3 → ∀ b, b < 3 → a ≠ b → (TJx4a65c a).2.1 ≠ (TJx4a65c b).2.1 := by decide +kernel
theorem tyJx4a65c_ok : ∀ k, k < 3 → parseFieldDescriptor (TJx4a65c k).2.2.1 = some (tyJx4a65c k) := by decide +kernel
abbrev cJx4a65c_init_da8c8 : ByteArray := prog_37_method_2_code
def yJx4a65c_init_da8c8 : MethodName := ⟨RJx4a65c, "<init>", "()V"⟩
abbrev cJx4a65c_grow_92f84 : ByteArray := prog_37_method_6_code
def yJx4a65c_grow_92f84 : MethodName := ⟨RJx4a65c, "grow", "(I)[Ljava/lang/Object;"⟩
abbrev cJx4a65c_grow_d5877 : ByteArray := prog_37_method_7_code
def yJx4a65c_grow_d5877 : MethodName := ⟨RJx4a65c, "grow", "()[Ljava/lang/Object;"⟩
abbrev cJx4a65c_size_8abf5 : ByteArray := prog_37_method_8_code
def yJx4a65c_size_8abf5 : MethodName := ⟨RJx4a65c, "size", "()I"⟩
abbrev cJx4a65c_elementData_915e3 : ByteArray := prog_37_method_18_code
def yJx4a65c_elementData_915e3 : MethodName := ⟨RJx4a65c, "elementData", "(I)Ljava/lang/Object;"⟩
abbrev cJx4a65c_get_915e3 : ByteArray := prog_37_method_20_code
def yJx4a65c_get_915e3 : MethodName := ⟨RJx4a65c, "get", "(I)Ljava/lang/Object;"⟩
abbrev cJx4a65c_add_72be8 : ByteArray := prog_37_method_24_code
def yJx4a65c_add_72be8 : MethodName := ⟨RJx4a65c, "add", "(Ljava/lang/Object;[Ljava/lang/Object;I)V"⟩
abbrev cJx4a65c_add_9ea2d : ByteArray := prog_37_method_25_code
def yJx4a65c_add_9ea2d : MethodName := ⟨RJx4a65c, "add", "(Ljava/lang/Object;)Z"⟩
abbrev cJx4a65c_iterator_32c93 : ByteArray := prog_37_method_55_code
def yJx4a65c_iterator_32c93 : MethodName := ⟨RJx4a65c, "iterator", "()Ljava/util/Iterator;"⟩
def RJ7 : String := "java/util/Arrays"
def TJ7 : u_T := fun k => match k with
  | _ => ("", "", "", false)
def tyJ7 : Nat → FieldType := fun k => match k with
  | _ => .int
abbrev wsJ70 : List Cond := u_ws RJ7 TJ7 0
theorem nmJ7 : ∀ a, a < 0 → ∀ b, b < 0 → a ≠ b → (TJ7 a).2.1 ≠ (TJ7 b).2.1 := by decide +kernel
theorem tyJ7_ok : ∀ k, k < 0 → parseFieldDescriptor (TJ7 k).2.2.1 = some (tyJ7 k) := by decide +kernel
abbrev cJ7_copyOf_1904c : ByteArray := prog_39_method_119_code
def yJ7_copyOf_1904c : MethodName := ⟨RJ7, "copyOf", "([Ljava/lang/Object;I)[Ljava/lang/Object;"⟩
abbrev cJ7_copyOf_6403c : ByteArray := prog_39_method_120_code
def yJ7_copyOf_6403c : MethodName := ⟨RJ7, "copyOf", "([Ljava/lang/Object;ILjava/lang/Class;)[Ljava/lang/Object;"⟩
abbrev cJ7_copyOf_9075b : ByteArray := prog_39_method_121_code
def yJ7_copyOf_9075b : MethodName := ⟨RJ7, "copyOf", "([BI)[B"⟩
abbrev cJ7_checkLength_df160 : ByteArray := prog_39_method_131_code
def yJ7_checkLength_df160 : MethodName := ⟨RJ7, "checkLength", "(II)V"⟩
abbrev cJ7_copyOfRange_39247 : ByteArray := prog_39_method_132_code
def yJ7_copyOfRange_39247 : MethodName := ⟨RJ7, "copyOfRange", "([BII)[B"⟩
abbrev cJ7_copyOfRangeByte_39247 : ByteArray := prog_39_method_133_code
def yJ7_copyOfRangeByte_39247 : MethodName := ⟨RJ7, "copyOfRangeByte", "([BII)[B"⟩
def RJx5ef63 : String := "java/util/Collection"
def TJx5ef63 : u_T := fun k => match k with
  | _ => ("", "", "", false)
def tyJx5ef63 : Nat → FieldType := fun k => match k with
  | _ => .int
abbrev wsJx5ef630 : List Cond := u_ws RJx5ef63 TJx5ef63 0
theorem nmJx5ef63 : ∀ a, a < 0 → ∀ b, b < 0 → a ≠ b → (TJx5ef63 a).2.1 ≠ (TJx5ef63 b).2.1 := by decide +kernel
theorem tyJx5ef63_ok : ∀ k, k < 0 → parseFieldDescriptor (TJx5ef63 k).2.2.1 = some (tyJx5ef63 k) := by decide +kernel
def RJx4d0d8 : String := "java/util/Iterator"
def TJx4d0d8 : u_T := fun k => match k with
  | _ => ("", "", "", false)
def tyJx4d0d8 : Nat → FieldType := fun k => match k with
  | _ => .int
abbrev wsJx4d0d80 : List Cond := u_ws RJx4d0d8 TJx4d0d8 0
theorem nmJx4d0d8 : ∀ a, a < 0 → ∀ b, b < 0 → a ≠ b → (TJx4d0d8 a).2.1 ≠ (TJx4d0d8 b).2.1 := by decide +kernel
theorem tyJx4d0d8_ok : ∀ k, k < 0 → parseFieldDescriptor (TJx4d0d8 k).2.2.1 = some (tyJx4d0d8 k) := by decide +kernel
def RJxbd725 : String := "java/util/List"
def TJxbd725 : u_T := fun k => match k with
  | _ => ("", "", "", false)
def tyJxbd725 : Nat → FieldType := fun k => match k with
  | _ => .int
abbrev wsJxbd7250 : List Cond := u_ws RJxbd725 TJxbd725 0
theorem nmJxbd725 : ∀ a, a < 0 → ∀ b, b < 0 → a ≠ b → (TJxbd725 a).2.1 ≠ (TJxbd725 b).2.1 := by decide +kernel
theorem tyJxbd725_ok : ∀ k, k < 0 → parseFieldDescriptor (TJxbd725 k).2.2.1 = some (tyJxbd725 k) := by decide +kernel
def RJ15 : String := "java/util/Objects"
def TJ15 : u_T := fun k => match k with
  | _ => ("", "", "", false)
def tyJ15 : Nat → FieldType := fun k => match k with
  | _ => .int
abbrev wsJ150 : List Cond := u_ws RJ15 TJ15 0
theorem nmJ15 : ∀ a, a < 0 → ∀ b, b < 0 → a ≠ b → (TJ15 a).2.1 ≠ (TJ15 b).2.1 := by decide +kernel
theorem tyJ15_ok : ∀ k, k < 0 → parseFieldDescriptor (TJ15 k).2.2.1 = some (tyJ15 k) := by decide +kernel
abbrev cJ15_checkIndex_7cf53 : ByteArray := prog_43_method_17_code
def yJ15_checkIndex_7cf53 : MethodName := ⟨RJ15, "checkIndex", "(II)I"⟩
def RJxf0a74 : String := "java/util/RandomAccess"
def TJxf0a74 : u_T := fun k => match k with
  | _ => ("", "", "", false)
def tyJxf0a74 : Nat → FieldType := fun k => match k with
  | _ => .int
abbrev wsJxf0a740 : List Cond := u_ws RJxf0a74 TJxf0a74 0
theorem nmJxf0a74 : ∀ a, a < 0 → ∀ b, b < 0 → a ≠ b → (TJxf0a74 a).2.1 ≠ (TJxf0a74 b).2.1 := by decide +kernel
theorem tyJxf0a74_ok : ∀ k, k < 0 → parseFieldDescriptor (TJxf0a74 k).2.2.1 = some (tyJxf0a74 k) := by decide +kernel
def RJxa66e6 : String := "java/util/SequencedCollection"
def TJxa66e6 : u_T := fun k => match k with
  | _ => ("", "", "", false)
def tyJxa66e6 : Nat → FieldType := fun k => match k with
  | _ => .int
abbrev wsJxa66e60 : List Cond := u_ws RJxa66e6 TJxa66e6 0
theorem nmJxa66e6 : ∀ a, a < 0 → ∀ b, b < 0 → a ≠ b → (TJxa66e6 a).2.1 ≠ (TJxa66e6 b).2.1 := by decide +kernel
theorem tyJxa66e6_ok : ∀ k, k < 0 → parseFieldDescriptor (TJxa66e6 k).2.2.1 = some (tyJxa66e6 k) := by decide +kernel
def RJ8 : String := "jdk/internal/util/ArraysSupport"
def TJ8 : u_T := fun k => match k with
  | _ => ("", "", "", false)
def tyJ8 : Nat → FieldType := fun k => match k with
  | _ => .int
abbrev wsJ80 : List Cond := u_ws RJ8 TJ8 0
theorem nmJ8 : ∀ a, a < 0 → ∀ b, b < 0 → a ≠ b → (TJ8 a).2.1 ≠ (TJ8 b).2.1 := by decide +kernel
theorem tyJ8_ok : ∀ k, k < 0 → parseFieldDescriptor (TJ8 k).2.2.1 = some (tyJ8 k) := by decide +kernel
abbrev cJ8_newLength_cabcc : ByteArray := prog_46_method_27_code
def yJ8_newLength_cabcc : MethodName := ⟨RJ8, "newLength", "(III)I"⟩
abbrev cJ8_hugeLength_7cf53 : ByteArray := prog_46_method_28_code
def yJ8_hugeLength_7cf53 : MethodName := ⟨RJ8, "hugeLength", "(II)I"⟩
def RJ3 : String := "jdk/internal/util/Preconditions"
def TJ3 : u_T := fun k => match k with
  | _ => ("", "", "", false)
def tyJ3 : Nat → FieldType := fun k => match k with
  | _ => .int
abbrev wsJ30 : List Cond := u_ws RJ3 TJ3 0
theorem nmJ3 : ∀ a, a < 0 → ∀ b, b < 0 → a ≠ b → (TJ3 a).2.1 ≠ (TJ3 b).2.1 := by decide +kernel
theorem tyJ3_ok : ∀ k, k < 0 → parseFieldDescriptor (TJ3 k).2.2.1 = some (tyJ3 k) := by decide +kernel
abbrev cJ3_checkIndex_8e157 : ByteArray := prog_47_method_11_code
def yJ3_checkIndex_8e157 : MethodName := ⟨RJ3, "checkIndex", "(IILjava/util/function/BiFunction;)I"⟩
abbrev cJ3_checkFromToIndex_8c36e : ByteArray := prog_47_method_12_code
def yJ3_checkFromToIndex_8c36e : MethodName := ⟨RJ3, "checkFromToIndex", "(IIILjava/util/function/BiFunction;)I"⟩
abbrev cJ3_checkFromIndexSize_8c36e : ByteArray := prog_47_method_13_code
def yJ3_checkFromIndexSize_8c36e : MethodName := ⟨RJ3, "checkFromIndexSize", "(IIILjava/util/function/BiFunction;)I"⟩
def RL : String := "BumpwardLaw"
abbrev cL_edge : ByteArray := method_2_code
def yL_edge : MethodName := ⟨RL, "edge", "(LBumpward;IIIILBumpwardLaw$Out;)I"⟩
abbrev cL_lay : ByteArray := method_3_code
def yL_lay : MethodName := ⟨RL, "lay", "(LBumpward;ILBumpwardLaw$Out;)I"⟩
abbrev cL_cell : ByteArray := method_4_code
def yL_cell : MethodName := ⟨RL, "cell", "(LBumpward;IZZLBumpwardLaw$Out;)I"⟩
abbrev cL_walker : ByteArray := method_5_code
def yL_walker : MethodName := ⟨RL, "walker", "(LBumpward;IIIZLBumpwardLaw$Out;)I"⟩
abbrev cL_forward : ByteArray := method_6_code
def yL_forward : MethodName := ⟨RL, "forward", "(LBumpward;IZLBumpwardLaw$Out;)I"⟩
abbrev cL_turn : ByteArray := method_7_code
def yL_turn : MethodName := ⟨RL, "turn", "(LBumpward;IZZLBumpwardLaw$Out;)I"⟩
abbrev cL_feel : ByteArray := method_8_code
def yL_feel : MethodName := ⟨RL, "feel", "(LBumpward;IZLBumpwardLaw$Out;)I"⟩
abbrev cL_listen : ByteArray := method_9_code
def yL_listen : MethodName := ⟨RL, "listen", "(LBumpward;IZLBumpwardLaw$Out;)I"⟩
abbrev cL_charge : ByteArray := method_10_code
def yL_charge : MethodName := ⟨RL, "charge", "(LBumpward;IILBumpwardLaw$Out;)I"⟩
abbrev cL_tellPose : ByteArray := method_11_code
def yL_tellPose : MethodName := ⟨RL, "tellPose", "(LBumpward;ILBumpwardLaw$Out;)I"⟩
abbrev cL_meet : ByteArray := method_12_code
def yL_meet : MethodName := ⟨RL, "meet", "(LBumpward;IILBumpwardLaw$Out;)I"⟩
abbrev cL_pass : ByteArray := method_13_code
def yL_pass : MethodName := ⟨RL, "pass", "(LBumpward;ILBumpwardLaw$Out;)I"⟩
abbrev cL_ofEdge : ByteArray := method_14_code
def yL_ofEdge : MethodName := ⟨RL, "ofEdge", "(LBumpward;IIILBumpwardLaw$Out;)I"⟩
abbrev cL_ofWalker : ByteArray := method_15_code
def yL_ofWalker : MethodName := ⟨RL, "ofWalker", "(LBumpward;IILBumpwardLaw$Out;)I"⟩
abbrev cL_house : ByteArray := method_16_code
def yL_house : MethodName := ⟨RL, "house", "(LBumpward;ILBumpwardLaw$Out;)I"⟩
abbrev cL_row : ByteArray := method_17_code
def yL_row : MethodName := ⟨RL, "row", "(LBumpward;ILBumpwardLaw$Out;)I"⟩
abbrev cL_map : ByteArray := method_18_code
def yL_map : MethodName := ⟨RL, "map", "(LBumpward;IIILBumpwardLaw$Out;)I"⟩
abbrev cL_may : ByteArray := method_19_code
def yL_may : MethodName := ⟨RL, "may", "(LBumpward;IILBumpwardLaw$Out;)I"⟩
abbrev cL_where : ByteArray := method_20_code
def yL_where : MethodName := ⟨RL, "where", "(LBumpward;IILBumpwardLaw$Out;)I"⟩
abbrev cL_way : ByteArray := method_21_code
def yL_way : MethodName := ⟨RL, "way", "(LBumpward;IIILBumpwardLaw$Out;)I"⟩
abbrev cL_safety : ByteArray := method_22_code
def yL_safety : MethodName := ⟨RL, "safety", "(LBumpward;IILBumpwardLaw$Out;)I"⟩
abbrev cL_doubt : ByteArray := method_23_code
def yL_doubt : MethodName := ⟨RL, "doubt", "(LBumpward;ILBumpwardLaw$Out;)I"⟩
abbrev cL_worst : ByteArray := method_24_code
def yL_worst : MethodName := ⟨RL, "worst", "(LBumpward;IILBumpwardLaw$Out;)I"⟩
abbrev cL_best : ByteArray := method_25_code
def yL_best : MethodName := ⟨RL, "best", "(LBumpward;ILBumpwardLaw$Out;)I"⟩
abbrev cL_wouldFeel : ByteArray := method_26_code
def yL_wouldFeel : MethodName := ⟨RL, "wouldFeel", "(LBumpward;IILBumpwardLaw$Out;)I"⟩
abbrev cL_wouldBe : ByteArray := method_27_code
def yL_wouldBe : MethodName := ⟨RL, "wouldBe", "(LBumpward;IILBumpwardLaw$Out;)I"⟩
abbrev cL_law : ByteArray := code
def yL_law : MethodName := ⟨RL, "law", "([I)Z"⟩
abbrev vwCl : List vw_C := [(RJ0, TJ0, 4), (RJ4, TJ4, 4), (RJx35411, TJx35411, 4), (RJx4a65c, TJx4a65c, 3), (RX0, TX0, 1), (RX1, TX1, 4), (RX3, TX3, 9), (RX4, TX4, 2), (RX5, TX5, 9), (RX6, TX6, 3), (RX7, TX7, 9), (RX8, TX8, 12)]
end
section
/-! THE ABSTRACT MACHINE: methods by number, programs as tables, a world of cells by address; am_run is what a method does from a place of it. Mine. -/
abbrev am_En : Type := (Nat × vp_A) ⊕ (Nat × List Value)
/-- the cells by address, the next address, the slots made so far, the addresses of what stood there before (statics, literals) -/
abbrev am_Wd : Type := (Nat → Option am_En) × Nat × Nat × (Nat → Option Nat)
abbrev am_Lc : Type := List (Option Value)
/-- what a method answers, or the class of what it throws -/
abbrev am_Out : Type := Option Value ⊕ String
abbrev am_Rs : Type := Option (am_Out × am_Wd)
abbrev am_Act : Type := (Nat × am_Lc × List Value × am_Wd) ⊕ (Nat × List Value × Nat × List Value) ⊕ (am_Out × am_Wd)
abbrev am_Row : Type := Nat × Instr × Nat × List Nat × List Nat
def am_pt (w : am_Wd) (a : Nat) (e : am_En) : am_Wd := (fun b => if b = a then some e else w.1 b, w.2)
def am_nw (w : am_Wd) (e : am_En) (n : Nat) : am_Wd := (fun b => if b = w.2.1 then some e else w.1 b, w.2.1 + 1, w.2.2.1 + n, w.2.2.2)
def am_jk (w : am_Wd) (k n : Nat) : am_Wd := (w.1, w.2.1 + k, w.2.2.1 + n, w.2.2.2)
/-- of that class; 12: a String that stood there before -/
def am_cc (c ci : Nat) : Bool := Nat.beq c ci || (Nat.beq c 12 && Nat.beq ci 0)
/-- getfield -/
def am_gf (w : am_Wd) (a ci k : Nat) : Option Value := match w.1 a with
  | some (.inr (c, fs)) => if am_cc c ci = true then fs[k]? else none
  | _ => none
/-- putfield; what stood there before the law (class 12 and on) is read alone -/
def am_pf (w : am_Wd) (a ci k : Nat) (v : Value) : Option am_Wd := match w.1 a with
  | some (.inr (c, fs)) => if c = ci ∧ k < fs.length ∧ c < 12 then some (am_pt w a (.inr (c, fs.set k v))) else none
  | _ => none
/-- is it an object of that class -/
def am_kf (w : am_Wd) (a ci : Nat) : Option Unit := match w.1 a with
  | some (.inr (c, _)) => if am_cc c ci = true then some () else none
  | _ => none
/-- is it an array of that kind -/
def am_kt (w : am_Wd) (a t : Nat) : Option Unit := match w.1 a with
  | some (.inl (t', _)) => if t' = t then some () else none
  | _ => none
/-- arrays of 32 bits: int 0, boolean 2, byte 3; read alone: 8 more -/
def am_ri (t : Nat) (w : am_Wd) (a : Nat) (i : Int32) : Option Int32 := match w.1 a with
  | some (.inl (t', n, .inl f)) => if t' % 8 = t then (if i < 0 ∨ n ≤ i.toNatClampNeg then none else some (f i.toNatClampNeg)) else none
  | _ => none
def am_rl (w : am_Wd) (a : Nat) (i : Int32) : Option Int64 := match w.1 a with
  | some (.inl (t', n, .inr (.inl f))) => if t' = 1 then (if i < 0 ∨ n ≤ i.toNatClampNeg then none else some (f i.toNatClampNeg)) else none
  | _ => none
/-- arrays of references: Walker 4, Object 5, int[] 6 -/
def am_rq (w : am_Wd) (a : Nat) (i : Int32) : Option Value := match w.1 a with
  | some (.inl (t', n, .inr (.inr (.inr (.inr f))))) => if t' = 4 ∨ t' = 5 ∨ t' = 6 then (if i < 0 ∨ n ≤ i.toNatClampNeg then none else some (va_rf (f i.toNatClampNeg))) else none
  | _ => none
def am_wi (t : Nat) (w : am_Wd) (a : Nat) (i x : Int32) : Option am_Wd := match w.1 a with
  | some (.inl (t', n, .inl f)) => if t' = t then (if i < 0 ∨ n ≤ i.toNatClampNeg then none else some (am_pt w a (.inl (t', n, .inl (upd f i.toNatClampNeg x))))) else none
  | _ => none
def am_wl (w : am_Wd) (a : Nat) (i : Int32) (x : Int64) : Option am_Wd := match w.1 a with
  | some (.inl (t', n, .inr (.inl f))) => if t' = 1 then (if i < 0 ∨ n ≤ i.toNatClampNeg then none else some (am_pt w a (.inl (t', n, .inr (.inl (vp_updL f i.toNatClampNeg x)))))) else none
  | _ => none
/-- a reference to an object of class ci into an array of those, or of Object -/
def am_wq (t ci : Nat) (w : am_Wd) (a : Nat) (i : Int32) (b : Nat) : Option am_Wd := match w.1 a with
  | some (.inl (t', n, .inr (.inr (.inr (.inr f))))) => if t' = t ∧ 0 < ci ∧ ci < 12 then (if i < 0 ∨ n ≤ i.toNatClampNeg then none else (am_kf w b ci).bind fun _ => some (am_pt w a (.inl (t', n, .inr (.inr (.inr (.inr (va_up f i.toNatClampNeg (some b)))))))) ) else none
  | _ => none
def am_len (w : am_Wd) (a : Nat) : Option Nat := match w.1 a with
  | some (.inl (t, n, _)) => if t % 8 < 7 then some n else none
  | _ => none
/-- a new array's contents -/
def am_in (t : Nat) : (Nat → Int32) ⊕ (Nat → Int64) ⊕ (Nat → UInt32) ⊕ (Nat → UInt64) ⊕ (Nat → Option Nat) :=
  if t = 1 then .inr (.inl (fun _ => 0)) else if t < 4 then .inl (fun _ => 0) else .inr (.inr (.inr (.inr (fun _ => none))))
def am_na (w : am_Wd) (t : Nat) (n : Int32) : Option am_Wd := if n < 0 ∨ 4096 < n.toNatClampNeg then none else some (am_nw w (.inl (t, n.toNatClampNeg, am_in t)) n.toNatClampNeg)
/-- new int[n][k] -/
def am_rows (w : am_Wd) (k : Nat) : Nat → am_Wd
  | 0 => w
  | i + 1 => am_nw (am_rows w k i) (.inl (0, k, .inl (fun _ => 0))) k
def am_mn (w : am_Wd) (n k : Int32) : Option am_Wd := if n < 0 ∨ k < 0 ∨ 4096 < n.toNatClampNeg ∨ 4096 < k.toNatClampNeg then none else
  some (am_rows (am_nw w (.inl (6, n.toNatClampNeg, .inr (.inr (.inr (.inr (fun i => if i < n.toNatClampNeg then some (w.2.1 + 1 + i) else none)))))) n.toNatClampNeg) k.toNatClampNeg n.toNatClampNeg)
/-- what a field, or an answer, of that type may hold -/
def am_ok : FieldType → Value → Bool
  | .int, .int _ => true
  | .long, .long _ => true
  | .double, .double _ => true
  | .object _, .null => true
  | .object _, .ref _ => true
  | .array _, .null => true
  | .array _, .ref _ => true
  | .boolean, .int x => decide (x = 0 ∨ x = 1)
  | .byte, .int x => decide (-128 ≤ x ∧ x ≤ 127)
  | .char, .int x => decide (0 ≤ x ∧ x ≤ 65535)
  | _, _ => false
/-- arraycopy between arrays of bytes -/
def am_cy (w : am_Wd) (a0 : Nat) (sp : Int32) (a : Nat) (dp n : Int32) : Option am_Wd := match w.1 a0, w.1 a with
  | some (.inl (t0, n0, .inl f)), some (.inl (t1, n1, .inl g)) => if (t0 % 8 = 3 ∧ t1 = 3 ∧ ¬ sp < 0 ∧ ¬ dp < 0 ∧ ¬ n < 0) ∧ (sp.toNatClampNeg + n.toNatClampNeg ≤ n0 ∧ dp.toNatClampNeg + n.toNatClampNeg ≤ n1) ∧ (∀ i, i < n.toNatClampNeg → am_ok .byte (.int (f (sp.toNatClampNeg + i))) = true) then
      some (am_pt w a (.inl (t1, n1, .inl (va_cpy f g sp.toNatClampNeg dp.toNatClampNeg n.toNatClampNeg)))) else none
  | _, _ => none
/-- a jump's place -/
def am_tg (pc : Nat) (off : Int) : Option Nat := match (pc : Int) + off with
  | .ofNat t => some t
  | .negSucc _ => none
def am_sw (x : Int32) (d : Int) : List (Int × Int) → Int
  | [] => d
  | q :: r => if x.toInt = q.1 then q.2 else am_sw x d r
def am_at (ls : am_Lc) (i : Nat) : Option Value := match ls[i]? with
  | some (some v) => some v
  | _ => none
def am_c2 (v : Value) : Bool := match v with
  | .long _ => true
  | .double _ => true
  | _ => false
/-- the place ahead holds no long: else it would go -/
def am_c1 (ls : am_Lc) (i : Nat) : Bool := match i with
  | 0 => true
  | j + 1 => match ls[j]? with
    | some (some v) => !(am_c2 v)
    | _ => true
def am_s1 (ls : am_Lc) (i : Nat) (v : Value) : Option am_Lc := if i < ls.length ∧ am_c1 ls i = true then some (ls.set i (some v)) else none
def am_s2 (ls : am_Lc) (i : Nat) (v : Value) : Option am_Lc := if i + 1 < ls.length ∧ am_c1 ls i = true then some ((ls.set i (some v)).set (i + 1) none) else none
def am_sz (st : List Value) : Nat := (st.map fun v => v.category).sum
def am_nx (pc : Nat) (ls : am_Lc) (st : List Value) (w : am_Wd) : Option am_Act := some (.inl (pc, ls, st, w))
def am_br (c : Bool) (pc : Nat) (off : Int) (ls : am_Lc) (st : List Value) (w : am_Wd) : Option am_Act := if c = true then (am_tg pc off).bind fun t => am_nx t ls st w else am_nx (pc + 3) ls st w
def am_cd (c : Jvm.ClassFile.Cond) (x y : Int32) : Bool := match c with
  | .eq => decide (x = y)
  | .ne => decide (¬ x = y)
  | .lt => decide (x < y)
  | .ge => decide (y ≤ x)
  | .gt => decide (y < x)
  | .le => decide (x ≤ y)
/-- the types of the fields -/
def am_ty (ci : Nat) : Nat → FieldType := match ci with
  | 0 => tyJ0
  | 1 => tyJ4
  | 2 => tyJx35411
  | 3 => tyJx4a65c
  | 4 => tyX0
  | 5 => tyX1
  | 6 => tyX3
  | 7 => tyX4
  | 8 => tyX5
  | 9 => tyX6
  | 10 => tyX7
  | 11 => tyX8
  | _ => tyJ0
def am_df (ci n : Nat) : List Value := (List.range n).map fun k => defaultValue (am_ty ci k)
def am_rt (k : Nat) : FieldType := if k = 0 then .int else if k = 1 then .boolean else if k = 2 then .char else .byte
/-- what is thrown -/
def am_xn (x : Nat) : String := if x = 0 then "java/lang/IndexOutOfBoundsException" else if x = 1 then "java/lang/IllegalArgumentException" else "java/lang/IllegalStateException"
/-- one instruction at its place: on, or a call, or the end. an: what the table says beside it -/
def am_stp (pc : Nat) (i : Instr) (an : List Nat) (ls : am_Lc) (st : List Value) (w : am_Wd) : Option am_Act := match i with
  | .iconst n => am_nx (pc + 1) ls (.int (Int32.ofInt n) :: st) w
  | .bipush n => am_nx (pc + 2) ls (.int (Int8.ofInt n).toInt32 :: st) w
  | .sipush n => am_nx (pc + 3) ls (.int (Int16.ofInt n).toInt32 :: st) w
  | .lconst n => am_nx (pc + 1) ls (.long (Int64.ofNat n.val) :: st) w
  | .dconst n => if n = 0 then am_nx (pc + 1) ls (.double FP.dconst0 :: st) w else none
  | .aconst_null => am_nx (pc + 1) ls (.null :: st) w
  | .ldc _ => match an with
    | 0 :: n :: _ => am_nx (pc + 2) ls (.int (Int32.ofNat n) :: st) w
    | 1 :: k :: _ => am_nx (pc + 2) ls (va_rf (w.2.2.2 k) :: st) w
    | _ => none
  | .ldc_w _ => match an with
    | 0 :: n :: _ => am_nx (pc + 3) ls (.int (Int32.ofNat n) :: st) w
    | 1 :: k :: _ => am_nx (pc + 3) ls (va_rf (w.2.2.2 k) :: st) w
    | _ => none
  | .ldc2_w _ => match an with
    | 0 :: n :: _ => am_nx (pc + 3) ls (.long (Int64.ofNat n) :: st) w
    | 1 :: n :: _ => am_nx (pc + 3) ls (.double (UInt64.ofNat n) :: st) w
    | _ => none
  | .iload k => match am_at ls k with
    | some (.int x) => am_nx (pc + 2) ls (.int x :: st) w
    | _ => none
  | .iload_n k => match am_at ls k.val with
    | some (.int x) => am_nx (pc + 1) ls (.int x :: st) w
    | _ => none
  | .lload k => match am_at ls k with
    | some (.long x) => am_nx (pc + 2) ls (.long x :: st) w
    | _ => none
  | .lload_n k => match am_at ls k.val with
    | some (.long x) => am_nx (pc + 1) ls (.long x :: st) w
    | _ => none
  | .dload k => match am_at ls k with
    | some (.double x) => am_nx (pc + 2) ls (.double x :: st) w
    | _ => none
  | .aload k => match am_at ls k with
    | some (.ref x) => am_nx (pc + 2) ls (.ref x :: st) w
    | some .null => am_nx (pc + 2) ls (.null :: st) w
    | _ => none
  | .aload_n k => match am_at ls k.val with
    | some (.ref x) => am_nx (pc + 1) ls (.ref x :: st) w
    | some .null => am_nx (pc + 1) ls (.null :: st) w
    | _ => none
  | .istore k => match st with
    | .int x :: r => (am_s1 ls k (.int x)).bind fun l => am_nx (pc + 2) l r w
    | _ => none
  | .istore_n k => match st with
    | .int x :: r => (am_s1 ls k.val (.int x)).bind fun l => am_nx (pc + 1) l r w
    | _ => none
  | .lstore k => match st with
    | .long x :: r => (am_s2 ls k (.long x)).bind fun l => am_nx (pc + 2) l r w
    | _ => none
  | .lstore_n k => match st with
    | .long x :: r => (am_s2 ls k.val (.long x)).bind fun l => am_nx (pc + 1) l r w
    | _ => none
  | .dstore k => match st with
    | .double x :: r => (am_s2 ls k (.double x)).bind fun l => am_nx (pc + 2) l r w
    | _ => none
  | .astore k => match st with
    | .ref x :: r => (am_s1 ls k (.ref x)).bind fun l => am_nx (pc + 2) l r w
    | .null :: r => (am_s1 ls k .null).bind fun l => am_nx (pc + 2) l r w
    | _ => none
  | .astore_n k => match st with
    | .ref x :: r => (am_s1 ls k.val (.ref x)).bind fun l => am_nx (pc + 1) l r w
    | .null :: r => (am_s1 ls k.val .null).bind fun l => am_nx (pc + 1) l r w
    | _ => none
  | .iinc k n => match am_at ls k with
    | some (.int x) => (am_s1 ls k (.int (x + Int32.ofInt n))).bind fun l => am_nx (pc + 3) l st w
    | _ => none
  | .iadd => match st with
    | .int y :: .int x :: r => am_nx (pc + 1) ls (.int (x + y) :: r) w
    | _ => none
  | .isub => match st with
    | .int y :: .int x :: r => am_nx (pc + 1) ls (.int (x - y) :: r) w
    | _ => none
  | .imul => match st with
    | .int y :: .int x :: r => am_nx (pc + 1) ls (.int (x * y) :: r) w
    | _ => none
  | .idiv => match st with
    | .int y :: .int x :: r => if y = 0 then none else am_nx (pc + 1) ls (.int (x / y) :: r) w
    | _ => none
  | .irem => match st with
    | .int y :: .int x :: r => if y = 0 then none else am_nx (pc + 1) ls (.int (x - x / y * y) :: r) w
    | _ => none
  | .ineg => match st with
    | .int x :: r => am_nx (pc + 1) ls (.int (-x) :: r) w
    | _ => none
  | .iand => match st with
    | .int y :: .int x :: r => am_nx (pc + 1) ls (.int (x &&& y) :: r) w
    | _ => none
  | .ior => match st with
    | .int y :: .int x :: r => am_nx (pc + 1) ls (.int (x ||| y) :: r) w
    | _ => none
  | .ixor => match st with
    | .int y :: .int x :: r => am_nx (pc + 1) ls (.int (x ^^^ y) :: r) w
    | _ => none
  | .ishl => match st with
    | .int y :: .int x :: r => am_nx (pc + 1) ls (.int (x <<< (y &&& 31)) :: r) w
    | _ => none
  | .ishr => match st with
    | .int y :: .int x :: r => am_nx (pc + 1) ls (.int (x >>> (y &&& 31)) :: r) w
    | _ => none
  | .iushr => match st with
    | .int y :: .int x :: r => am_nx (pc + 1) ls (.int (x.toUInt32 >>> (y.toUInt32 &&& Int32.toUInt32 31)).toInt32 :: r) w
    | _ => none
  | .ladd => match st with
    | .long y :: .long x :: r => am_nx (pc + 1) ls (.long (x + y) :: r) w
    | _ => none
  | .lsub => match st with
    | .long y :: .long x :: r => am_nx (pc + 1) ls (.long (x - y) :: r) w
    | _ => none
  | .lmul => match st with
    | .long y :: .long x :: r => am_nx (pc + 1) ls (.long (x * y) :: r) w
    | _ => none
  | .land => match st with
    | .long y :: .long x :: r => am_nx (pc + 1) ls (.long (x &&& y) :: r) w
    | _ => none
  | .lor => match st with
    | .long y :: .long x :: r => am_nx (pc + 1) ls (.long (x ||| y) :: r) w
    | _ => none
  | .lxor => match st with
    | .long y :: .long x :: r => am_nx (pc + 1) ls (.long (x ^^^ y) :: r) w
    | _ => none
  | .lshl => match st with
    | .int y :: .long x :: r => am_nx (pc + 1) ls (.long (x <<< (y.toInt64 &&& 63)) :: r) w
    | _ => none
  | .lushr => match st with
    | .int y :: .long x :: r => am_nx (pc + 1) ls (.long (x.toUInt64 >>> (y.toInt64.toUInt64 &&& Int64.toUInt64 63)).toInt64 :: r) w
    | _ => none
  | .lcmp => match st with
    | .long y :: .long x :: r => am_nx (pc + 1) ls (.int (lg_cmp x y) :: r) w
    | _ => none
  | .i2l => match st with
    | .int x :: r => am_nx (pc + 1) ls (.long x.toInt64 :: r) w
    | _ => none
  | .l2i => match st with
    | .long x :: r => am_nx (pc + 1) ls (.int x.toInt32 :: r) w
    | _ => none
  | .i2b => match st with
    | .int x :: r => am_nx (pc + 1) ls (.int x.toInt8.toInt32 :: r) w
    | _ => none
  | .i2c => match st with
    | .int x :: r => am_nx (pc + 1) ls (.int (x.toUInt32 % 65536).toInt32 :: r) w
    | _ => none
  | .i2d => match st with
    | .int x :: r => am_nx (pc + 1) ls (.double (FP.i2d x) :: r) w
    | _ => none
  | .d2l => match st with
    | .double x :: r => am_nx (pc + 1) ls (.long (FP.d2l x) :: r) w
    | _ => none
  | .ddiv => match st with
    | .double y :: .double x :: r => if (FP.ddiv x y) &&& 0x7fffffffffffffff ≤ 0x7ff0000000000000 then am_nx (pc + 1) ls (.double (FP.ddiv x y) :: r) w else none
    | _ => none
  | .dmul => match st with
    | .double y :: .double x :: r => if (FP.dmul x y) &&& 0x7fffffffffffffff ≤ 0x7ff0000000000000 then am_nx (pc + 1) ls (.double (FP.dmul x y) :: r) w else none
    | _ => none
  | .dcmp o => match st with
    | .double y :: .double x :: r => am_nx (pc + 1) ls (.int (Op.cmpValue (FP.dcmp x y) o) :: r) w
    | _ => none
  | .dup => match st with
    | v :: r => if am_c2 v = true then none else am_nx (pc + 1) ls (v :: v :: r) w
    | _ => none
  | .dup_x1 => match st with
    | v :: u :: r => if am_c2 v = true ∨ am_c2 u = true then none else am_nx (pc + 1) ls (v :: u :: v :: r) w
    | _ => none
  | .dup2 => match st with
    | v :: u :: r => if am_c2 v = true then am_nx (pc + 1) ls (v :: v :: u :: r) w else if am_c2 u = true then none else am_nx (pc + 1) ls (v :: u :: v :: u :: r) w
    | _ => none
  | .pop => match st with
    | v :: r => if am_c2 v = true then none else am_nx (pc + 1) ls r w
    | _ => none
  | .pop2 => match st with
    | v :: r => if am_c2 v = true then am_nx (pc + 1) ls r w else none
    | _ => none
  | .goto o => (am_tg pc o).bind fun t => am_nx t ls st w
  | .ifCond c o => match st with
    | .int x :: r => am_br (am_cd c x 0) pc o ls r w
    | _ => none
  | .if_icmp c o => match st with
    | .int y :: .int x :: r => am_br (am_cd c x y) pc o ls r w
    | _ => none
  | .if_acmp c o => match st with
    | .ref y :: .ref x :: r => am_br (match c with | .eq => decide (x = y) | .ne => decide (¬ x = y)) pc o ls r w
    | _ => none
  | .ifnull o => match st with
    | .ref _ :: r => am_nx (pc + 3) ls r w
    | .null :: r => (am_tg pc o).bind fun t => am_nx t ls r w
    | _ => none
  | .ifnonnull o => match st with
    | .ref _ :: r => (am_tg pc o).bind fun t => am_nx t ls r w
    | .null :: r => am_nx (pc + 3) ls r w
    | _ => none
  | .lookupswitch d ps => match st with
    | .int x :: r => if (ps.toList.zip (ps.toList.drop 1)).all (fun q => q.1.1 < q.2.1) = true then (am_tg pc (am_sw x d ps.toList)).bind fun t => am_nx t ls r w else none
    | _ => none
  | .tableswitch d lo hi os => match st with
    | .int x :: r => if hi = lo + os.size - 1 then (am_tg pc (am_sw x d (os.toList.zipIdx.map fun q => (lo + q.2, q.1)))).bind fun t => am_nx t ls r w else none
    | _ => none
  | .getfield _ => match an with
    | _ :: ci :: k :: _ => match st with
      | .ref a :: r => (am_gf w a ci k).bind fun v => am_nx (pc + 3) ls (v :: r) w
      | _ => none
    | _ => none
  | .putfield _ => match an with
    | _ :: ci :: k :: _ => match st with
      | v :: .ref a :: r => if am_ok (am_ty ci k) v = true then (am_pf w a ci k v).bind fun w' => am_nx (pc + 3) ls r w' else none
      | _ => none
    | _ => none
  | .getstatic _ => match an with
    | 0 :: n :: _ => am_nx (pc + 3) ls (.int (Int32.ofNat n) :: st) w
    | 1 :: k :: _ => am_nx (pc + 3) ls (va_rf (w.2.2.2 k) :: st) w
    | _ => none
  | .iaload => match st with
    | .int i :: .ref a :: r => (am_ri 0 w a i).bind fun x => am_nx (pc + 1) ls (.int x :: r) w
    | _ => none
  | .baload => match an with
    | t :: _ => match st with
      | .int i :: .ref a :: r => (am_ri t w a i).bind fun x => am_nx (pc + 1) ls (.int x :: r) w
      | _ => none
    | _ => none
  | .laload => match st with
    | .int i :: .ref a :: r => (am_rl w a i).bind fun x => am_nx (pc + 1) ls (.long x :: r) w
    | _ => none
  | .aaload => match st with
    | .int i :: .ref a :: r => (am_rq w a i).bind fun x => am_nx (pc + 1) ls (x :: r) w
    | _ => none
  | .iastore => match st with
    | .int x :: .int i :: .ref a :: r => (am_wi 0 w a i x).bind fun w' => am_nx (pc + 1) ls r w'
    | _ => none
  | .bastore => match an with
    | t :: _ => match st with
      | .int x :: .int i :: .ref a :: r => (am_wi t w a i (vp_nar (if t = 2 then .boolean else .byte) x)).bind fun w' => am_nx (pc + 1) ls r w'
      | _ => none
    | _ => none
  | .lastore => match st with
    | .long x :: .int i :: .ref a :: r => (am_wl w a i x).bind fun w' => am_nx (pc + 1) ls r w'
    | _ => none
  | .aastore => match an with
    | t :: ci :: _ => match st with
      | .ref b :: .int i :: .ref a :: r => (am_wq t ci w a i b).bind fun w' => am_nx (pc + 1) ls r w'
      | _ => none
    | _ => none
  | .arraylength => match st with
    | .ref a :: r => (am_len w a).bind fun n => am_nx (pc + 1) ls (.int (Int32.ofNat n) :: r) w
    | _ => none
  | .newarray _ => match an with
    | t :: _ => match st with
      | .int n :: r => (am_na w t n).bind fun w' => am_nx (pc + 2) ls (.ref w.2.1 :: r) w'
      | _ => none
    | _ => none
  | .anewarray _ => match an with
    | t :: _ => match st with
      | .int n :: r => (am_na w t n).bind fun w' => am_nx (pc + 3) ls (.ref w.2.1 :: r) w'
      | _ => none
    | _ => none
  | .multianewarray _ _ => match st with
    | .int k :: .int n :: r => (am_mn w n k).bind fun w' => am_nx (pc + 4) ls (.ref w.2.1 :: r) w'
    | _ => none
  | .new _ => match an with
    | 0 :: ci :: n :: _ => am_nx (pc + 3) ls (.ref w.2.1 :: st) (am_nw w (.inr (ci, am_df ci n)) n)
    | _ :: x :: _ => if am_sz st ≤ 8 then some (.inr (.inr (.inr (am_xn x), am_jk w 1 6))) else none
    | _ => none
  | .checkcast _ => match an with
    | 0 :: ci :: _ => match st with
      | .ref a :: r => (am_kf w a ci).bind fun _ => am_nx (pc + 3) ls (.ref a :: r) w
      | _ => none
    | 1 :: t :: _ => match st with
      | .ref a :: r => (am_kt w a t).bind fun _ => am_nx (pc + 3) ls (.ref a :: r) w
      | _ => none
    | _ => none
  | .instanceof _ => match an with
    | 0 :: ci :: _ => match st with
      | .ref a :: r => (am_kf w a ci).bind fun _ => am_nx (pc + 3) ls (.int 1 :: r) w
      | _ => none
    | _ => none
  | .invokevirtual _ => match an with
    | 1 :: _ => match st with
      | .ref a :: r => if am_sz r ≤ 8 then (match w.1 a with
        | some (.inl (t, n, .inr (.inl x))) => if t = 9 then am_nx (pc + 3) ls (.ref w.2.1 :: r) (am_nw w (.inl (1, n, .inr (.inl x))) n) else none
        | _ => none) else none
      | _ => none
    | _ :: m' :: n :: ci :: _ => match st.drop n with
      | .ref b :: r => if n ≤ st.length ∧ am_sz r ≤ 8 then (am_kf w b ci).bind fun _ => some (.inr (.inl (m', .ref b :: (st.take n).reverse, pc + 3, r))) else none
      | _ => none
    | _ => none
  | .invokeinterface _ _ => match an with
    | _ :: m' :: n :: ci :: _ => match st.drop n with
      | .ref b :: r => if n ≤ st.length ∧ am_sz r ≤ 8 then (am_kf w b ci).bind fun _ => some (.inr (.inl (m', .ref b :: (st.take n).reverse, pc + 5, r))) else none
      | _ => none
    | _ => none
  | .invokespecial _ => match an with
    | 1 :: _ => match st with
      | .ref _ :: r => if am_sz r ≤ 8 then am_nx (pc + 3) ls r w else none
      | _ => none
    | 2 :: m' :: n :: ci :: _ => match st.drop n with
      | .ref b :: r => if n ≤ st.length ∧ am_sz r ≤ 8 then (am_kf w b ci).bind fun _ => some (.inr (.inl (m', .ref b :: (st.take n).reverse, pc + 3, r))) else none
      | _ => none
    | _ :: m' :: n :: _ => match st.drop n with
      | .ref b :: r => if n ≤ st.length ∧ am_sz r ≤ 8 then some (.inr (.inl (m', .ref b :: (st.take n).reverse, pc + 3, r))) else none
      | _ => none
    | _ => none
  | .invokestatic _ => match an with
    | 1 :: _ => match st with
      | .int y :: .int x :: r => if am_sz r ≤ 8 then am_nx (pc + 3) ls (.int (if x < y then y else x) :: r) w else none
      | _ => none
    | 2 :: _ => match st with
      | .int y :: .int x :: r => if am_sz r ≤ 8 then am_nx (pc + 3) ls (.int (if y < x then y else x) :: r) w else none
      | _ => none
    | 3 :: _ => match st with
      | .int x :: r => if am_sz r ≤ 8 then am_nx (pc + 3) ls (.int (if 0 ≤ x then x else 0 - x) :: r) w else none
      | _ => none
    | 4 :: _ => match st with
      | .int n :: .int dp :: .ref a :: .int sp :: .ref a0 :: r => if am_sz r ≤ 8 then (am_cy w a0 sp a dp n).bind fun w' => am_nx (pc + 3) ls r w' else none
      | _ => none
    | _ :: m' :: n :: _ => if n ≤ st.length ∧ am_sz (st.drop n) ≤ 8 then some (.inr (.inl (m', (st.take n).reverse, pc + 3, st.drop n))) else none
    | _ => none
  | .ireturn => match an with
    | t :: _ => match st with
      | [.int v] => if t < 4 ∧ am_ok (am_rt t) (.int v) = true then some (.inr (.inr (.inl (some (.int v)), w))) else none
      | _ => none
    | _ => none
  | .lreturn => match st with
    | [.long v] => some (.inr (.inr (.inl (some (.long v)), w)))
    | _ => none
  | .dreturn => match st with
    | [.double v] => some (.inr (.inr (.inl (some (.double v)), w)))
    | _ => none
  | .areturn => match st with
    | [.ref v] => some (.inr (.inr (.inl (some (.ref v)), w)))
    | _ => none
  | .return_ => match st with
    | [] => some (.inr (.inr (.inl none, w)))
    | _ => none
  | _ => none
/-- where statics and literals lie; what stood there before and is read alone -/
abbrev am_Sg : Type := (Nat → Option Nat) × (Nat → Option am_En)
end
