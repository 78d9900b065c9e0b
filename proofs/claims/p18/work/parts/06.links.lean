/-! WHAT THE TABLES LINK: a check of every row against the claim's words, by the kernel. Mine. -/
abbrev am_cl : List vw_C := vwCl ++ [(RJ0, TJ0, 4)]
/-- AbstractStringBuilder's private members, of a StringBuilder -/
def am_psm : List (String × String) := [("ensureCapacityInternal", "(I)V"), ("putStringAt", "(ILjava/lang/String;)V"), ("inflateIfNeededFor", "(Ljava/lang/String;)V")]
def am_psl : List Cond := am_psm.map fun q => .selects "java/lang/StringBuilder" ⟨"java/lang/AbstractStringBuilder", q.1, q.2⟩ ⟨"java/lang/AbstractStringBuilder", q.1, q.2⟩
/-- what the law catches -/
def am_exn : List String := ["java/lang/IndexOutOfBoundsException", "java/lang/IllegalArgumentException", "java/lang/IllegalStateException"]
/-- who may be cast to what -/
def am_cst : List (String × String) := am_exn.map (fun E => (E, E)) ++ [("[J", "java/lang/Cloneable"), ("BumpwardModel$Walker", "java/lang/Object")]
theorem am_cst_E {E : String} (h : E ∈ am_exn) : (E, E) ∈ am_cst := List.mem_append_left _ (List.mem_map.mpr ⟨E, h, rfl⟩)
def am_dcl : List Cond := ["java/lang/RuntimeException", "java/lang/Exception", "java/lang/Throwable"].map fun n => .declares (Bundle.initS n)
def am_tb : List Cond := lw_tbl ++ am_psl
def am_aw : List Cond := am_tb.filter goodWord
/-- the words in pieces -/
def am_tc0 : List Cond := (tables_1_1.drop 0).take 48
def am_tc1 : List Cond := (tables_1_1.drop 48).take 48
def am_tc2 : List Cond := (tables_1_1.drop 96).take 48
def am_tc3 : List Cond := (tables_1_1.drop 144).take 48
def am_tc4 : List Cond := (tables_1_1.drop 192).take 48
def am_tc5 : List Cond := (tables_1_2.drop 0).take 48
def am_tc6 : List Cond := (tables_1_2.drop 48).take 48
def am_tc7 : List Cond := (tables_1_2.drop 96).take 48
def am_tc8 : List Cond := (tables_1_2.drop 144).take 48
def am_tc9 : List Cond := (tables_1_2.drop 192).take 48
def am_tc10 : List Cond := (tables_1_3.drop 0).take 48
def am_tc11 : List Cond := (tables_1_3.drop 48).take 48
def am_tc12 : List Cond := (tables_1_3.drop 96).take 48
def am_tc13 : List Cond := (tables_1_3.drop 144).take 48
def am_tc14 : List Cond := (tables_1_3.drop 192).take 48
def am_tc15 : List Cond := (tables_1_4.drop 0).take 48
def am_tc16 : List Cond := (tables_1_4.drop 48).take 48
def am_tc17 : List Cond := (tables_1_4.drop 96).take 48
def am_tc18 : List Cond := (tables_1_4.drop 144).take 48
def am_tc19 : List Cond := (tables_1_4.drop 192).take 48
def am_tc20 : List Cond := (tables_1_5.drop 0).take 48
def am_tc21 : List Cond := (tables_1_5.drop 48).take 48
def am_tc22 : List Cond := (tables_1_5.drop 96).take 48
def am_tc23 : List Cond := (tables_1_5.drop 144).take 48
def am_tc24 : List Cond := (tables_1_5.drop 192).take 48
def am_tc25 : List Cond := (tables_1_6.drop 0).take 48
def am_tc26 : List Cond := (tables_1_6.drop 48).take 48
def am_tc27 : List Cond := (tables_1_6.drop 96).take 48
def am_tc28 : List Cond := (tables_1_6.drop 144).take 48
def am_tc29 : List Cond := (tables_1_6.drop 192).take 48
def am_tc30 : List Cond := (tables_1_7.drop 0).take 48
def am_tc31 : List Cond := (tables_1_7.drop 48).take 48
def am_tc32 : List Cond := (tables_1_7.drop 96).take 48
def am_tc33 : List Cond := (tables_1_7.drop 144).take 48
def am_tc34 : List Cond := (tables_1_7.drop 192).take 48
def am_tc35 : List Cond := tables_1_8.drop 0 ++ am_psl
def am_tcs : List (List Cond) := [am_tc0, am_tc1, am_tc2, am_tc3, am_tc4, am_tc5, am_tc6, am_tc7, am_tc8, am_tc9, am_tc10, am_tc11, am_tc12, am_tc13, am_tc14, am_tc15, am_tc16, am_tc17, am_tc18, am_tc19, am_tc20, am_tc21, am_tc22, am_tc23, am_tc24, am_tc25, am_tc26, am_tc27, am_tc28, am_tc29, am_tc30, am_tc31, am_tc32, am_tc33, am_tc34, am_tc35]
theorem am_t1s {w : Cond} (h : w ∈ tables_1) : w ∈ am_tb := List.mem_append_left _ (List.mem_append_right _ h)
theorem am_t1_1 {w : Cond} (h : w ∈ tables_1_1) : w ∈ am_tb := am_t1s (List.mem_append_left _ h)
theorem am_t1_2 {w : Cond} (h : w ∈ tables_1_2) : w ∈ am_tb := am_t1s (List.mem_append_right _ (List.mem_append_left _ h))
theorem am_t1_3 {w : Cond} (h : w ∈ tables_1_3) : w ∈ am_tb := am_t1s (List.mem_append_right _ (List.mem_append_right _ (List.mem_append_left _ h)))
theorem am_t1_4 {w : Cond} (h : w ∈ tables_1_4) : w ∈ am_tb := am_t1s (List.mem_append_right _ (List.mem_append_right _ (List.mem_append_right _ (List.mem_append_left _ h))))
theorem am_t1_5 {w : Cond} (h : w ∈ tables_1_5) : w ∈ am_tb := am_t1s (List.mem_append_right _ (List.mem_append_right _ (List.mem_append_right _ (List.mem_append_right _ (List.mem_append_left _ h)))))
theorem am_t1_6 {w : Cond} (h : w ∈ tables_1_6) : w ∈ am_tb := am_t1s (List.mem_append_right _ (List.mem_append_right _ (List.mem_append_right _ (List.mem_append_right _ (List.mem_append_right _ (List.mem_append_left _ h))))))
theorem am_t1_7 {w : Cond} (h : w ∈ tables_1_7) : w ∈ am_tb := am_t1s (List.mem_append_right _ (List.mem_append_right _ (List.mem_append_right _ (List.mem_append_right _ (List.mem_append_right _ (List.mem_append_right _ (List.mem_append_left _ h)))))))
theorem am_t1_8 {w : Cond} (h : w ∈ tables_1_8) : w ∈ am_tb := am_t1s (List.mem_append_right _ (List.mem_append_right _ (List.mem_append_right _ (List.mem_append_right _ (List.mem_append_right _ (List.mem_append_right _ (List.mem_append_right _ (h))))))))
theorem am_tcs_sub : ∀ c ∈ am_tcs, ∀ w ∈ c, w ∈ am_tb := List.forall_mem_cons.mpr ⟨fun w h => am_t1_1 (List.mem_of_mem_drop (List.mem_of_mem_take h)), List.forall_mem_cons.mpr ⟨fun w h => am_t1_1 (List.mem_of_mem_drop (List.mem_of_mem_take h)), List.forall_mem_cons.mpr ⟨fun w h => am_t1_1 (List.mem_of_mem_drop (List.mem_of_mem_take h)), List.forall_mem_cons.mpr ⟨fun w h => am_t1_1 (List.mem_of_mem_drop (List.mem_of_mem_take h)), List.forall_mem_cons.mpr ⟨fun w h => am_t1_1 (List.mem_of_mem_drop (List.mem_of_mem_take h)), List.forall_mem_cons.mpr ⟨fun w h => am_t1_2 (List.mem_of_mem_drop (List.mem_of_mem_take h)), List.forall_mem_cons.mpr ⟨fun w h => am_t1_2 (List.mem_of_mem_drop (List.mem_of_mem_take h)), List.forall_mem_cons.mpr ⟨fun w h => am_t1_2 (List.mem_of_mem_drop (List.mem_of_mem_take h)), List.forall_mem_cons.mpr ⟨fun w h => am_t1_2 (List.mem_of_mem_drop (List.mem_of_mem_take h)), List.forall_mem_cons.mpr ⟨fun w h => am_t1_2 (List.mem_of_mem_drop (List.mem_of_mem_take h)), List.forall_mem_cons.mpr ⟨fun w h => am_t1_3 (List.mem_of_mem_drop (List.mem_of_mem_take h)), List.forall_mem_cons.mpr ⟨fun w h => am_t1_3 (List.mem_of_mem_drop (List.mem_of_mem_take h)), List.forall_mem_cons.mpr ⟨fun w h => am_t1_3 (List.mem_of_mem_drop (List.mem_of_mem_take h)), List.forall_mem_cons.mpr ⟨fun w h => am_t1_3 (List.mem_of_mem_drop (List.mem_of_mem_take h)), List.forall_mem_cons.mpr ⟨fun w h => am_t1_3 (List.mem_of_mem_drop (List.mem_of_mem_take h)), List.forall_mem_cons.mpr ⟨fun w h => am_t1_4 (List.mem_of_mem_drop (List.mem_of_mem_take h)), List.forall_mem_cons.mpr ⟨fun w h => am_t1_4 (List.mem_of_mem_drop (List.mem_of_mem_take h)), List.forall_mem_cons.mpr ⟨fun w h => am_t1_4 (List.mem_of_mem_drop (List.mem_of_mem_take h)), List.forall_mem_cons.mpr ⟨fun w h => am_t1_4 (List.mem_of_mem_drop (List.mem_of_mem_take h)), List.forall_mem_cons.mpr ⟨fun w h => am_t1_4 (List.mem_of_mem_drop (List.mem_of_mem_take h)), List.forall_mem_cons.mpr ⟨fun w h => am_t1_5 (List.mem_of_mem_drop (List.mem_of_mem_take h)), List.forall_mem_cons.mpr ⟨fun w h => am_t1_5 (List.mem_of_mem_drop (List.mem_of_mem_take h)), List.forall_mem_cons.mpr ⟨fun w h => am_t1_5 (List.mem_of_mem_drop (List.mem_of_mem_take h)), List.forall_mem_cons.mpr ⟨fun w h => am_t1_5 (List.mem_of_mem_drop (List.mem_of_mem_take h)), List.forall_mem_cons.mpr ⟨fun w h => am_t1_5 (List.mem_of_mem_drop (List.mem_of_mem_take h)), List.forall_mem_cons.mpr ⟨fun w h => am_t1_6 (List.mem_of_mem_drop (List.mem_of_mem_take h)), List.forall_mem_cons.mpr ⟨fun w h => am_t1_6 (List.mem_of_mem_drop (List.mem_of_mem_take h)), List.forall_mem_cons.mpr ⟨fun w h => am_t1_6 (List.mem_of_mem_drop (List.mem_of_mem_take h)), List.forall_mem_cons.mpr ⟨fun w h => am_t1_6 (List.mem_of_mem_drop (List.mem_of_mem_take h)), List.forall_mem_cons.mpr ⟨fun w h => am_t1_6 (List.mem_of_mem_drop (List.mem_of_mem_take h)), List.forall_mem_cons.mpr ⟨fun w h => am_t1_7 (List.mem_of_mem_drop (List.mem_of_mem_take h)), List.forall_mem_cons.mpr ⟨fun w h => am_t1_7 (List.mem_of_mem_drop (List.mem_of_mem_take h)), List.forall_mem_cons.mpr ⟨fun w h => am_t1_7 (List.mem_of_mem_drop (List.mem_of_mem_take h)), List.forall_mem_cons.mpr ⟨fun w h => am_t1_7 (List.mem_of_mem_drop (List.mem_of_mem_take h)), List.forall_mem_cons.mpr ⟨fun w h => am_t1_7 (List.mem_of_mem_drop (List.mem_of_mem_take h)), List.forall_mem_cons.mpr ⟨fun w h => (List.mem_append.mp h).elim (fun h => am_t1_8 (List.mem_of_mem_drop h)) (fun h => List.mem_append_right _ h), fun _ h => nomatch h⟩⟩⟩⟩⟩⟩⟩⟩⟩⟩⟩⟩⟩⟩⟩⟩⟩⟩⟩⟩⟩⟩⟩⟩⟩⟩⟩⟩⟩⟩⟩⟩⟩⟩⟩⟩
def am_gt (k : Nat) : Option Cond := if k < 45 then (k2_sels lw_privs)[k]? else (am_tcs.getD ((k - 45) / 48) [])[(k - 45) % 48]?
theorem am_gt_mem {k : Nat} {w : Cond} (h : am_gt k = some w) : w ∈ am_tb := by
  unfold am_gt at h
  split at h
  · exact List.mem_append_left _ (List.mem_append_left _ (List.mem_of_getElem? h))
  · have hm := List.mem_of_getElem? h
    by_cases q : (k - 45) / 48 < am_tcs.length
    · rw [List.getD_eq_getElem?_getD, List.getElem?_eq_getElem q] at hm
      exact am_tcs_sub _ (List.getElem_mem q) w hm
    · rw [List.getD_eq_getElem?_getD, List.getElem?_eq_none (by omega)] at hm
      cases hm
def am_lw (w : Cond) (k : Nat) : Bool := decide (am_gt k = some w) && goodWord w
theorem am_lw_ok {w : Cond} {k : Nat} (h : am_lw w k = true) : w ∈ am_aw := by
  unfold am_lw at h
  simp only [Bool.and_eq_true, decide_eq_true_eq] at h
  exact List.mem_filter.mpr ⟨am_gt_mem h.1, h.2⟩
/-- words of nest mates' private members: they hold of the tables, not word by word -/
def am_xw : Cond → Bool
  | .fieldLinkNest _ _ _ _ _ _ => true
  | .methodLinkNest _ _ _ _ => true
  | _ => false
def am_nl : List Cond := lw_tbl.filter am_xw
def am_ln (w : Cond) (k : Nat) : Bool := decide (am_gt k = some w) && am_xw w
theorem am_ln_ok {w : Cond} {k : Nat} (h : am_ln w k = true) : w ∈ am_nl := by
  unfold am_ln at h
  simp only [Bool.and_eq_true, decide_eq_true_eq] at h
  rcases List.mem_append.mp (am_gt_mem h.1) with q | q
  · exact List.mem_filter.mpr ⟨q, h.2⟩
  · obtain ⟨z, -, rfl⟩ := List.mem_map.mp q
    have e : false = true := h.2
    cases e
def am_yy (m : Nat) : MethodName := (am_mt m).1
def am_by (m : Nat) : ByteArray := (am_mt m).2.1
def am_ry (m : Nat) : Option FieldType := (am_mt m).2.2.2.1
def am_hh (m : Nat) : List (Nat × Nat × Nat × Nat) := (am_mt m).2.2.2.2.2
def am_ow (m : Nat) : String := (am_yy m).cls
def am_cp (m : Nat) : Nat := am_cps.getD m 0
def am_cw (m : Nat) : Cond := if am_hh m = [] then .code (am_yy m) (am_by m) (am_ml m) (am_ry m) else .codeWith (am_yy m) (am_by m) (am_ml m) (am_ry m) (am_hh m)
def am_hosts : List String := ["Bumpward", "BumpwardModel", "BumpwardLaw", "java/util/ArrayList"]
/-- a callee: its code, its arguments -/
def am_cal (m n : Nat) : Bool := decide (am_ml m ≤ 100) && am_lw (am_cw m) (am_cp m) && plainName (am_ow m) && decide (am_ow m ≠ "java/lang/invoke/MethodHandle" ∧ am_ow m ≠ "java/lang/invoke/VarHandle") && decide ((parseMethodDescriptor (am_yy m).desc).map (fun d => d.parameters.length) = some n)
def am_tyl (t : Nat) : FieldType := if t = 0 then .int else if t = 1 then .long else if t = 2 then .boolean else if t = 3 then .byte else if t = 4 then .object "Bumpward$Walker" else if t = 5 then .object "java/lang/Object" else .array .int
/-- getfield, putfield -/
def am_lf (own : String) (x ci k p : Nat) (p2 : List Nat) : Bool := match am_cl[ci]? with
  | some (C, T, N) => decide (k < N) && (am_lw (.fieldLink own x (T k).1 (T k).2.1 (T k).2.2.1) p || am_hosts.any (fun h => am_ln (.fieldLinkNest own x (T k).1 (T k).2.1 (T k).2.2.1 h) p) ||
      (match p2 with | p' :: _ => am_lw (.fieldLink own x C (T k).2.1 (T k).2.2.1) p && am_lw (.sameField C (T k).1 (T k).2.1 (T k).2.2.1) p' | [] => false))
  | none => false
def am_lp (m ci k x q : Nat) : Bool := match am_cl[ci]? with
  | some (_, T, _) => !(T k).2.2.2 || (decide ((am_yy m).name = "<init>") && decide ((T k).1 = am_ow m) && am_lw (.fieldLink (am_ow m) x (T k).1 (T k).2.1 (T k).2.2.1) q)
  | none => false
/-- statics: references (by number), whole numbers -/
def am_stats : List (Nat × String × String × String) := [(0, "Bumpward$Grid", "OUTER", "[J"), (1, "java/util/ArrayList", "DEFAULTCAPACITY_EMPTY_ELEMENTDATA", "[Ljava/lang/Object;"), (2, "java/lang/Integer", "DigitOnes", "[B"), (3, "java/lang/Integer", "DigitTens", "[B"), (4, "jdk/internal/util/Preconditions", "SIOOBE_FORMATTER", "Ljava/util/function/BiFunction;")]
def am_stati : List (String × String × String × Nat) := [("java/lang/String", "COMPACT_STRINGS", "Z", 1)]
/-- who throws what, by which entry of its pool -/
def am_ths : List (String × Nat × String) := [("Bumpward", 227, "java/lang/IndexOutOfBoundsException"), ("Bumpward", 342, "java/lang/IllegalArgumentException"), ("Bumpward", 83, "java/lang/IllegalStateException")]
def am_tnm : List String := ["java/lang/RuntimeException", "java/lang/Exception"]
def am_lkN (m : Nat) (x : Nat) (an : List Nat) : Bool := match an with
  | 0 :: ci :: n :: p :: p1 :: p2 :: _ => match am_cl[ci]? with
    | some (C, _, N) => decide (n = N ∧ ci < 12) && am_lw (.classLink (am_ow m) x C) p && am_lw (.instantiable C N) p1 && am_lw (.initialized C) p2
    | none => false
  | [] => true
  | 0 :: _ => false
  | k :: z :: p :: p1 :: _ :: is :: ic :: _ => decide ((k = 1 ∨ k = 2) ∧ am_hh m = []) && am_lw (.classLink (am_ow m) x (am_xn z)) p && am_lw (.initialized (am_xn z)) p1 && decide ((am_ow m, ic, am_xn z) ∈ am_ths) && am_strs.any (fun q => decide (q.1 = am_ow m ∧ q.2.1 = is))
  | _ => false
def am_lkM (m : Nat) (x d : Nat) (an : List Nat) : Bool := match an with
  | 6 :: p :: _ :: p1 :: _ => decide (d = 2) && am_lw (.classLink (am_ow m) x "[[I") p && am_lw (.arrayClass .int) p1
  | _ => false
def am_lkS (m : Nat) (x : Nat) (an : List Nat) : Bool := match an with
  | 1 :: p :: p1 :: p2 :: p3 :: _ => am_lw (.methodLink (am_ow m) x Lib.Math.max.name) p && am_lw (.static Lib.Math.max.name) p1 && am_lw (.initialized "java/lang/Math") p2 && am_lw (.code Lib.Math.max.name Lib.Math.max.code 2 (some .int)) p3
  | 2 :: p :: p1 :: p2 :: p3 :: _ => am_lw (.methodLink (am_ow m) x Lib.Math.min.name) p && am_lw (.static Lib.Math.min.name) p1 && am_lw (.initialized "java/lang/Math") p2 && am_lw (.code Lib.Math.min.name Lib.Math.min.code 2 (some .int)) p3
  | 3 :: p :: p1 :: p2 :: p3 :: _ => am_lw (.methodLink (am_ow m) x Lib.Math.abs.name) p && am_lw (.static Lib.Math.abs.name) p1 && am_lw (.initialized "java/lang/Math") p2 && am_lw (.code Lib.Math.abs.name Lib.Math.abs.code 1 (some .int)) p3
  | 4 :: p :: p1 :: p2 :: p3 :: _ => am_lw (.methodLink (am_ow m) x arraycopyName) p && am_lw (.native arraycopyName) p1 && am_lw (.static arraycopyName) p2 && am_lw (.initialized "java/lang/System") p3
  | 0 :: m' :: n :: p :: p1 :: p2 :: _ => am_cal m' n && am_lw (.static (am_yy m')) p1 && am_lw (.initialized (am_ow m')) p2 && (am_lw (.methodLink (am_ow m) x (am_yy m')) p || (decide (am_hh m' = []) && am_hosts.any (fun h => am_ln (.methodLinkNest (am_ow m) x (am_yy m') h) p)))
  | [] => true
  | _ => false
def am_lkP (m : Nat) (x : Nat) (an : List Nat) : Bool := match an with
  | 1 :: p :: p1 :: p2 :: _ => am_lw (.methodLink (am_ow m) x objectInit) p && am_lw (.instanceMethod objectInit) p1 && am_lw (.code objectInit ⟨#[0xb1]⟩ 1 none) p2
  | 0 :: m' :: n :: p :: p1 :: p2 :: _ => am_cal m' n && decide ((am_yy m').name = "<init>" ∧ am_hh m' = [] ∧ am_ry m' = none) && am_lw (.instanceMethod (am_yy m')) p1 && am_lw (.initialized (am_ow m')) p2 && (am_lw (.methodLink (am_ow m) x (am_yy m')) p || am_hosts.any (fun h => am_ln (.methodLinkNest (am_ow m) x (am_yy m') h) p))
  | 2 :: m' :: n :: ci :: p :: p1 :: p2 :: p3 :: p4 :: _ => decide (ci < 12) && am_cal m' n && decide ((am_yy m').name ≠ "<init>" ∧ am_hh m' = []) && am_lw (.methodLink (am_ow m) x (am_yy m')) p && am_lw (.sameMethod (am_ow m') (am_ow m') (am_yy m').name (am_yy m').desc) p1 && am_lw (.superclass (am_ow m) (am_ow m')) p2 && am_lw (.instanceMethod (am_yy m')) p3 && am_lw (.initialized (am_ow m')) p4
  | [] => true
  | _ => false
/-- Iterator's members, and who they are -/
def am_ifs : List (String × MethodName × MethodName) := [("java/util/ArrayList$Itr", ⟨"java/util/Iterator", "hasNext", "()Z"⟩, ⟨"java/util/ArrayList$Itr", "hasNext", "()Z"⟩), ("java/util/ArrayList$Itr", ⟨"java/util/Iterator", "next", "()Ljava/lang/Object;"⟩, ⟨"java/util/ArrayList$Itr", "next", "()Ljava/lang/Object;"⟩)]
def am_lkF (m : Nat) (x : Nat) (an : List Nat) : Bool := match an with
  | 0 :: m' :: n :: ci :: p :: p1 :: p2 :: p3 :: _ => match am_cl[ci]? with
    | some (C, _, _) => am_cal m' n && decide (am_hh m' = []) && am_ifs.any (fun q => decide (q.1 = C ∧ q.2.2 = am_yy m') && am_lw (.methodLink (am_ow m) x q.2.1) p && am_lw (.selects C q.2.1 (am_yy m')) p1 && am_lw (.instanceMethod (am_yy m')) p2 && am_lw (.initialized (am_ow m')) p3)
    | none => false
  | [] => true
  | _ => false
def am_lkV (m : Nat) (x : Nat) (an : List Nat) : Bool := match an with
  | 1 :: p :: p1 :: p2 :: p3 :: p4 :: p5 :: _ => am_lw (.methodLink (am_ow m) x ⟨"[J", "clone", "()Ljava/lang/Object;"⟩) p && am_lw (.sameMethod "[J" "java/lang/Object" "clone" "()Ljava/lang/Object;") p1 && am_lw (.native ⟨"java/lang/Object", "clone", "()Ljava/lang/Object;"⟩) p2 && am_lw (.instanceMethod ⟨"java/lang/Object", "clone", "()Ljava/lang/Object;"⟩) p3 && am_lw (.selects "[J" ⟨"[J", "clone", "()Ljava/lang/Object;"⟩ ⟨"java/lang/Object", "clone", "()Ljava/lang/Object;"⟩) p4
  | 0 :: m' :: n :: ci :: p :: p1 :: p2 :: p3 :: _ => match am_cl[ci]? with
    | some (C, _, _) => am_cal m' n && decide (am_ow m' = C ∧ am_hh m' = []) && am_lw (.methodLink (am_ow m) x (am_yy m')) p && am_lw (.instanceMethod (am_yy m')) p1 && am_lw (.selects C (am_yy m') (am_yy m')) p2 && am_lw (.initialized C) p3
    | none => false
  | 3 :: m' :: n :: ci :: p :: p1 :: p2 :: p3 :: p4 :: p5 :: j :: _ => match am_cl[ci]? with
    | some (C, _, _) => am_cal m' n && decide (am_hh m' = []) && am_lw (.methodLink (am_ow m) x ⟨"java/lang/AbstractStringBuilder", (am_yy m').name, (am_yy m').desc⟩) p && am_lw (.sameMethod "java/lang/AbstractStringBuilder" "java/lang/AbstractStringBuilder" (am_yy m').name (am_yy m').desc) p1 && am_lw (.instanceMethod ⟨"java/lang/AbstractStringBuilder", (am_yy m').name, (am_yy m').desc⟩) p2 && am_lw (.selects C ⟨"java/lang/AbstractStringBuilder", (am_yy m').name, (am_yy m').desc⟩ (am_yy m')) p3 && am_lw (.instanceMethod (am_yy m')) p4 && am_lw (.initialized (am_ow m')) p5 && decide (am_yy j = ⟨"java/lang/AbstractStringBuilder", (am_yy m').name, (am_yy m').desc⟩ ∧ am_hh j = []) && am_lw (am_cw j) (am_cp j)
    | none => false
  | 2 :: m' :: n :: ci :: p :: p1 :: p2 :: p3 :: p4 :: _ => match am_cl[ci]? with
    | some (C, _, _) => am_cal m' n && decide (am_hh m' = []) && am_lw (.methodLink (am_ow m) x (am_yy m')) p && am_lw (.sameMethod (am_ow m') (am_ow m') (am_yy m').name (am_yy m').desc) p1 && am_lw (.selects C (am_yy m') (am_yy m')) p2 && am_lw (.instanceMethod (am_yy m')) p3 && am_lw (.initialized (am_ow m')) p4
    | none => false
  | [] => true
  | _ => false
def am_lk (m : Nat) (i : Instr) (an : List Nat) : Bool := match i with
  | .ldc x => match an with
    | 0 :: n :: p :: _ => am_lw (.constant (am_ow m) x (Int32.ofNat n)) p
    | 1 :: k :: _ => am_strs.any (fun q => decide (q.1 = am_ow m ∧ q.2.1 = x ∧ q.2.2.2 = k))
    | [] => true
    | _ => false
  | .ldc_w x => match an with
    | 0 :: n :: p :: _ => am_lw (.constant (am_ow m) x (Int32.ofNat n)) p
    | 1 :: k :: _ => am_strs.any (fun q => decide (q.1 = am_ow m ∧ q.2.1 = x ∧ q.2.2.2 = k))
    | [] => true
    | _ => false
  | .ldc2_w x => match an with
    | 0 :: n :: p :: _ => am_lw (.constantLong (am_ow m) x (Int64.ofNat n)) p
    | 1 :: n :: p :: _ => am_lw (.constantDouble (am_ow m) x (UInt64.ofNat n)) p
    | [] => true
    | _ => false
  | .getfield x => match an with
    | _ :: ci :: k :: p :: r => am_lf (am_ow m) x ci k p r
    | [] => true
    | _ => false
  | .putfield x => match an with
    | _ :: ci :: k :: p :: r => am_lf (am_ow m) x ci k p r && am_lp m ci k x p && decide (ci < 12)
    | [] => true
    | _ => false
  | .new x => am_lkN m x an
  | .newarray t => match an with
    | k :: p :: _ => decide (newarray.typeOf t = am_tyl k ∧ k < 4) && am_lw (.arrayClass (am_tyl k)) p
    | [] => true
    | _ => false
  | .invokestatic x => am_lkS m x an
  | .invokespecial x => am_lkP m x an
  | .invokevirtual x => am_lkV m x an
  | .invokeinterface x _ => am_lkF m x an
  | .getstatic x => match an with
    | 0 :: n :: p :: _ => am_stati.any (fun z => decide (z.2.2.2 = n) && am_lw (.fieldLink (am_ow m) x z.1 z.2.1 z.2.2.1) p)
    | 1 :: k :: p :: _ => am_stats.any (fun z => decide (z.1 = k) && am_lw (.fieldLink (am_ow m) x z.2.1 z.2.2.1 z.2.2.2) p)
    | [] => true
    | _ => false
  | .aastore => match an with
    | t :: ci :: p :: _ => (match am_cl[ci]? with
      | some (C, _, _) => decide (t = 4 ∧ C = "Bumpward$Walker") || decide (t = 5 ∧ C = "BumpwardModel$Walker" ∧ p = p)
      | none => false)
    | [] => true
    | _ => false
  | .anewarray x => match an with
    | t :: p :: _ => (decide (t = 4) && am_lw (.classLink (am_ow m) x "Bumpward$Walker") p) || (decide (t = 5) && am_lw (.classLink (am_ow m) x "java/lang/Object") p)
    | [] => true
    | _ => false
  | .multianewarray x d => am_lkM m x d an
  | .checkcast x => match an with
    | 0 :: ci :: p :: _ => (match am_cl[ci]? with
      | some (C, _, _) => am_lw (.classLink (am_ow m) x C) p
      | none => false)
    | 1 :: t :: p :: _ => decide (t < 7) && am_lw (.classLink (am_ow m) x ("[" ++ (am_tyl t).toString)) p
    | [] => true
    | _ => false
  | .instanceof x => match an with
    | 0 :: ci :: p :: _ => (match am_cl[ci]? with
      | some (C, _, _) => am_lw (.classLink (am_ow m) x C) p
      | none => false)
    | [] => true
    | _ => false
  | .baload => match an with
    | t :: _ => decide (t = 2 ∨ t = 3)
    | [] => true
  | .bastore => match an with
    | t :: _ => decide (t = 2 ∨ t = 3)
    | [] => true
  | .ireturn => match an with
    | t :: _ => decide (am_ry m = some (am_rt t) ∧ t < 4) || decide (4 ≤ t)
    | [] => true
  | .lreturn => decide (am_ry m = some .long)
  | .dreturn => decide (am_ry m = some .double)
  | .areturn => match am_ry m with
    | some (.object _) => true
    | some (.array _) => true
    | _ => false
  | .return_ => decide (am_ry m = none)
  | _ => true
/-- an instruction's length -/
def am_il : Instr → Nat
  | .bipush _ => 2
  | .ldc _ => 2
  | .iload _ => 2
  | .lload _ => 2
  | .dload _ => 2
  | .aload _ => 2
  | .istore _ => 2
  | .lstore _ => 2
  | .dstore _ => 2
  | .astore _ => 2
  | .newarray _ => 2
  | .sipush _ => 3
  | .ldc_w _ => 3
  | .ldc2_w _ => 3
  | .getfield _ => 3
  | .putfield _ => 3
  | .getstatic _ => 3
  | .goto _ => 3
  | .ifCond _ _ => 3
  | .if_icmp _ _ => 3
  | .if_acmp _ _ => 3
  | .ifnull _ => 3
  | .ifnonnull _ => 3
  | .iinc _ _ => 3
  | .new _ => 3
  | .anewarray _ => 3
  | .checkcast _ => 3
  | .instanceof _ => 3
  | .invokevirtual _ => 3
  | .invokespecial _ => 3
  | .invokestatic _ => 3
  | .multianewarray _ _ => 4
  | .invokeinterface _ _ => 5
  | _ => 1
def am_isw : Instr → Bool
  | .tableswitch _ _ _ _ => true
  | .lookupswitch _ _ => true
  | _ => false
/-- a fork's target is a place -/
def am_lj (m pc : Nat) (i : Instr) (an : List Nat) : Bool := match i with
  | .ifCond _ o => decide (0 ≤ (pc : Int) + o)
  | .if_icmp _ o => decide (0 ≤ (pc : Int) + o)
  | .if_acmp _ o => decide (0 ≤ (pc : Int) + o)
  | .new _ => match an with
    | 1 :: _ :: _ :: _ :: _ :: is :: ic :: _ => decide (decode (am_by m) (pc + 3) = .ok (.dup, 1)) && decide (decode (am_by m) (pc + 4) = .ok (.ldc is, 2)) && decide (decode (am_by m) (pc + 6) = .ok (.invokespecial ic, 3)) && decide (decode (am_by m) (pc + 9) = .ok (.athrow, 1))
    | 2 :: _ :: _ :: _ :: _ :: is :: ic :: _ => decide (decode (am_by m) (pc + 3) = .ok (.dup, 1)) && decide (decode (am_by m) (pc + 4) = .ok (.ldc_w is, 3)) && decide (decode (am_by m) (pc + 7) = .ok (.invokespecial ic, 3)) && decide (decode (am_by m) (pc + 10) = .ok (.athrow, 1))
    | _ => true
  | _ => true
def am_okr (m : Nat) (r : am_Row) : Bool := decide (decode (am_by m) r.1 = .ok (r.2.1, r.2.2.1)) && am_lk m r.2.1 r.2.2.2.1 && (am_isw r.2.1 || decide (r.2.2.1 = am_il r.2.1)) && am_lj m r.1 r.2.1 r.2.2.2.1
def am_okm (m : Nat) : Bool := (am_mth m).all (am_okr m)
/-- the store of what was caught, behind it nothing is alive -/
def am_stk : Instr → Option Nat
  | .astore k => some k
  | .astore_n k => some k.val
  | _ => none
def am_hck (m : Nat) : Bool := (am_hh m).all fun h => decide (h.2.2.2 ≠ 0) && (match am_fetch (am_mth m) h.2.2.1 with
  | some q => (match am_stk q.1 with
    | some k => decide (k < am_ml m) && (List.range (am_ml m)).all (fun i => (am_dead m (h.2.2.1 + q.2.1)).contains i)
    | none => false)
  | none => false) && decide (am_ct h.2.2.2 ∈ am_exn) && decide (Cond.classLink (am_ow m) h.2.2.2 (am_ct h.2.2.2) ∈ am_aw)
