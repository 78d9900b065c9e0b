/-! THE ABSTRACT MACHINE: methods by number, programs as tables, a world of cells by address; am_run is what a method does from a place of it. Mine. -/
abbrev am_En : Type := (Nat × vp_A) ⊕ (Nat × List Value)
/-- the cells by address, the next address, the slots made so far, the addresses of what stood there before (statics, literals) -/
abbrev am_Wd : Type := (Nat → Option am_En) × Nat × Nat × (Nat → Option Nat)
abbrev am_Lc : Type := List (Option Value)
/-- what a method answers, or the class of what it throws -/
abbrev am_Out : Type := Option Value ⊕ String
abbrev am_Rs : Type := Option (am_Out × am_Wd)
abbrev am_Act : Type := (Nat × am_Lc × List Value × am_Wd) ⊕ (Nat × List Value × Nat × List Value) ⊕ (am_Out × am_Wd)
abbrev am_Row : Type := Nat × Instr × Nat × List Nat × List Nat
def am_pt (w : am_Wd) (a : Nat) (e : am_En) : am_Wd := (fun b => if b = a then some e else w.1 b, w.2)
def am_nw (w : am_Wd) (e : am_En) (n : Nat) : am_Wd := (fun b => if b = w.2.1 then some e else w.1 b, w.2.1 + 1, w.2.2.1 + n, w.2.2.2)
def am_jk (w : am_Wd) (k n : Nat) : am_Wd := (w.1, w.2.1 + k, w.2.2.1 + n, w.2.2.2)
/-- of that class; 12: a String that stood there before -/
def am_cc (c ci : Nat) : Bool := Nat.beq c ci || (Nat.beq c 12 && Nat.beq ci 0)
/-- getfield -/
def am_gf (w : am_Wd) (a ci k : Nat) : Option Value := match w.1 a with
  | some (.inr (c, fs)) => if am_cc c ci = true then fs[k]? else none
  | _ => none
/-- putfield; what stood there before the law (class 12 and on) is read alone -/
def am_pf (w : am_Wd) (a ci k : Nat) (v : Value) : Option am_Wd := match w.1 a with
  | some (.inr (c, fs)) => if c = ci ∧ k < fs.length ∧ c < 12 then some (am_pt w a (.inr (c, fs.set k v))) else none
  | _ => none
/-- is it an object of that class -/
def am_kf (w : am_Wd) (a ci : Nat) : Option Unit := match w.1 a with
  | some (.inr (c, _)) => if am_cc c ci = true then some () else none
  | _ => none
/-- is it an array of that kind -/
def am_kt (w : am_Wd) (a t : Nat) : Option Unit := match w.1 a with
  | some (.inl (t', _)) => if t' = t then some () else none
  | _ => none
/-- arrays of 32 bits: int 0, boolean 2, byte 3; read alone: 8 more -/
def am_ri (t : Nat) (w : am_Wd) (a : Nat) (i : Int32) : Option Int32 := match w.1 a with
  | some (.inl (t', n, .inl f)) => if t' % 8 = t then (if i < 0 ∨ n ≤ i.toNatClampNeg then none else some (f i.toNatClampNeg)) else none
  | _ => none
def am_rl (w : am_Wd) (a : Nat) (i : Int32) : Option Int64 := match w.1 a with
  | some (.inl (t', n, .inr (.inl f))) => if t' = 1 then (if i < 0 ∨ n ≤ i.toNatClampNeg then none else some (f i.toNatClampNeg)) else none
  | _ => none
/-- arrays of references: Walker 4, Object 5, int[] 6 -/
def am_rq (w : am_Wd) (a : Nat) (i : Int32) : Option Value := match w.1 a with
  | some (.inl (t', n, .inr (.inr (.inr (.inr f))))) => if t' = 4 ∨ t' = 5 ∨ t' = 6 then (if i < 0 ∨ n ≤ i.toNatClampNeg then none else some (va_rf (f i.toNatClampNeg))) else none
  | _ => none
def am_wi (t : Nat) (w : am_Wd) (a : Nat) (i x : Int32) : Option am_Wd := match w.1 a with
  | some (.inl (t', n, .inl f)) => if t' = t then (if i < 0 ∨ n ≤ i.toNatClampNeg then none else some (am_pt w a (.inl (t', n, .inl (upd f i.toNatClampNeg x))))) else none
  | _ => none
def am_wl (w : am_Wd) (a : Nat) (i : Int32) (x : Int64) : Option am_Wd := match w.1 a with
  | some (.inl (t', n, .inr (.inl f))) => if t' = 1 then (if i < 0 ∨ n ≤ i.toNatClampNeg then none else some (am_pt w a (.inl (t', n, .inr (.inl (vp_updL f i.toNatClampNeg x)))))) else none
  | _ => none
/-- a reference to an object of class ci into an array of those, or of Object -/
def am_wq (t ci : Nat) (w : am_Wd) (a : Nat) (i : Int32) (b : Nat) : Option am_Wd := match w.1 a with
  | some (.inl (t', n, .inr (.inr (.inr (.inr f))))) => if t' = t ∧ 0 < ci ∧ ci < 12 then (if i < 0 ∨ n ≤ i.toNatClampNeg then none else (am_kf w b ci).bind fun _ => some (am_pt w a (.inl (t', n, .inr (.inr (.inr (.inr (va_up f i.toNatClampNeg (some b)))))))) ) else none
  | _ => none
def am_len (w : am_Wd) (a : Nat) : Option Nat := match w.1 a with
  | some (.inl (t, n, _)) => if t % 8 < 7 then some n else none
  | _ => none
/-- a new array's contents -/
def am_in (t : Nat) : (Nat → Int32) ⊕ (Nat → Int64) ⊕ (Nat → UInt32) ⊕ (Nat → UInt64) ⊕ (Nat → Option Nat) :=
  if t = 1 then .inr (.inl (fun _ => 0)) else if t < 4 then .inl (fun _ => 0) else .inr (.inr (.inr (.inr (fun _ => none))))
def am_na (w : am_Wd) (t : Nat) (n : Int32) : Option am_Wd := if n < 0 ∨ 4096 < n.toNatClampNeg then none else some (am_nw w (.inl (t, n.toNatClampNeg, am_in t)) n.toNatClampNeg)
/-- new int[n][k] -/
def am_rows (w : am_Wd) (k : Nat) : Nat → am_Wd
  | 0 => w
  | i + 1 => am_nw (am_rows w k i) (.inl (0, k, .inl (fun _ => 0))) k
def am_mn (w : am_Wd) (n k : Int32) : Option am_Wd := if n < 0 ∨ k < 0 ∨ 4096 < n.toNatClampNeg ∨ 4096 < k.toNatClampNeg then none else
  some (am_rows (am_nw w (.inl (6, n.toNatClampNeg, .inr (.inr (.inr (.inr (fun i => if i < n.toNatClampNeg then some (w.2.1 + 1 + i) else none)))))) n.toNatClampNeg) k.toNatClampNeg n.toNatClampNeg)
/-- what a field, or an answer, of that type may hold -/
def am_ok : FieldType → Value → Bool
  | .int, .int _ => true
  | .long, .long _ => true
  | .double, .double _ => true
  | .object _, .null => true
  | .object _, .ref _ => true
  | .array _, .null => true
  | .array _, .ref _ => true
  | .boolean, .int x => decide (x = 0 ∨ x = 1)
  | .byte, .int x => decide (-128 ≤ x ∧ x ≤ 127)
  | .char, .int x => decide (0 ≤ x ∧ x ≤ 65535)
  | _, _ => false
/-- arraycopy between arrays of bytes -/
def am_cy (w : am_Wd) (a0 : Nat) (sp : Int32) (a : Nat) (dp n : Int32) : Option am_Wd := match w.1 a0, w.1 a with
  | some (.inl (t0, n0, .inl f)), some (.inl (t1, n1, .inl g)) => if (t0 % 8 = 3 ∧ t1 = 3 ∧ ¬ sp < 0 ∧ ¬ dp < 0 ∧ ¬ n < 0) ∧ (sp.toNatClampNeg + n.toNatClampNeg ≤ n0 ∧ dp.toNatClampNeg + n.toNatClampNeg ≤ n1) ∧ (∀ i, i < n.toNatClampNeg → am_ok .byte (.int (f (sp.toNatClampNeg + i))) = true) then
      some (am_pt w a (.inl (t1, n1, .inl (va_cpy f g sp.toNatClampNeg dp.toNatClampNeg n.toNatClampNeg)))) else none
  | _, _ => none
/-- a jump's place -/
def am_tg (pc : Nat) (off : Int) : Option Nat := match (pc : Int) + off with
  | .ofNat t => some t
  | .negSucc _ => none
def am_sw (x : Int32) (d : Int) : List (Int × Int) → Int
  | [] => d
  | q :: r => if x.toInt = q.1 then q.2 else am_sw x d r
def am_at (ls : am_Lc) (i : Nat) : Option Value := match ls[i]? with
  | some (some v) => some v
  | _ => none
def am_c2 (v : Value) : Bool := match v with
  | .long _ => true
  | .double _ => true
  | _ => false
/-- the place ahead holds no long: else it would go -/
def am_c1 (ls : am_Lc) (i : Nat) : Bool := match i with
  | 0 => true
  | j + 1 => match ls[j]? with
    | some (some v) => !(am_c2 v)
    | _ => true
def am_s1 (ls : am_Lc) (i : Nat) (v : Value) : Option am_Lc := if i < ls.length ∧ am_c1 ls i = true then some (ls.set i (some v)) else none
def am_s2 (ls : am_Lc) (i : Nat) (v : Value) : Option am_Lc := if i + 1 < ls.length ∧ am_c1 ls i = true then some ((ls.set i (some v)).set (i + 1) none) else none
def am_sz (st : List Value) : Nat := (st.map fun v => v.category).sum
def am_nx (pc : Nat) (ls : am_Lc) (st : List Value) (w : am_Wd) : Option am_Act := some (.inl (pc, ls, st, w))
def am_br (c : Bool) (pc : Nat) (off : Int) (ls : am_Lc) (st : List Value) (w : am_Wd) : Option am_Act := if c = true then (am_tg pc off).bind fun t => am_nx t ls st w else am_nx (pc + 3) ls st w
def am_cd (c : Jvm.ClassFile.Cond) (x y : Int32) : Bool := match c with
  | .eq => decide (x = y)
  | .ne => decide (¬ x = y)
  | .lt => decide (x < y)
  | .ge => decide (y ≤ x)
  | .gt => decide (y < x)
  | .le => decide (x ≤ y)
/-- the types of the fields -/
def am_ty (ci : Nat) : Nat → FieldType := match ci with
  | 0 => tyJ0
  | 1 => tyJ4
  | 2 => tyJx35411
  | 3 => tyJx4a65c
  | 4 => tyX0
  | 5 => tyX1
  | 6 => tyX3
  | 7 => tyX4
  | 8 => tyX5
  | 9 => tyX6
  | 10 => tyX7
  | 11 => tyX8
  | _ => tyJ0
def am_df (ci n : Nat) : List Value := (List.range n).map fun k => defaultValue (am_ty ci k)
def am_rt (k : Nat) : FieldType := if k = 0 then .int else if k = 1 then .boolean else if k = 2 then .char else .byte
/-- what is thrown -/
def am_xn (x : Nat) : String := if x = 0 then "java/lang/IndexOutOfBoundsException" else if x = 1 then "java/lang/IllegalArgumentException" else "java/lang/IllegalStateException"
/-- one instruction at its place: on, or a call, or the end. an: what the table says beside it -/
def am_stp (pc : Nat) (i : Instr) (an : List Nat) (ls : am_Lc) (st : List Value) (w : am_Wd) : Option am_Act := match i with
  | .iconst n => am_nx (pc + 1) ls (.int (Int32.ofInt n) :: st) w
  | .bipush n => am_nx (pc + 2) ls (.int (Int8.ofInt n).toInt32 :: st) w
  | .sipush n => am_nx (pc + 3) ls (.int (Int16.ofInt n).toInt32 :: st) w
  | .lconst n => am_nx (pc + 1) ls (.long (Int64.ofNat n.val) :: st) w
  | .dconst n => if n = 0 then am_nx (pc + 1) ls (.double FP.dconst0 :: st) w else none
  | .aconst_null => am_nx (pc + 1) ls (.null :: st) w
  | .ldc _ => match an with
    | 0 :: n :: _ => am_nx (pc + 2) ls (.int (Int32.ofNat n) :: st) w
    | 1 :: k :: _ => am_nx (pc + 2) ls (va_rf (w.2.2.2 k) :: st) w
    | _ => none
  | .ldc_w _ => match an with
    | 0 :: n :: _ => am_nx (pc + 3) ls (.int (Int32.ofNat n) :: st) w
    | 1 :: k :: _ => am_nx (pc + 3) ls (va_rf (w.2.2.2 k) :: st) w
    | _ => none
  | .ldc2_w _ => match an with
    | 0 :: n :: _ => am_nx (pc + 3) ls (.long (Int64.ofNat n) :: st) w
    | 1 :: n :: _ => am_nx (pc + 3) ls (.double (UInt64.ofNat n) :: st) w
    | _ => none
  | .iload k => match am_at ls k with
    | some (.int x) => am_nx (pc + 2) ls (.int x :: st) w
    | _ => none
  | .iload_n k => match am_at ls k.val with
    | some (.int x) => am_nx (pc + 1) ls (.int x :: st) w
    | _ => none
  | .lload k => match am_at ls k with
    | some (.long x) => am_nx (pc + 2) ls (.long x :: st) w
    | _ => none
  | .lload_n k => match am_at ls k.val with
    | some (.long x) => am_nx (pc + 1) ls (.long x :: st) w
    | _ => none
  | .dload k => match am_at ls k with
    | some (.double x) => am_nx (pc + 2) ls (.double x :: st) w
    | _ => none
  | .aload k => match am_at ls k with
    | some (.ref x) => am_nx (pc + 2) ls (.ref x :: st) w
    | some .null => am_nx (pc + 2) ls (.null :: st) w
    | _ => none
  | .aload_n k => match am_at ls k.val with
    | some (.ref x) => am_nx (pc + 1) ls (.ref x :: st) w
    | some .null => am_nx (pc + 1) ls (.null :: st) w
    | _ => none
  | .istore k => match st with
    | .int x :: r => (am_s1 ls k (.int x)).bind fun l => am_nx (pc + 2) l r w
    | _ => none
  | .istore_n k => match st with
    | .int x :: r => (am_s1 ls k.val (.int x)).bind fun l => am_nx (pc + 1) l r w
    | _ => none
  | .lstore k => match st with
    | .long x :: r => (am_s2 ls k (.long x)).bind fun l => am_nx (pc + 2) l r w
    | _ => none
  | .lstore_n k => match st with
    | .long x :: r => (am_s2 ls k.val (.long x)).bind fun l => am_nx (pc + 1) l r w
    | _ => none
  | .dstore k => match st with
    | .double x :: r => (am_s2 ls k (.double x)).bind fun l => am_nx (pc + 2) l r w
    | _ => none
  | .astore k => match st with
    | .ref x :: r => (am_s1 ls k (.ref x)).bind fun l => am_nx (pc + 2) l r w
    | .null :: r => (am_s1 ls k .null).bind fun l => am_nx (pc + 2) l r w
    | _ => none
  | .astore_n k => match st with
    | .ref x :: r => (am_s1 ls k.val (.ref x)).bind fun l => am_nx (pc + 1) l r w
    | .null :: r => (am_s1 ls k.val .null).bind fun l => am_nx (pc + 1) l r w
    | _ => none
  | .iinc k n => match am_at ls k with
    | some (.int x) => (am_s1 ls k (.int (x + Int32.ofInt n))).bind fun l => am_nx (pc + 3) l st w
    | _ => none
  | .iadd => match st with
    | .int y :: .int x :: r => am_nx (pc + 1) ls (.int (x + y) :: r) w
    | _ => none
  | .isub => match st with
    | .int y :: .int x :: r => am_nx (pc + 1) ls (.int (x - y) :: r) w
    | _ => none
  | .imul => match st with
    | .int y :: .int x :: r => am_nx (pc + 1) ls (.int (x * y) :: r) w
    | _ => none
  | .idiv => match st with
    | .int y :: .int x :: r => if y = 0 then none else am_nx (pc + 1) ls (.int (x / y) :: r) w
    | _ => none
  | .irem => match st with
    | .int y :: .int x :: r => if y = 0 then none else am_nx (pc + 1) ls (.int (x - x / y * y) :: r) w
    | _ => none
  | .ineg => match st with
    | .int x :: r => am_nx (pc + 1) ls (.int (-x) :: r) w
    | _ => none
  | .iand => match st with
    | .int y :: .int x :: r => am_nx (pc + 1) ls (.int (x &&& y) :: r) w
    | _ => none
  | .ior => match st with
    | .int y :: .int x :: r => am_nx (pc + 1) ls (.int (x ||| y) :: r) w
    | _ => none
  | .ixor => match st with
    | .int y :: .int x :: r => am_nx (pc + 1) ls (.int (x ^^^ y) :: r) w
    | _ => none
  | .ishl => match st with
    | .int y :: .int x :: r => am_nx (pc + 1) ls (.int (x <<< (y &&& 31)) :: r) w
    | _ => none
  | .ishr => match st with
    | .int y :: .int x :: r => am_nx (pc + 1) ls (.int (x >>> (y &&& 31)) :: r) w
    | _ => none
  | .iushr => match st with
    | .int y :: .int x :: r => am_nx (pc + 1) ls (.int (x.toUInt32 >>> (y.toUInt32 &&& Int32.toUInt32 31)).toInt32 :: r) w
    | _ => none
  | .ladd => match st with
    | .long y :: .long x :: r => am_nx (pc + 1) ls (.long (x + y) :: r) w
    | _ => none
  | .lsub => match st with
    | .long y :: .long x :: r => am_nx (pc + 1) ls (.long (x - y) :: r) w
    | _ => none
  | .lmul => match st with
    | .long y :: .long x :: r => am_nx (pc + 1) ls (.long (x * y) :: r) w
    | _ => none
  | .land => match st with
    | .long y :: .long x :: r => am_nx (pc + 1) ls (.long (x &&& y) :: r) w
    | _ => none
  | .lor => match st with
    | .long y :: .long x :: r => am_nx (pc + 1) ls (.long (x ||| y) :: r) w
    | _ => none
  | .lxor => match st with
    | .long y :: .long x :: r => am_nx (pc + 1) ls (.long (x ^^^ y) :: r) w
    | _ => none
  | .lshl => match st with
    | .int y :: .long x :: r => am_nx (pc + 1) ls (.long (x <<< (y.toInt64 &&& 63)) :: r) w
    | _ => none
  | .lushr => match st with
    | .int y :: .long x :: r => am_nx (pc + 1) ls (.long (x.toUInt64 >>> (y.toInt64.toUInt64 &&& Int64.toUInt64 63)).toInt64 :: r) w
    | _ => none
  | .lcmp => match st with
    | .long y :: .long x :: r => am_nx (pc + 1) ls (.int (lg_cmp x y) :: r) w
    | _ => none
  | .i2l => match st with
    | .int x :: r => am_nx (pc + 1) ls (.long x.toInt64 :: r) w
    | _ => none
  | .l2i => match st with
    | .long x :: r => am_nx (pc + 1) ls (.int x.toInt32 :: r) w
    | _ => none
  | .i2b => match st with
    | .int x :: r => am_nx (pc + 1) ls (.int x.toInt8.toInt32 :: r) w
    | _ => none
  | .i2c => match st with
    | .int x :: r => am_nx (pc + 1) ls (.int (x.toUInt32 % 65536).toInt32 :: r) w
    | _ => none
  | .i2d => match st with
    | .int x :: r => am_nx (pc + 1) ls (.double (FP.i2d x) :: r) w
    | _ => none
  | .d2l => match st with
    | .double x :: r => am_nx (pc + 1) ls (.long (FP.d2l x) :: r) w
    | _ => none
  | .ddiv => match st with
    | .double y :: .double x :: r => if (FP.ddiv x y) &&& 0x7fffffffffffffff ≤ 0x7ff0000000000000 then am_nx (pc + 1) ls (.double (FP.ddiv x y) :: r) w else none
    | _ => none
  | .dmul => match st with
    | .double y :: .double x :: r => if (FP.dmul x y) &&& 0x7fffffffffffffff ≤ 0x7ff0000000000000 then am_nx (pc + 1) ls (.double (FP.dmul x y) :: r) w else none
    | _ => none
  | .dcmp o => match st with
    | .double y :: .double x :: r => am_nx (pc + 1) ls (.int (Op.cmpValue (FP.dcmp x y) o) :: r) w
    | _ => none
  | .dup => match st with
    | v :: r => if am_c2 v = true then none else am_nx (pc + 1) ls (v :: v :: r) w
    | _ => none
  | .dup_x1 => match st with
    | v :: u :: r => if am_c2 v = true ∨ am_c2 u = true then none else am_nx (pc + 1) ls (v :: u :: v :: r) w
    | _ => none
  | .dup2 => match st with
    | v :: u :: r => if am_c2 v = true then am_nx (pc + 1) ls (v :: v :: u :: r) w else if am_c2 u = true then none else am_nx (pc + 1) ls (v :: u :: v :: u :: r) w
    | _ => none
  | .pop => match st with
    | v :: r => if am_c2 v = true then none else am_nx (pc + 1) ls r w
    | _ => none
  | .pop2 => match st with
    | v :: r => if am_c2 v = true then am_nx (pc + 1) ls r w else none
    | _ => none
  | .goto o => (am_tg pc o).bind fun t => am_nx t ls st w
  | .ifCond c o => match st with
    | .int x :: r => am_br (am_cd c x 0) pc o ls r w
    | _ => none
  | .if_icmp c o => match st with
    | .int y :: .int x :: r => am_br (am_cd c x y) pc o ls r w
    | _ => none
  | .if_acmp c o => match st with
    | .ref y :: .ref x :: r => am_br (match c with | .eq => decide (x = y) | .ne => decide (¬ x = y)) pc o ls r w
    | _ => none
  | .ifnull o => match st with
    | .ref _ :: r => am_nx (pc + 3) ls r w
    | .null :: r => (am_tg pc o).bind fun t => am_nx t ls r w
    | _ => none
  | .ifnonnull o => match st with
    | .ref _ :: r => (am_tg pc o).bind fun t => am_nx t ls r w
    | .null :: r => am_nx (pc + 3) ls r w
    | _ => none
  | .lookupswitch d ps => match st with
    | .int x :: r => if (ps.toList.zip (ps.toList.drop 1)).all (fun q => q.1.1 < q.2.1) = true then (am_tg pc (am_sw x d ps.toList)).bind fun t => am_nx t ls r w else none
    | _ => none
  | .tableswitch d lo hi os => match st with
    | .int x :: r => if hi = lo + os.size - 1 then (am_tg pc (am_sw x d (os.toList.zipIdx.map fun q => (lo + q.2, q.1)))).bind fun t => am_nx t ls r w else none
    | _ => none
  | .getfield _ => match an with
    | _ :: ci :: k :: _ => match st with
      | .ref a :: r => (am_gf w a ci k).bind fun v => am_nx (pc + 3) ls (v :: r) w
      | _ => none
    | _ => none
  | .putfield _ => match an with
    | _ :: ci :: k :: _ => match st with
      | v :: .ref a :: r => if am_ok (am_ty ci k) v = true then (am_pf w a ci k v).bind fun w' => am_nx (pc + 3) ls r w' else none
      | _ => none
    | _ => none
  | .getstatic _ => match an with
    | 0 :: n :: _ => am_nx (pc + 3) ls (.int (Int32.ofNat n) :: st) w
    | 1 :: k :: _ => am_nx (pc + 3) ls (va_rf (w.2.2.2 k) :: st) w
    | _ => none
  | .iaload => match st with
    | .int i :: .ref a :: r => (am_ri 0 w a i).bind fun x => am_nx (pc + 1) ls (.int x :: r) w
    | _ => none
  | .baload => match an with
    | t :: _ => match st with
      | .int i :: .ref a :: r => (am_ri t w a i).bind fun x => am_nx (pc + 1) ls (.int x :: r) w
      | _ => none
    | _ => none
  | .laload => match st with
    | .int i :: .ref a :: r => (am_rl w a i).bind fun x => am_nx (pc + 1) ls (.long x :: r) w
    | _ => none
  | .aaload => match st with
    | .int i :: .ref a :: r => (am_rq w a i).bind fun x => am_nx (pc + 1) ls (x :: r) w
    | _ => none
  | .iastore => match st with
    | .int x :: .int i :: .ref a :: r => (am_wi 0 w a i x).bind fun w' => am_nx (pc + 1) ls r w'
    | _ => none
  | .bastore => match an with
    | t :: _ => match st with
      | .int x :: .int i :: .ref a :: r => (am_wi t w a i (vp_nar (if t = 2 then .boolean else .byte) x)).bind fun w' => am_nx (pc + 1) ls r w'
      | _ => none
    | _ => none
  | .lastore => match st with
    | .long x :: .int i :: .ref a :: r => (am_wl w a i x).bind fun w' => am_nx (pc + 1) ls r w'
    | _ => none
  | .aastore => match an with
    | t :: ci :: _ => match st with
      | .ref b :: .int i :: .ref a :: r => (am_wq t ci w a i b).bind fun w' => am_nx (pc + 1) ls r w'
      | _ => none
    | _ => none
  | .arraylength => match st with
    | .ref a :: r => (am_len w a).bind fun n => am_nx (pc + 1) ls (.int (Int32.ofNat n) :: r) w
    | _ => none
  | .newarray _ => match an with
    | t :: _ => match st with
      | .int n :: r => (am_na w t n).bind fun w' => am_nx (pc + 2) ls (.ref w.2.1 :: r) w'
      | _ => none
    | _ => none
  | .anewarray _ => match an with
    | t :: _ => match st with
      | .int n :: r => (am_na w t n).bind fun w' => am_nx (pc + 3) ls (.ref w.2.1 :: r) w'
      | _ => none
    | _ => none
  | .multianewarray _ _ => match st with
    | .int k :: .int n :: r => (am_mn w n k).bind fun w' => am_nx (pc + 4) ls (.ref w.2.1 :: r) w'
    | _ => none
  | .new _ => match an with
    | 0 :: ci :: n :: _ => am_nx (pc + 3) ls (.ref w.2.1 :: st) (am_nw w (.inr (ci, am_df ci n)) n)
    | _ :: x :: _ => if am_sz st ≤ 8 then some (.inr (.inr (.inr (am_xn x), am_jk w 1 6))) else none
    | _ => none
  | .checkcast _ => match an with
    | 0 :: ci :: _ => match st with
      | .ref a :: r => (am_kf w a ci).bind fun _ => am_nx (pc + 3) ls (.ref a :: r) w
      | _ => none
    | 1 :: t :: _ => match st with
      | .ref a :: r => (am_kt w a t).bind fun _ => am_nx (pc + 3) ls (.ref a :: r) w
      | _ => none
    | _ => none
  | .instanceof _ => match an with
    | 0 :: ci :: _ => match st with
      | .ref a :: r => (am_kf w a ci).bind fun _ => am_nx (pc + 3) ls (.int 1 :: r) w
      | _ => none
    | _ => none
  | .invokevirtual _ => match an with
    | 1 :: _ => match st with
      | .ref a :: r => if am_sz r ≤ 8 then (match w.1 a with
        | some (.inl (t, n, .inr (.inl x))) => if t = 9 then am_nx (pc + 3) ls (.ref w.2.1 :: r) (am_nw w (.inl (1, n, .inr (.inl x))) n) else none
        | _ => none) else none
      | _ => none
    | _ :: m' :: n :: ci :: _ => match st.drop n with
      | .ref b :: r => if n ≤ st.length ∧ am_sz r ≤ 8 then (am_kf w b ci).bind fun _ => some (.inr (.inl (m', .ref b :: (st.take n).reverse, pc + 3, r))) else none
      | _ => none
    | _ => none
  | .invokeinterface _ _ => match an with
    | _ :: m' :: n :: ci :: _ => match st.drop n with
      | .ref b :: r => if n ≤ st.length ∧ am_sz r ≤ 8 then (am_kf w b ci).bind fun _ => some (.inr (.inl (m', .ref b :: (st.take n).reverse, pc + 5, r))) else none
      | _ => none
    | _ => none
  | .invokespecial _ => match an with
    | 1 :: _ => match st with
      | .ref _ :: r => if am_sz r ≤ 8 then am_nx (pc + 3) ls r w else none
      | _ => none
    | 2 :: m' :: n :: ci :: _ => match st.drop n with
      | .ref b :: r => if n ≤ st.length ∧ am_sz r ≤ 8 then (am_kf w b ci).bind fun _ => some (.inr (.inl (m', .ref b :: (st.take n).reverse, pc + 3, r))) else none
      | _ => none
    | _ :: m' :: n :: _ => match st.drop n with
      | .ref b :: r => if n ≤ st.length ∧ am_sz r ≤ 8 then some (.inr (.inl (m', .ref b :: (st.take n).reverse, pc + 3, r))) else none
      | _ => none
    | _ => none
  | .invokestatic _ => match an with
    | 1 :: _ => match st with
      | .int y :: .int x :: r => if am_sz r ≤ 8 then am_nx (pc + 3) ls (.int (if x < y then y else x) :: r) w else none
      | _ => none
    | 2 :: _ => match st with
      | .int y :: .int x :: r => if am_sz r ≤ 8 then am_nx (pc + 3) ls (.int (if y < x then y else x) :: r) w else none
      | _ => none
    | 3 :: _ => match st with
      | .int x :: r => if am_sz r ≤ 8 then am_nx (pc + 3) ls (.int (if 0 ≤ x then x else 0 - x) :: r) w else none
      | _ => none
    | 4 :: _ => match st with
      | .int n :: .int dp :: .ref a :: .int sp :: .ref a0 :: r => if am_sz r ≤ 8 then (am_cy w a0 sp a dp n).bind fun w' => am_nx (pc + 3) ls r w' else none
      | _ => none
    | _ :: m' :: n :: _ => if n ≤ st.length ∧ am_sz (st.drop n) ≤ 8 then some (.inr (.inl (m', (st.take n).reverse, pc + 3, st.drop n))) else none
    | _ => none
  | .ireturn => match an with
    | t :: _ => match st with
      | [.int v] => if t < 4 ∧ am_ok (am_rt t) (.int v) = true then some (.inr (.inr (.inl (some (.int v)), w))) else none
      | _ => none
    | _ => none
  | .lreturn => match st with
    | [.long v] => some (.inr (.inr (.inl (some (.long v)), w)))
    | _ => none
  | .dreturn => match st with
    | [.double v] => some (.inr (.inr (.inl (some (.double v)), w)))
    | _ => none
  | .areturn => match st with
    | [.ref v] => some (.inr (.inr (.inl (some (.ref v)), w)))
    | _ => none
  | .return_ => match st with
    | [] => some (.inr (.inr (.inl none, w)))
    | _ => none
  | _ => none
/-- where statics and literals lie; what stood there before and is read alone -/
abbrev am_Sg : Type := (Nat → Option Nat) × (Nat → Option am_En)
