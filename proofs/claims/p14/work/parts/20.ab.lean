/-! THE SYMBOLIC EXECUTOR: one instruction on symbols. Mine. -/
def am_le (a b : Int) : Bool := match a, b with
  | .ofNat m, .ofNat n => Nat.ble m n
  | .ofNat _, .negSucc _ => false
  | .negSucc _, .ofNat _ => true
  | .negSucc m, .negSucc n => Nat.ble n m
def am_lt (a b : Int) : Bool := !(am_le b a)
def am_ie (a b : Int) : Bool := match a, b with
  | .ofNat m, .ofNat n => Nat.beq m n
  | .negSucc m, .negSucc n => Nat.beq m n
  | _, _ => false
def am_oe (a b : Option Nat) : Bool := match a, b with
  | none, none => true
  | some m, some n => Nat.beq m n
  | _, _ => false
def am_qe (q r : am_I) : Bool := am_oe q.1 r.1 && am_ie q.2 r.2
def am_bd (E : am_Ev) (q : am_I) : Int × Int := match q.1 with
  | none => (q.2, q.2)
  | some i => match E[i]? with
    | some b => (b.1 + q.2, b.2 + q.2)
    | none => (q.2, q.2)
def am_rS (v : am_SV) : Bool := match v with
  | .inl _ => false
  | .inr (.inl t) => Nat.beq t 1 || Nat.beq t 2
  | .inr (.inr (.inl _)) => true
  | .inr (.inr (.inr (.inl _))) => true
  | .inr (.inr (.inr (.inr _))) => false
/-- a long or a double -/
def am_cS (v : am_SV) : Bool := match v with
  | .inl _ => false
  | .inr (.inl t) => Nat.beq t 0 || Nat.beq t 3
  | .inr (.inr (.inl _)) => false
  | .inr (.inr (.inr (.inl _))) => false
  | .inr (.inr (.inr (.inr _))) => true
def am_dS (v : am_SV) : Bool := match v with
  | .inr (.inl t) => Nat.beq t 3
  | .inr (.inr (.inr (.inr _))) => true
  | _ => false
def am_aS (ls : am_SL) (k : Nat) : Option am_SV := match ls[k]? with
  | some (some v) => some v
  | _ => none
def am_c1S (ls : am_SL) (i : Nat) : Bool := match i with
  | 0 => true
  | j + 1 => match ls[j]? with
    | some (some v) => !(am_cS v)
    | _ => true
def am_s1S (ls : am_SL) (i : Nat) (v : am_SV) : Option am_SL := if (Nat.blt i ls.length && am_c1S ls i) = true then some (ls.set i (some v)) else none
def am_s2S (ls : am_SL) (i : Nat) (v : am_SV) : Option am_SL := if (Nat.blt (i + 1) ls.length && am_c1S ls i) = true then some ((ls.set i (some v)).set (i + 1) none) else none
def am_szS : List am_SV → Nat
  | [] => 0
  | v :: t => (match am_cS v with | true => 2 | false => 1) + am_szS t
/-- a new unknown between bounds -/
def am_fr (h : am_Hp) (lo hi : Int) : am_I × am_Hp := if am_ie lo hi = true then ((none, lo), h) else ((some h.1.length, 0), (h.1 ++ [(lo, hi)], h.2))
def am_kn (E : am_Ev) (q : am_I) : Option Int := match q.1 with
  | none => some q.2
  | some _ => if am_ie (am_bd E q).1 (am_bd E q).2 = true then some (am_bd E q).1 else none
def am_full (_ _ : Int × Int) : Int × Int := (am_lo, am_hi)
/-- what was made of the same two before -/
def am_find (k : Nat) (q r : am_I) : am_Rl → Option am_I
  | [] => none
  | z :: t => if (Nat.beq z.1 k && am_qe z.2.1 q && am_qe z.2.2.1 r) = true then some z.2.2.2 else am_find k q r t
def am_rl1 (h : am_Hp) (z : Nat × am_I × am_I × am_I) : am_Hp := (h.1, h.2.1, z :: h.2.2.1, h.2.2.2)
/-- the operations whose answers are kept: 1 sum, 2 product, 5 quotient, 6 rest -/
def am_f2 (k : Nat) (x y : Int32) : Int32 := if k = 1 then x + y else if k = 2 then x * y else if k = 5 then x / y else x - x / y * y
def am_memo (k : Nat) (h : am_Hp) (q r : am_I) (b : Int × Int) : am_I × am_Hp := match am_find k q r h.2.2.1 with
  | some x => (x, h)
  | none => match am_fr h b.1 b.2 with
    | (x, h') => if am_ie b.1 b.2 = true then (x, h') else (x, am_rl1 h' (k, q, r, x))
def am_m2 (k : Nat) (g : Int × Int → Int × Int → Int × Int) (h : am_Hp) (q r : am_I) : am_I × am_Hp := match am_kn h.1 q, am_kn h.1 r with
  | some a, some b => ((none, (am_f2 k (Int32.ofInt a) (Int32.ofInt b)).toInt), h)
  | _, _ => am_memo k h q r (g (am_bd h.1 q) (am_bd h.1 r))
def am_o2 (f : Int32 → Int32 → Int32) (g : Int × Int → Int × Int → Int × Int) (h : am_Hp) (q r : am_I) : am_I × am_Hp := match am_kn h.1 q, am_kn h.1 r with
  | some a, some b => ((none, (f (Int32.ofInt a) (Int32.ofInt b)).toInt), h)
  | _, _ => am_fr h (g (am_bd h.1 q) (am_bd h.1 r)).1 (g (am_bd h.1 q) (am_bd h.1 r)).2
def am_o1 (f : Int32 → Int32) (g : Int × Int → Int × Int) (h : am_Hp) (q : am_I) : am_I × am_Hp := match am_kn h.1 q with
  | some a => ((none, (f (Int32.ofInt a)).toInt), h)
  | none => am_fr h (g (am_bd h.1 q)).1 (g (am_bd h.1 q)).2
def am_gadd (a b : Int × Int) : Int × Int := if (am_le am_lo (a.1 + b.1) && am_le (a.2 + b.2) am_hi) = true then (a.1 + b.1, a.2 + b.2) else (am_lo, am_hi)
def am_gsub (a b : Int × Int) : Int × Int := if (am_le am_lo (a.1 - b.2) && am_le (a.2 - b.1) am_hi) = true then (a.1 - b.2, a.2 - b.1) else (am_lo, am_hi)
def am_add (h : am_Hp) (q r : am_I) : am_I × am_Hp :=
  if (am_le am_lo ((am_bd h.1 q).1 + (am_bd h.1 r).1) && am_le ((am_bd h.1 q).2 + (am_bd h.1 r).2) am_hi) = true then
    (match r.1, q.1 with
    | none, i => ((i, q.2 + r.2), h)
    | some j, none => ((some j, q.2 + r.2), h)
    | some _, some _ => am_m2 1 am_gadd h q r)
  else am_m2 1 am_gadd h q r
def am_sub (h : am_Hp) (q r : am_I) : am_I × am_Hp :=
  if (am_le am_lo ((am_bd h.1 q).1 - (am_bd h.1 r).2) && am_le ((am_bd h.1 q).2 - (am_bd h.1 r).1) am_hi) = true then
    (match r.1 with
    | none => ((q.1, q.2 - r.2), h)
    | some _ => am_o2 (· - ·) am_gsub h q r)
  else am_o2 (· - ·) am_gsub h q r
def am_gmul (a b : Int × Int) : Int × Int := if (am_le 0 a.1 && am_le 0 b.1 && am_le (a.2 * b.2) am_hi) = true then (a.1 * b.1, a.2 * b.2) else (am_lo, am_hi)
def am_gdiv (a b : Int × Int) : Int × Int := if (am_le 0 a.1 && am_lt 0 b.1 && am_ie b.1 b.2) = true then (a.1 / b.1, a.2 / b.1) else (am_lo, am_hi)
def am_grem (a b : Int × Int) : Int × Int := if (am_le 0 a.1 && am_lt 0 b.1 && am_ie b.1 b.2) = true then (0, if am_lt a.2 b.1 = true then a.2 else b.1 - 1) else (am_lo, am_hi)
def am_gand (a b : Int × Int) : Int × Int := if am_le 0 b.1 = true then (0, b.2) else if am_le 0 a.1 = true then (0, a.2) else (am_lo, am_hi)
def am_gor (a b : Int × Int) : Int × Int := if (am_le 0 a.1 && am_le a.2 1 && am_le 0 b.1 && am_le b.2 1) = true then (0, 1) else (am_lo, am_hi)
def am_mx (a b : Int) : Int := if am_lt a b = true then b else a
def am_mi (a b : Int) : Int := if am_lt a b = true then a else b
def am_gmax (a b : Int × Int) : Int × Int := (am_mx a.1 b.1, am_mx a.2 b.2)
def am_gmin (a b : Int × Int) : Int × Int := (am_mi a.1 b.1, am_mi a.2 b.2)
def am_gabs (a : Int × Int) : Int × Int := if am_lt am_lo a.1 = true then (0, am_mx a.2 (-a.1)) else (am_lo, am_hi)
def am_gneg (a : Int × Int) : Int × Int := if am_lt am_lo a.1 = true then (-a.2, -a.1) else (am_lo, am_hi)
def am_gi2b (a : Int × Int) : Int × Int := if (am_le (-128) a.1 && am_le a.2 127) = true then a else (-128, 127)
def am_gi2c (a : Int × Int) : Int × Int := if (am_le 0 a.1 && am_le a.2 65535) = true then a else (0, 65535)
/-- a shift: by 0 the same -/
def am_sh (f : Int32 → Int32 → Int32) (h : am_Hp) (q r : am_I) : am_I × am_Hp := match am_kn h.1 r with
  | some (.ofNat 0) => (q, h)
  | _ => am_o2 f am_full h q r
/-- comparing -/
def am_cq (h : am_Hp) (q r : am_I) : Option Bool := if am_oe q.1 r.1 = true then some (am_ie q.2 r.2) else
  if (am_lt (am_bd h.1 q).2 (am_bd h.1 r).1 || am_lt (am_bd h.1 r).2 (am_bd h.1 q).1) = true then some false else
  if (am_ie (am_bd h.1 q).1 (am_bd h.1 q).2 && am_ie (am_bd h.1 r).1 (am_bd h.1 r).2 && am_ie (am_bd h.1 q).1 (am_bd h.1 r).1) = true then some true else none
def am_ct1 (h : am_Hp) (q r : am_I) : Option Bool := if am_oe q.1 r.1 = true then some (am_lt q.2 r.2) else
  if am_lt (am_bd h.1 q).2 (am_bd h.1 r).1 = true then some true else if am_le (am_bd h.1 r).2 (am_bd h.1 q).1 = true then some false else none
def am_nt (o : Option Bool) : Option Bool := match o with
  | some b => some (!b)
  | none => none
def am_cmp (c : Jvm.ClassFile.Cond) (h : am_Hp) (q r : am_I) : Option Bool := match c with
  | .eq => am_cq h q r
  | .ne => am_nt (am_cq h q r)
  | .lt => am_ct1 h q r
  | .ge => am_nt (am_ct1 h q r)
  | .gt => am_ct1 h r q
  | .le => am_nt (am_ct1 h r q)
/-- it is known to lie between lo and hi -/
def am_tg1 (E : am_Ev) (q : am_I) (lo hi : Int) : am_Ev := match q.1 with
  | none => E
  | some i => match E[i]? with
    | some b => E.set i (am_mx b.1 (lo - q.2), am_mi b.2 (hi - q.2))
    | none => E
/-- q + d is at most r -/
def am_rlt (h : am_Hp) (q r : am_I) (d : Int) : am_Hp :=
  (am_tg1 (am_tg1 h.1 q (am_bd h.1 q).1 ((am_bd h.1 r).2 - d)) r ((am_bd h.1 q).1 + d) (am_bd h.1 r).2, h.2.1, (match q.1, r.1 with
    | some i, some _ => (0, (some i, q.2 + d), r, (none, 0)) :: h.2.2.1
    | _, _ => h.2.2.1), h.2.2.2)
def am_req (h : am_Hp) (q r : am_I) : am_Hp := (am_tg1 (am_tg1 h.1 q (am_bd h.1 r).1 (am_bd h.1 r).2) r (am_bd h.1 q).1 (am_bd h.1 q).2, h.2)
def am_rne (h : am_Hp) (q r : am_I) : am_Hp := if am_ie (am_bd h.1 r).1 (am_bd h.1 r).2 = true then
  (if am_ie (am_bd h.1 q).1 (am_bd h.1 r).1 = true then (am_tg1 h.1 q ((am_bd h.1 q).1 + 1) (am_bd h.1 q).2, h.2) else if am_ie (am_bd h.1 q).2 (am_bd h.1 r).1 = true then (am_tg1 h.1 q (am_bd h.1 q).1 ((am_bd h.1 q).2 - 1), h.2) else h) else h
def am_rfc (c : Jvm.ClassFile.Cond) (h : am_Hp) (q r : am_I) : am_Hp := match c with
  | .eq => am_req h q r
  | .ne => am_rne h q r
  | .lt => am_rlt h q r 1
  | .ge => am_rlt h r q 0
  | .gt => am_rlt h r q 1
  | .le => am_rlt h q r 0
def am_ncd (c : Jvm.ClassFile.Cond) : Jvm.ClassFile.Cond := match c with
  | .eq => .ne
  | .ne => .eq
  | .lt => .ge
  | .ge => .lt
  | .gt => .le
  | .le => .gt
def am_n1 (pc : Nat) (ls : am_SL) (st : List am_SV) (h : am_Hp) : Option (List am_Ac) := some [.inl (pc, ls, st, h)]
def am_n2 (pc : Nat) (ls : am_SL) (st : List am_SV) (p : am_SV × am_Hp) : Option (List am_Ac) := some [.inl (pc, ls, p.1 :: st, p.2)]
def am_n3 (pc : Nat) (ls : am_SL) (st : List am_SV) (p : am_I × am_Hp) : Option (List am_Ac) := some [.inl (pc, ls, .inl p.1 :: st, p.2)]
def am_fk (c : Jvm.ClassFile.Cond) (h : am_Hp) (q r : am_I) (pcT pcF : Nat) (ls : am_SL) (st : List am_SV) : Option (List am_Ac) := match am_cmp c h q r with
  | some true => am_n1 pcT ls st h
  | some false => am_n1 pcF ls st h
  | none => some [.inl (pcT, ls, st, am_rfc c h q r), .inl (pcF, ls, st, am_rfc (am_ncd c) h q r)]
/-- a switch: each case, and the rest -/
def am_swS (pc : Nat) (q : am_I) (d : Int) (ls : am_SL) (st : List am_SV) : am_Hp → List (Int × Int) → Option (List am_Ac)
  | h, [] => (am_tg pc d).bind fun t => am_n1 t ls st h
  | h, z :: t => match am_cq h q (none, z.1) with
    | some true => (am_tg pc z.2).bind fun t => am_n1 t ls st h
    | some false => am_swS pc q d ls st h t
    | none => (am_tg pc z.2).bind fun a => (am_swS pc q d ls st (am_rne h q (none, z.1)) t).bind fun l => some (.inl (a, ls, st, am_req h q (none, z.1)) :: l)
/-- an index within an array's length -/
def am_ix (h : am_Hp) (n q : am_I) : Bool := am_le 0 (am_bd h.1 q).1 && (am_lt (am_bd h.1 q).2 (am_bd h.1 n).1 || (match q.1, n.1 with
  | some i, some j => h.2.2.1.any fun z => Nat.beq z.1 0 && am_oe z.2.1.1 (some i) && am_oe z.2.2.1.1 (some j) && am_lt (q.2 - z.2.1.2 + z.2.2.1.2) n.2
  | _, _ => false))
/-- an object, whether it may be written; or its role -/
def am_rv (h : am_Hp) (v : am_SV) : Option ((Nat × Bool × am_SO) ⊕ Nat) := match v with
  | .inr (.inr (.inl o)) => match h.2.1[o]? with
    | some (.inl ob) => some (.inl (o, ob))
    | some (.inr r) => some (.inr r)
    | none => none
  | .inr (.inr (.inr (.inl r))) => some (.inr r)
  | _ => none
/-- of what role -/
def am_ro1 (h : am_Hp) (v : am_SV) : Option Nat := match am_rv h v with
  | some (.inr r) => some r
  | _ => none
def am_ob (h : am_Hp) (o : Nat) (b : am_SO) : am_Hp := (h.1, h.2.1.set o (.inl (true, b)), h.2.2)
/-- out of a role -/
def am_im (h : am_Hp) (Er : am_Ev) (t : am_SV) : Option (am_SV × am_Hp) := match t with
  | .inl q => match am_fr h (am_bd Er q).1 (am_bd Er q).2 with | (x, h') => some (.inl x, h')
  | .inr (.inl k) => some (.inr (.inl k), h)
  | .inr (.inr (.inl _)) => none
  | .inr (.inr (.inr (.inl r))) => some (am_sR r, h)
  | .inr (.inr (.inr (.inr _))) => none
/-- does it fit a role's part -/
def am_cf (h : am_Hp) (Er : am_Ev) (t v : am_SV) : Bool := match t with
  | .inl q => match v with
    | .inl z => am_le (am_bd Er q).1 (am_bd h.1 z).1 && am_le (am_bd h.1 z).2 (am_bd Er q).2
    | _ => false
  | .inr (.inl k) => (match v with
    | .inr (.inl j) => Nat.beq k j
    | _ => false) || (Nat.beq k 2 && am_rS v) || (Nat.beq k 3 && am_dS v)
  | .inr (.inr (.inl _)) => false
  | .inr (.inr (.inr (.inl r))) => match am_ro1 h v with
    | some j => Nat.beq r j
    | none => false
  | .inr (.inr (.inr (.inr _))) => false
def am_cfs (h : am_Hp) (Er : am_Ev) : List am_SV → List am_SV → Bool
  | [], [] => true
  | t :: ts, v :: vs => am_cf h Er t v && am_cfs h Er ts vs
  | _, _ => false
def am_cfc (h : am_Hp) (n : Int) (t v : am_Ct) : Bool := match t, v with
  | .inl a, .inl b => am_le a.1 b.1 && am_le b.2 a.2
  | .inr (.inl _), .inr (.inl _) => true
  | .inr (.inr (.inr r)), .inr (.inr (.inr j)) => Nat.beq r j
  | .inr (.inr (.inr r)), .inr (.inr (.inl l)) => am_ie n (l.length : Int) && l.all (fun v => match am_ro1 h v with | some j => Nat.beq r j | none => false)
  | _, _ => false
/-- a named object becomes one of a role; the role's parts are of its own unknowns, one each -/
def am_pb (h : am_Hp) (o r : Nat) : Option am_Hp := match h.2.1[o]? with
  | some (.inl (true, .inl (c, fs))) => match am_role r with
    | some (Er, .inl (c', ts)) => if (Nat.ble 30 r && Nat.beq c c' && am_cfs h Er ts fs) = true then some (h.1, h.2.1.set o (.inr r), h.2.2) else none
    | _ => none
  | some (.inl (true, .inr (t, n, ct))) => match am_role r with
    | some (_, .inr (t', n', ct')) => if (Nat.ble 30 r && Nat.beq t t' && am_qe n n' && am_oe n.1 none && am_cfc h n.2 ct' ct) = true then some (h.1, h.2.1.set o (.inr r), h.2.2) else none
    | _ => none
  | _ => none
def am_pbs (h : am_Hp) : List (Nat × Nat) → Option am_Hp
  | [] => some h
  | z :: t => (match h.2.1[z.1]? with
    | some (.inr r) => if Nat.beq r z.2 = true then some h else none
    | _ => am_pb h z.1 z.2).bind fun h' => am_pbs h' t
/-- what has to become of a role first, that v fits t (a proposal) -/
def am_pl : Nat → am_Hp → am_SV → am_SV → List (Nat × Nat)
  | 0, _, _, _ => []
  | n + 1, h, v, t => match v, t with
    | .inr (.inr (.inl o)), .inr (.inr (.inr (.inl r))) => match h.2.1[o]?, am_role r with
      | some (.inl (_, .inl (_, fs))), some (_, .inl (_, ts)) => ((fs.zip ts).flatMap fun z => am_pl n h z.1 z.2) ++ [(o, r)]
      | some (.inl (_, .inr (_, _, .inr (.inr (.inl l))))), some (_, .inr (_, _, .inr (.inr (.inr j)))) => (l.flatMap fun z => am_pl n h z (am_sR j)) ++ [(o, r)]
      | some (.inl _), _ => [(o, r)]
      | _, _ => []
    | _, _ => []
def am_bw (h : am_Hp) (q : am_I) (lo hi : Int) : Bool := am_le lo (am_bd h.1 q).1 && am_le (am_bd h.1 q).2 hi
def am_okS (ty : FieldType) (h : am_Hp) (v : am_SV) : Bool := match ty, v with
  | .int, .inl _ => true
  | .long, .inr (.inl k) => Nat.beq k 0
  | .double, v => am_dS v
  | .object _, v => am_rS v
  | .array _, v => am_rS v
  | .boolean, .inl q => am_bw h q 0 1
  | .byte, .inl q => am_bw h q (-128) 127
  | .char, .inl q => am_bw h q 0 65535
  | _, _ => false
def am_getS (h : am_Hp) (v : am_SV) (ci k : Nat) : Option (am_SV × am_Hp) := match am_rv h v with
  | some (.inl (_, _, .inl (c, fs))) => if am_cc c ci = true then (fs[k]?).map fun x => (x, h) else none
  | some (.inr r) => match am_role r with
    | some (Er, .inl (c, ts)) => if am_cc c ci = true then (ts[k]?).bind fun t => am_im h Er t else none
    | _ => none
  | _ => none
def am_putS (h : am_Hp) (v : am_SV) (ci k : Nat) (x : am_SV) : Option am_Hp := if (am_okS (am_ty ci k) h x && Nat.blt ci 12) = true then (match am_rv h v with
  | some (.inl (o, true, .inl (c, fs))) => if (Nat.beq c ci && Nat.blt k fs.length) = true then some (am_ob h o (.inl (c, fs.set k x))) else none
  | some (.inr r) => match am_role r with
    | some (_, .inl (c, ts)) => if (Nat.beq c ci && Nat.ble 30 r) = true then (ts[k]?).bind fun t => (am_pbs h (am_pl 8 h x t)).bind fun h' => match am_role r with
      | some (Er, _) => if am_cf h' Er t x = true then some h' else none
      | none => none else none
    | _ => none
  | _ => none) else none
/-- is it an object of that class, an array of that kind -/
def am_kfS (h : am_Hp) (v : am_SV) (ci : Nat) : Bool := match am_rv h v with
  | some (.inl (_, _, .inl (c, _))) => am_cc c ci
  | some (.inr r) => match am_role r with
    | some (_, .inl (c, _)) => am_cc c ci
    | _ => false
  | _ => false
/-- an array: its kind, its length, what it holds -/
def am_ar (h : am_Hp) (v : am_SV) : Option (Nat × am_I × am_Ct) := match am_rv h v with
  | some (.inl (_, _, .inr a)) => some a
  | some (.inr r) => match am_role r with
    | some (_, .inr a) => if am_oe a.2.1.1 none = true then some a else none
    | _ => none
  | _ => none
def am_ktS (h : am_Hp) (v : am_SV) (t : Nat) : Bool := match am_ar h v with
  | some a => Nat.beq a.1 t
  | none => false
def am_riS (t : Nat) (h : am_Hp) (v : am_SV) (q : am_I) : Option (am_I × am_Hp) := match am_ar h v with
  | some (t', n, .inl b) => if (Nat.beq (t' % 8) t && am_ix h n q) = true then (match v with
    | .inr (.inr (.inl o)) => if (Nat.beq t' 8) = true then some (am_memo 3 h (none, (o : Int)) q b) else some (am_fr h b.1 b.2)
    | _ => some (am_fr h b.1 b.2)) else none
  | _ => none
def am_rlS (h : am_Hp) (v : am_SV) (q : am_I) : Bool := match am_ar h v with
  | some (t', n, .inr (.inl _)) => Nat.beq t' 1 && am_ix h n q
  | _ => false
def am_ve (u v : am_SV) : Bool := match u, v with
  | .inr (.inl a), .inr (.inl b) => Nat.beq a b
  | .inr (.inr (.inl a)), .inr (.inr (.inl b)) => Nat.beq a b
  | .inr (.inr (.inr (.inl a))), .inr (.inr (.inr (.inl b))) => Nat.beq a b
  | _, _ => false
def am_rqL (h : am_Hp) (q : am_I) (lo : Int) (l : List am_SV) : Nat → Option (List (am_SV × am_Hp))
  | 0 => some []
  | n + 1 => (am_rqL h q lo l n).bind fun r => (l[lo.toNat + n]?).bind fun y => some ((y, am_req h q (none, lo + (n : Int))) :: r)
def am_rqE (l : List am_SV) (x : am_SV) (lo : Nat) : Nat → Bool
  | 0 => true
  | n + 1 => (match l[lo + n]? with
    | some y => am_ve x y
    | none => false) && am_rqE l x lo n
/-- a reference out of an array: each index that may be -/
def am_rqS (h : am_Hp) (v : am_SV) (q : am_I) : Option (List (am_SV × am_Hp)) := match am_ar h v with
  | some (t', n, .inr (.inr (.inr r))) => if ((Nat.beq t' 4 || Nat.beq t' 5 || Nat.beq t' 6) && am_ix h n q) = true then some [(am_sR r, h)] else none
  | some (t', n, .inr (.inr (.inl l))) => if ((Nat.beq t' 4 || Nat.beq t' 5 || Nat.beq t' 6) && am_ix h n q) = true then
      (match am_kn h.1 q with
      | some k => (l[k.toNat]?).map fun x => [(x, h)]
      | none => match l with
        | [] => none
        | _ :: _ => match l[(am_bd h.1 q).1.toNat]? with
          | some x => if am_rqE l x (am_bd h.1 q).1.toNat ((am_bd h.1 q).2 - (am_bd h.1 q).1 + 1).toNat = true then some [(x, h)] else am_rqL h q (am_bd h.1 q).1 l ((am_bd h.1 q).2 - (am_bd h.1 q).1 + 1).toNat
          | none => none) else none
  | _ => none
def am_wiS (t : Nat) (h : am_Hp) (v : am_SV) (q x : am_I) : Option am_Hp := match am_rv h v with
  | some (.inl (o, true, .inr (t', n, .inl b))) => if (Nat.beq t' t && Nat.blt t 8 && am_ix h n q) = true then some (am_ob h o (.inr (t', n, .inl (am_mi b.1 (am_bd h.1 x).1, am_mx b.2 (am_bd h.1 x).2)))) else none
  | some (.inr r) => match am_role r with
    | some (_, .inr (t', n, .inl b)) => if (Nat.beq t' t && Nat.blt t 8 && am_oe n.1 none && Nat.ble 30 r && am_ix h n q && am_le b.1 (am_bd h.1 x).1 && am_le (am_bd h.1 x).2 b.2) = true then some h else none
    | _ => none
  | _ => none
def am_wlS (h : am_Hp) (v : am_SV) (q : am_I) : Bool := match am_rv h v with
  | some (.inl (_, true, .inr (t', n, .inr (.inl _)))) => Nat.beq t' 1 && am_ix h n q
  | some (.inr r) => match am_role r with
    | some (_, .inr (t', n, .inr (.inl _))) => Nat.beq t' 1 && am_oe n.1 none && Nat.ble 30 r && am_ix h n q
    | _ => false
  | _ => false
def am_wqS (t ci : Nat) (h : am_Hp) (v : am_SV) (q : am_I) (x : am_SV) : Option am_Hp := match am_rv h v with
  | some (.inl (o, true, .inr (t', n, .inr (.inr (.inl l))))) => if (Nat.beq t' t && Nat.blt t 8 && am_ix h n q && am_kfS h x ci && Nat.blt 0 ci && Nat.blt ci 12) = true then (match am_kn h.1 q with
    | some k => some (am_ob h o (.inr (t', n, .inr (.inr (.inl (l.set k.toNat x))))))
    | none => none) else none
  | _ => none
def am_use (h : am_Hp) (c n : Int) : am_Hp := (h.1, h.2.1, h.2.2.1, (h.2.2.2.1.1 + c, h.2.2.2.1.2), (h.2.2.2.2.1 + n, h.2.2.2.2.2))
/-- a new object -/
def am_nwS (h : am_Hp) (b : am_SO) (n : Int) : am_SV × am_Hp := (am_sO h.2.1.length, am_use (h.1, h.2.1 ++ [.inl (true, b)], h.2.2) 1 n)
def am_inS (t : Nat) (n : Nat) : am_Ct := if Nat.beq t 1 = true then .inr (.inl ()) else if Nat.blt t 4 = true then .inl (0, 0) else .inr (.inr (.inl (List.replicate n am_sN)))
def am_naS (h : am_Hp) (t : Nat) (q : am_I) : Option (am_SV × am_Hp) := match am_kn h.1 q with
  | some k => if (am_le 0 k && am_le k 4096) = true then some (am_nwS h (.inr (t, (none, k), am_inS t k.toNat)) k) else none
  | none => none
/-- a value's symbol, for what a new object holds -/
def am_vS (v : Value) : am_SV := match v with
  | .int x => am_sI x.toInt
  | .long _ => am_sL
  | .double _ => .inr (.inl 3)
  | _ => am_sN
def am_vok (v : Value) : Bool := match v with
  | .int _ => true
  | .long _ => true
  | .double _ => true
  | .null => true
  | _ => false
/-- arraycopy of bytes -/
def am_cyS (h : am_Hp) (v0 : am_SV) (sp : am_I) (v : am_SV) (dp n : am_I) : Option am_Hp := match am_ar h v0, am_rv h v with
  | some (t0, n0, .inl b0), some (.inl (o, true, .inr (t1, n1, .inl b1))) =>
    if (Nat.beq (t0 % 8) 3 && Nat.beq t1 3 && am_le 0 (am_bd h.1 sp).1 && am_le 0 (am_bd h.1 dp).1 && am_le 0 (am_bd h.1 n).1 && am_le ((am_bd h.1 sp).2 + (am_bd h.1 n).2) (am_bd h.1 n0).1 && am_le ((am_bd h.1 dp).2 + (am_bd h.1 n).2) (am_bd h.1 n1).1 && am_le (-128) b0.1 && am_le b0.2 127) = true then some (am_ob h o (.inr (t1, n1, .inl (am_mi b0.1 b1.1, am_mx b0.2 b1.2)))) else none
  | _, _ => none
/-- new int[n][k]: rows of a role -/
def am_mnS (h : am_Hp) (r : Nat) (q z : am_I) : Option (am_SV × am_Hp) := match am_kn h.1 q, am_kn h.1 z, am_role r with
  | some n, some k, some (_, .inr (t, m, .inl b)) => if (Nat.beq t 0 && Nat.ble 30 r && am_qe m (none, k) && am_le 0 n && am_le n 4096 && am_le 0 k && am_le k 4096 && am_le b.1 0 && am_le 0 b.2) = true then
      some (am_sO h.2.1.length, am_use (h.1, h.2.1 ++ [.inl (true, .inr (6, (none, n), .inr (.inr (.inr r))))], h.2.2) (1 + n) (n + n * k)) else none
  | _, _, _ => none
/-- the symbols of statics and literals -/
def am_sg (k : Nat) : Option am_SV := if Nat.beq k 4 = true then some am_sA else if Nat.blt k 30 = true then (am_role k).bind fun _ => some (am_sR k) else none
def am_n4 (pc : Nat) (ls : am_SL) (st : List am_SV) (o : Option am_SV) (h : am_Hp) : Option (List am_Ac) := o.bind fun v => am_n1 pc ls (v :: st) h
/-- are two references the same: perhaps -/
def am_sm (h : am_Hp) (v u : am_SV) : Option (Option Bool) := match am_rv h v, am_rv h u with
  | some (.inl a), some (.inl b) => some (some (Nat.beq a.1 b.1))
  | some (.inl _), some (.inr _) => some (some false)
  | some (.inr _), some (.inl _) => some (some false)
  | some (.inr r), some (.inr j) => some (if Nat.beq r j = true then (if Nat.blt r 30 = true then some true else none) else some false)
  | _, _ => none
def am_isI (v : am_SV) : Bool := match v with
  | .inl _ => true
  | _ => false
def am_isL (v : am_SV) : Bool := match v with
  | .inr (.inl k) => Nat.beq k 0
  | _ => false
/-- is it null -/
def am_nul (v : am_SV) : Option Bool := match v with
  | .inr (.inl k) => if Nat.beq k 1 = true then some true else none
  | .inr (.inr (.inl _)) => some false
  | .inr (.inr (.inr (.inl _))) => some false
  | _ => none
def am_bbS (t : Nat) (h : am_Hp) (x : am_I) : Bool := match Nat.beq t 2 with
  | true => am_bw h x 0 1
  | false => am_bw h x (-128) 127
/-- a call on an object of a class -/
def am_clS (len pc : Nat) (an' : List Nat) (ls : am_SL) (st : List am_SV) (h : am_Hp) : Option (List am_Ac) := match an' with
  | m' :: n :: ci :: _ => match st.drop n with
    | v :: r => if (Nat.ble (am_szS r) 8 && am_kfS h v ci) = true then some [.inr (.inl (m', v :: (st.take n).reverse, pc + len, r, h))] else none
    | _ => none
  | _ => none
/-- one instruction on symbols; rl: the role of new rows -/
def am_ab (rl : Nat) (pc : Nat) (i : Instr) (an : List Nat) (ls : am_SL) (st : List am_SV) (h : am_Hp) : Option (List am_Ac) := match i with
  | .iconst n => am_n1 (pc + 1) ls (am_sI (Int32.ofInt n).toInt :: st) h
  | .bipush n => am_n1 (pc + 2) ls (am_sI (Int8.ofInt n).toInt32.toInt :: st) h
  | .sipush n => am_n1 (pc + 3) ls (am_sI (Int16.ofInt n).toInt32.toInt :: st) h
  | .lconst _ => am_n1 (pc + 1) ls (am_sL :: st) h
  | .dconst n => if n = 0 then am_n1 (pc + 1) ls (am_sD [FP.dconst0] :: st) h else none
  | .aconst_null => am_n1 (pc + 1) ls (am_sN :: st) h
  | .ldc _ => match an with
    | 0 :: n :: _ => am_n1 (pc + 2) ls (am_sI (Int32.ofNat n).toInt :: st) h
    | 1 :: k :: _ => am_n4 (pc + 2) ls st (am_sg k) h
    | _ => none
  | .ldc_w _ => match an with
    | 0 :: n :: _ => am_n1 (pc + 3) ls (am_sI (Int32.ofNat n).toInt :: st) h
    | 1 :: k :: _ => am_n4 (pc + 3) ls st (am_sg k) h
    | _ => none
  | .ldc2_w _ => match an with
    | 0 :: _ :: _ => am_n1 (pc + 3) ls (am_sL :: st) h
    | 1 :: n :: _ => am_n1 (pc + 3) ls (am_sD [UInt64.ofNat n] :: st) h
    | _ => none
  | .iload k => match am_aS ls k with
    | some v => if am_isI v = true then am_n1 (pc + 2) ls (v :: st) h else none
    | none => none
  | .iload_n k => match am_aS ls k.val with
    | some v => if am_isI v = true then am_n1 (pc + 1) ls (v :: st) h else none
    | none => none
  | .lload k => match am_aS ls k with
    | some v => if am_isL v = true then am_n1 (pc + 2) ls (v :: st) h else none
    | none => none
  | .lload_n k => match am_aS ls k.val with
    | some v => if am_isL v = true then am_n1 (pc + 1) ls (v :: st) h else none
    | none => none
  | .dload k => match am_aS ls k with
    | some v => if am_dS v = true then am_n1 (pc + 2) ls (v :: st) h else none
    | none => none
  | .aload k => match am_aS ls k with
    | some v => if am_rS v = true then am_n1 (pc + 2) ls (v :: st) h else none
    | none => none
  | .aload_n k => match am_aS ls k.val with
    | some v => if am_rS v = true then am_n1 (pc + 1) ls (v :: st) h else none
    | none => none
  | .istore k => match st with
    | v :: r => if am_isI v = true then (am_s1S ls k v).bind fun l => am_n1 (pc + 2) l r h else none
    | _ => none
  | .istore_n k => match st with
    | v :: r => if am_isI v = true then (am_s1S ls k.val v).bind fun l => am_n1 (pc + 1) l r h else none
    | _ => none
  | .lstore k => match st with
    | v :: r => if am_isL v = true then (am_s2S ls k v).bind fun l => am_n1 (pc + 2) l r h else none
    | _ => none
  | .lstore_n k => match st with
    | v :: r => if am_isL v = true then (am_s2S ls k.val v).bind fun l => am_n1 (pc + 1) l r h else none
    | _ => none
  | .dstore k => match st with
    | v :: r => if am_dS v = true then (am_s2S ls k v).bind fun l => am_n1 (pc + 2) l r h else none
    | _ => none
  | .astore k => match st with
    | v :: r => if am_rS v = true then (am_s1S ls k v).bind fun l => am_n1 (pc + 2) l r h else none
    | _ => none
  | .astore_n k => match st with
    | v :: r => if am_rS v = true then (am_s1S ls k.val v).bind fun l => am_n1 (pc + 1) l r h else none
    | _ => none
  | .iinc k n => match am_aS ls k with
    | some (.inl q) => match am_add h q (none, (Int32.ofInt n).toInt) with
      | (x, h') => (am_s1S ls k (.inl x)).bind fun l => am_n1 (pc + 3) l st h'
    | _ => none
  | .isub => match st with
    | .inl y :: .inl x :: r => am_n3 (pc + 1) ls r (am_sub h x y)
    | _ => none
  | .iadd => match st with
    | .inl y :: .inl x :: r => am_n3 (pc + 1) ls r (am_add h x y)
    | _ => none
  | .imul => match st with
    | .inl y :: .inl x :: r => am_n3 (pc + 1) ls r (am_m2 2 am_gmul h x y)
    | _ => none
  | .iand => match st with
    | .inl y :: .inl x :: r => am_n3 (pc + 1) ls r (am_o2 (· &&& ·) am_gand h x y)
    | _ => none
  | .ior => match st with
    | .inl y :: .inl x :: r => am_n3 (pc + 1) ls r (am_o2 (· ||| ·) am_gor h x y)
    | _ => none
  | .ixor => match st with
    | .inl y :: .inl x :: r => am_n3 (pc + 1) ls r (am_o2 (· ^^^ ·) am_full h x y)
    | _ => none
  | .ishl => match st with
    | .inl y :: .inl x :: r => am_n3 (pc + 1) ls r (am_sh (fun x y => x <<< (y &&& 31)) h x y)
    | _ => none
  | .ishr => match st with
    | .inl y :: .inl x :: r => am_n3 (pc + 1) ls r (am_sh (fun x y => x >>> (y &&& 31)) h x y)
    | _ => none
  | .iushr => match st with
    | .inl y :: .inl x :: r => am_n3 (pc + 1) ls r (am_o2 (fun x y => (x.toUInt32 >>> (y.toUInt32 &&& Int32.toUInt32 31)).toInt32) am_full h x y)
    | _ => none
  | .idiv => match st with
    | .inl y :: .inl x :: r => if am_lt 0 (am_bd h.1 y).1 = true then am_n3 (pc + 1) ls r (am_m2 5 am_gdiv h x y) else none
    | _ => none
  | .irem => match st with
    | .inl y :: .inl x :: r => if am_lt 0 (am_bd h.1 y).1 = true then am_n3 (pc + 1) ls r (am_m2 6 am_grem h x y) else none
    | _ => none
  | .ineg => match st with
    | .inl x :: r => am_n3 (pc + 1) ls r (am_o1 (fun x => -x) am_gneg h x)
    | _ => none
  | .i2b => match st with
    | .inl x :: r => am_n3 (pc + 1) ls r (am_o1 (fun x => x.toInt8.toInt32) am_gi2b h x)
    | _ => none
  | .i2c => match st with
    | .inl x :: r => am_n3 (pc + 1) ls r (am_o1 (fun x => (x.toUInt32 % 65536).toInt32) am_gi2c h x)
    | _ => none
  | .ladd => match st with
    | u :: v :: r => if (am_isL u && am_isL v) = true then am_n1 (pc + 1) ls (am_sL :: r) h else none
    | _ => none
  | .lsub => match st with
    | u :: v :: r => if (am_isL u && am_isL v) = true then am_n1 (pc + 1) ls (am_sL :: r) h else none
    | _ => none
  | .lmul => match st with
    | u :: v :: r => if (am_isL u && am_isL v) = true then am_n1 (pc + 1) ls (am_sL :: r) h else none
    | _ => none
  | .land => match st with
    | u :: v :: r => if (am_isL u && am_isL v) = true then am_n1 (pc + 1) ls (am_sL :: r) h else none
    | _ => none
  | .lor => match st with
    | u :: v :: r => if (am_isL u && am_isL v) = true then am_n1 (pc + 1) ls (am_sL :: r) h else none
    | _ => none
  | .lxor => match st with
    | u :: v :: r => if (am_isL u && am_isL v) = true then am_n1 (pc + 1) ls (am_sL :: r) h else none
    | _ => none
  | .lshl => match st with
    | .inl _ :: v :: r => if am_isL v = true then am_n1 (pc + 1) ls (am_sL :: r) h else none
    | _ => none
  | .lushr => match st with
    | .inl _ :: v :: r => if am_isL v = true then am_n1 (pc + 1) ls (am_sL :: r) h else none
    | _ => none
  | .lcmp => match st with
    | u :: v :: r => if (am_isL u && am_isL v) = true then am_n3 (pc + 1) ls r (am_fr h (-1) 1) else none
    | _ => none
  | .i2l => match st with
    | .inl _ :: r => am_n1 (pc + 1) ls (am_sL :: r) h
    | _ => none
  | .l2i => match st with
    | v :: r => if am_isL v = true then am_n3 (pc + 1) ls r (am_fr h am_lo am_hi) else none
    | _ => none
  | .i2d => match st with
    | .inl x :: r => if am_bw h x 0 200 = true then am_n1 (pc + 1) ls (am_sD ((List.range ((am_bd h.1 x).2.toNat + 1)).map fun k => FP.i2d (Int32.ofNat k)) :: r) h else none
    | _ => none
  | .d2l => match st with
    | v :: r => if am_dS v = true then am_n1 (pc + 1) ls (am_sL :: r) h else none
    | _ => none
  | .ddiv => match st with
    | .inr (.inr (.inr (.inr m))) :: .inr (.inr (.inr (.inr l))) :: r => if (l.all fun x => m.all fun y => decide ((FP.ddiv x y) &&& 0x7fffffffffffffff ≤ 0x7ff0000000000000)) = true then am_n1 (pc + 1) ls (am_sD (l.flatMap fun x => m.map fun y => FP.ddiv x y) :: r) h else none
    | _ => none
  | .dmul => match st with
    | .inr (.inr (.inr (.inr m))) :: .inr (.inr (.inr (.inr l))) :: r => if (l.all fun x => m.all fun y => decide ((FP.dmul x y) &&& 0x7fffffffffffffff ≤ 0x7ff0000000000000)) = true then am_n1 (pc + 1) ls (am_sD (l.flatMap fun x => m.map fun y => FP.dmul x y) :: r) h else none
    | _ => none
  | .dup => match st with
    | v :: r => if am_cS v = true then none else am_n1 (pc + 1) ls (v :: v :: r) h
    | _ => none
  | .dup_x1 => match st with
    | v :: u :: r => if (am_cS v || am_cS u) = true then none else am_n1 (pc + 1) ls (v :: u :: v :: r) h
    | _ => none
  | .dup2 => match st with
    | v :: u :: r => if am_cS v = true then am_n1 (pc + 1) ls (v :: v :: u :: r) h else if am_cS u = true then none else am_n1 (pc + 1) ls (v :: u :: v :: u :: r) h
    | _ => none
  | .pop => match st with
    | v :: r => if am_cS v = true then none else am_n1 (pc + 1) ls r h
    | _ => none
  | .pop2 => match st with
    | v :: r => if am_cS v = true then am_n1 (pc + 1) ls r h else none
    | _ => none
  | .goto o => (am_tg pc o).bind fun t => am_n1 t ls st h
  | .ifCond c o => match st with
    | .inl x :: r => (am_tg pc o).bind fun t => am_fk c h x (none, 0) t (pc + 3) ls r
    | _ => none
  | .if_icmp c o => match st with
    | .inl y :: .inl x :: r => (am_tg pc o).bind fun t => am_fk c h x y t (pc + 3) ls r
    | _ => none
  | .if_acmp c o => match st with
    | u :: v :: r => (am_tg pc o).bind fun t => match am_sm h v u with
      | some (some b) => am_n1 (match c, b with | .eq, true => t | .eq, false => pc + 3 | .ne, true => pc + 3 | .ne, false => t) ls r h
      | some none => some [.inl (t, ls, r, h), .inl (pc + 3, ls, r, h)]
      | none => none
    | _ => none
  | .ifnull o => match st with
    | v :: r => (am_tg pc o).bind fun t => match am_nul v with
      | some true => am_n1 t ls r h
      | some false => am_n1 (pc + 3) ls r h
      | none => if am_rS v = true then some [.inl (t, ls, r, h), .inl (pc + 3, ls, r, h)] else none
    | _ => none
  | .ifnonnull o => match st with
    | v :: r => (am_tg pc o).bind fun t => match am_nul v with
      | some true => am_n1 (pc + 3) ls r h
      | some false => am_n1 t ls r h
      | none => if am_rS v = true then some [.inl (pc + 3, ls, r, h), .inl (t, ls, r, h)] else none
    | _ => none
  | .lookupswitch d ps => match st with
    | .inl x :: r => if (ps.toList.zip (ps.toList.drop 1)).all (fun q => q.1.1 < q.2.1) = true then am_swS pc x d ls r h ps.toList else none
    | _ => none
  | .tableswitch d lo hi os => match st with
    | .inl x :: r => if hi = lo + os.size - 1 then am_swS pc x d ls r h (os.toList.zipIdx.map fun q => (lo + q.2, q.1)) else none
    | _ => none
  | .getfield _ => match an with
    | _ :: ci :: k :: _ => match st with
      | v :: r => (am_getS h v ci k).bind fun p => am_n2 (pc + 3) ls r p
      | _ => none
    | _ => none
  | .putfield _ => match an with
    | _ :: ci :: k :: _ => match st with
      | x :: v :: r => (am_putS h v ci k x).bind fun h' => am_n1 (pc + 3) ls r h'
      | _ => none
    | _ => none
  | .getstatic _ => match an with
    | 0 :: n :: _ => am_n1 (pc + 3) ls (am_sI (Int32.ofNat n).toInt :: st) h
    | 1 :: k :: _ => am_n4 (pc + 3) ls st (am_sg k) h
    | _ => none
  | .iaload => match st with
    | .inl q :: v :: r => (am_riS 0 h v q).bind fun p => am_n3 (pc + 1) ls r p
    | _ => none
  | .baload => match an with
    | t :: _ => match st with
      | .inl q :: v :: r => (am_riS t h v q).bind fun p => am_n3 (pc + 1) ls r p
      | _ => none
    | _ => none
  | .laload => match st with
    | .inl q :: v :: r => if am_rlS h v q = true then am_n1 (pc + 1) ls (am_sL :: r) h else none
    | _ => none
  | .aaload => match st with
    | .inl q :: v :: r => (am_rqS h v q).bind fun l => some (l.map fun p => .inl (pc + 1, ls, p.1 :: r, p.2))
    | _ => none
  | .iastore => match st with
    | .inl x :: .inl q :: v :: r => (am_wiS 0 h v q x).bind fun h' => am_n1 (pc + 1) ls r h'
    | _ => none
  | .bastore => match an with
    | t :: _ => match st with
      | .inl x :: .inl q :: v :: r => if am_bbS t h x = true then (am_wiS t h v q x).bind fun h' => am_n1 (pc + 1) ls r h' else none
      | _ => none
    | _ => none
  | .lastore => match st with
    | u :: .inl q :: v :: r => if (am_isL u && am_wlS h v q) = true then am_n1 (pc + 1) ls r h else none
    | _ => none
  | .aastore => match an with
    | t :: ci :: _ => match st with
      | x :: .inl q :: v :: r => (am_wqS t ci h v q x).bind fun h' => am_n1 (pc + 1) ls r h'
      | _ => none
    | _ => none
  | .arraylength => match st with
    | v :: r => match am_ar h v with
      | some (t, n, _) => if (Nat.blt (t % 8) 7 && am_le (am_bd h.1 n).2 am_hi) = true then am_n1 (pc + 1) ls (.inl n :: r) h else none
      | none => none
    | _ => none
  | .newarray _ => match an with
    | t :: _ => match st with
      | .inl n :: r => if Nat.blt t 4 = true then (am_naS h t n).bind fun p => am_n2 (pc + 2) ls r p else none
      | _ => none
    | _ => none
  | .anewarray _ => match an with
    | t :: _ => match st with
      | .inl n :: r => if (Nat.beq t 4 || Nat.beq t 5) = true then (am_naS h t n).bind fun p => am_n2 (pc + 3) ls r p else none
      | _ => none
    | _ => none
  | .multianewarray _ _ => match st with
    | .inl k :: .inl n :: r => (am_mnS h rl n k).bind fun p => am_n2 (pc + 4) ls r p
    | _ => none
  | .new _ => match an with
    | 0 :: ci :: n :: _ => if (Nat.blt ci 12 && (am_df ci n).all am_vok) = true then am_n2 (pc + 3) ls st (am_nwS h (.inl (ci, (am_df ci n).map am_vS)) n) else none
    | (_ + 1) :: x :: _ => if Nat.ble (am_szS st) 8 = true then some [.inr (.inr (.inr x, am_use h 1 6))] else none
    | _ => none
  | .checkcast _ => match an with
    | 0 :: ci :: _ => match st with
      | v :: r => if am_kfS h v ci = true then am_n1 (pc + 3) ls (v :: r) h else none
      | _ => none
    | 1 :: t :: _ => match st with
      | v :: r => if am_ktS h v t = true then am_n1 (pc + 3) ls (v :: r) h else none
      | _ => none
    | _ => none
  | .invokevirtual _ => match an with
    | a0 :: an' => if Nat.beq a0 1 = true then (match st with
      | v :: r => if Nat.ble (am_szS r) 8 = true then (match am_ar h v with
        | some (t, (none, .ofNat n), .inr (.inl _)) => if Nat.beq t 9 = true then am_n2 (pc + 3) ls r (am_nwS h (.inr (1, (none, (n : Int)), .inr (.inl ()))) (n : Int)) else none
        | _ => none) else none
      | _ => none) else am_clS 3 pc an' ls st h
    | _ => none
  | .invokeinterface _ _ => match an with
    | _ :: an' => am_clS 5 pc an' ls st h
    | _ => none
  | .invokespecial _ => match an with
    | a0 :: an' => if Nat.beq a0 1 = true then (match st with
      | v :: r => if (Nat.ble (am_szS r) 8 && (am_rv h v).isSome) = true then am_n1 (pc + 3) ls r h else none
      | _ => none) else if Nat.beq a0 2 = true then am_clS 3 pc an' ls st h else (match an' with
      | m' :: n :: _ => match st.drop n with
        | v :: r => if (Nat.ble (am_szS r) 8 && (am_rv h v).isSome) = true then some [.inr (.inl (m', v :: (st.take n).reverse, pc + 3, r, h))] else none
        | _ => none
      | _ => none)
    | _ => none
  | .invokestatic _ => match an with
    | a0 :: an' => if Nat.beq a0 1 = true then (match st with
      | .inl y :: .inl x :: r => if Nat.ble (am_szS r) 8 = true then am_n3 (pc + 3) ls r (am_o2 (fun x y => if x < y then y else x) am_gmax h x y) else none
      | _ => none) else if Nat.beq a0 2 = true then (match st with
      | .inl y :: .inl x :: r => if Nat.ble (am_szS r) 8 = true then am_n3 (pc + 3) ls r (am_o2 (fun x y => if y < x then y else x) am_gmin h x y) else none
      | _ => none) else if Nat.beq a0 3 = true then (match st with
      | .inl x :: r => if Nat.ble (am_szS r) 8 = true then am_n3 (pc + 3) ls r (am_o1 (fun x => if 0 ≤ x then x else 0 - x) am_gabs h x) else none
      | _ => none) else if Nat.beq a0 4 = true then (match st with
      | .inl n :: .inl dp :: v :: .inl sp :: v0 :: r => if Nat.ble (am_szS r) 8 = true then (am_cyS h v0 sp v dp n).bind fun h' => am_n1 (pc + 3) ls r h' else none
      | _ => none) else (match an' with
      | m' :: n :: _ => if (Nat.ble n st.length && Nat.ble (am_szS (st.drop n)) 8) = true then some [.inr (.inl (m', (st.take n).reverse, pc + 3, st.drop n, h))] else none
      | _ => none)
    | _ => none
  | .ireturn => match an with
    | t :: _ => match st with
      | [.inl v] => if (Nat.blt t 4 && am_okS (am_rt t) h (.inl v)) = true then some [.inr (.inr (.inl (some (.inl v)), h))] else none
      | _ => none
    | _ => none
  | .lreturn => match st with
    | [v] => if am_isL v = true then some [.inr (.inr (.inl (some v), h))] else none
    | _ => none
  | .dreturn => match st with
    | [v] => if am_dS v = true then some [.inr (.inr (.inl (some v), h))] else none
    | _ => none
  | .areturn => match st with
    | [v] => if (am_rv h v).isSome = true then some [.inr (.inr (.inl (some v), h))] else none
    | _ => none
  | .return_ => match st with
    | [] => some [.inr (.inr (.inl none, h))]
    | _ => none
  | _ => none
