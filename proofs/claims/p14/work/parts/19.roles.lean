/-! THE SYMBOLS: values, objects, states; the roles. Mine. -/
/-- a whole number: a constant, or an unknown by its number plus a constant -/
abbrev am_I : Type := Option Nat × Int
/-- values: whole numbers; 0 a long, 1 null, 2 null or a reference, 3 a double; a named object; an object of a role; a double of a list -/
abbrev am_SV : Type := am_I ⊕ (Nat ⊕ (Nat ⊕ (Nat ⊕ List UInt64)))
/-- what an array holds: ints between bounds, longs, references one by one, references of a role -/
abbrev am_Ct : Type := (Int × Int) ⊕ (Unit ⊕ (List am_SV ⊕ Nat))
abbrev am_SO : Type := (Nat × List am_SV) ⊕ (Nat × am_I × am_Ct)
abbrev am_Ev : Type := List (Int × Int)
/-- named objects (true: may be written), or of what role one has become -/
abbrev am_Os : Type := List ((Bool × am_SO) ⊕ Nat)
/-- 0: q is at most r; 1, 2, 5, 6: x is the sum, product, quotient, rest of q and r; 3: x stands in array q at r; 4: x is beyond q, r -/
abbrev am_Rl : Type := List (Nat × am_I × am_I × am_I)
/-- unknowns' bounds, objects, relations; cells and slots used: a constant, and a multiple of 2560 less unknown 0 -/
abbrev am_Hp : Type := am_Ev × am_Os × am_Rl × (Int × Int) × (Int × Int)
abbrev am_SL : Type := List (Option am_SV)
/-- what a method answers, or the number of what it throws -/
abbrev am_SR : Type := Option am_SV ⊕ Nat
abbrev am_Ac : Type := (Nat × am_SL × List am_SV × am_Hp) ⊕ ((Nat × List am_SV × Nat × List am_SV × am_Hp) ⊕ (am_SR × am_Hp))
abbrev am_Rd : Type := am_Ev × am_SO
def am_sI (c : Int) : am_SV := .inl (none, c)
def am_sL : am_SV := .inr (.inl 0)
def am_sN : am_SV := .inr (.inl 1)
def am_sA : am_SV := .inr (.inl 2)
def am_sO (o : Nat) : am_SV := .inr (.inr (.inl o))
def am_sR (r : Nat) : am_SV := .inr (.inr (.inr (.inl r)))
def am_sD (l : List UInt64) : am_SV := .inr (.inr (.inr (.inr l)))
def am_lo : Int := -2147483648
def am_hi : Int := 2147483647
/-- the roles: 0 .. 29 the statics and literals (read alone), 30 and on what the program makes, 70 and on the literals' bytes -/
def am_rolT : List (Nat × am_Rd) := [
  (0, [], .inr (9, (none, 4), .inr (.inl ()))),
  (1, [], .inr (13, (none, 0), .inr (.inr (.inl [])))),
  (2, [], .inr (11, (none, 100), .inl ((-128), 127))),
  (10, [], .inl (12, [am_sR 70, .inl (none, 0)])),
  (11, [], .inl (12, [am_sR 71, .inl (none, 0)])),
  (12, [], .inl (12, [am_sR 72, .inl (none, 0)])),
  (13, [], .inl (12, [am_sR 73, .inl (none, 0)])),
  (14, [], .inl (12, [am_sR 74, .inl (none, 0)])),
  (15, [], .inl (12, [am_sR 75, .inl (none, 0)])),
  (16, [], .inl (12, [am_sR 76, .inl (none, 0)])),
  (17, [], .inl (12, [am_sR 71, .inl (none, 0)])),
  (18, [], .inl (12, [am_sR 76, .inl (none, 0)])),
  (19, [], .inl (12, [am_sR 76, .inl (none, 0)])),
  (20, [], .inl (12, [am_sR 77, .inl (none, 0)])),
  (21, [], .inl (12, [am_sR 71, .inl (none, 0)])),
  (22, [], .inl (12, [am_sR 78, .inl (none, 0)])),
  (23, [], .inl (12, [am_sR 79, .inl (none, 0)])),
  (24, [], .inl (12, [am_sR 80, .inl (none, 0)])),
  (25, [], .inl (12, [am_sR 81, .inl (none, 0)])),
  (26, [], .inl (12, [am_sR 81, .inl (none, 0)])),
  (27, [], .inl (12, [am_sR 81, .inl (none, 0)])),
  (28, [], .inl (12, [am_sR 82, .inl (none, 0)])),
  (30, [], .inr (1, (none, 4), .inr (.inl ()))),
  (31, [], .inl (4, [am_sR 30])),
  (32, [], .inl (7, [am_sR 30, am_sR 30])),
  (33, [(0, 35), (0, 143), ((-2147483648), 2147483647), ((-2147483648), 2147483647), ((-2147483648), 2147483647), ((-2147483648), 2147483647), ((-2147483648), 2147483647)], .inl (6, [.inl (some 0, 0), am_sR 32, am_sR 31, .inl (some 1, 0), .inl (some 2, 0), .inl (some 3, 0), .inl (some 4, 0), .inl (some 5, 0), .inl (some 6, 0)])),
  (34, [], .inr (0, (none, 72), .inl (0, 2))),
  (35, [], .inr (0, (none, 72), .inl ((-2147483648), 2147483647))),
  (36, [], .inl (5, [am_sR 34, am_sR 35, am_sL, am_sL])),
  (37, [], .inr (0, (none, 2), .inl (0, 2))),
  (38, [], .inr (0, (none, 2), .inl ((-2147483648), 2147483647))),
  (39, [], .inr (6, (none, 36), .inr (.inr (.inr 37)))),
  (40, [], .inr (6, (none, 36), .inr (.inr (.inr 38)))),
  (41, [], .inr (0, (none, 2), .inl (0, 2))),
  (42, [], .inr (6, (none, 36), .inr (.inr (.inr 41)))),
  (43, [], .inr (2, (none, 144), .inl (0, 1))),
  (44, [], .inr (2, (none, 36), .inl (0, 1))),
  (45, [(0, 143), (0, 35), ((-2147483648), 2147483647), ((-2147483648), 2147483647), ((-2147483648), 2147483647), ((-2147483648), 2147483647), ((-2147483648), 2147483647)], .inl (10, [.inl (some 0, 0), .inl (some 1, 0), .inl (some 2, 0), am_sR 43, am_sR 42, .inl (some 3, 0), .inl (some 4, 0), .inl (some 5, 0), .inl (some 6, 0)])),
  (70, [], .inr (11, (none, 35), .inl ((-128), 127))),
  (71, [], .inr (11, (none, 24), .inl ((-128), 127))),
  (72, [], .inr (11, (none, 29), .inl ((-128), 127))),
  (73, [], .inr (11, (none, 26), .inl ((-128), 127))),
  (74, [], .inr (11, (none, 34), .inl ((-128), 127))),
  (75, [], .inr (11, (none, 20), .inl ((-128), 127))),
  (76, [], .inr (11, (none, 21), .inl ((-128), 127))),
  (77, [], .inr (11, (none, 23), .inl ((-128), 127))),
  (78, [], .inr (11, (none, 19), .inl ((-128), 127))),
  (79, [], .inr (11, (none, 25), .inl ((-128), 127))),
  (80, [], .inr (11, (none, 0), .inl ((-128), 127))),
  (81, [], .inr (11, (none, 1), .inl ((-128), 127))),
  (82, [], .inr (11, (none, 3), .inl ((-128), 127)))]
def am_rolF (r : Nat) : List (Nat × am_Rd) → Option am_Rd
  | [] => none
  | z :: t => match Nat.beq z.1 r with
    | true => some z.2
    | false => am_rolF r t
def am_role (r : Nat) : Option am_Rd := am_rolF r am_rolT
