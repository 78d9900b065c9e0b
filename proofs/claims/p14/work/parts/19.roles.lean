/-! THE SYMBOLIC EXECUTOR over the abstract machine: symbolic values, states, one instruction. Mine. -/
/-- a whole number: a constant, or an unknown by its number plus a constant -/
abbrev am_I : Type := Option Nat × Int
/-- values: whole numbers; 0 a long, 1 null, 2 null or a reference; a named object; an object of a role; a double of a list -/
abbrev am_SV : Type := am_I ⊕ (Nat ⊕ (Nat ⊕ (Nat ⊕ List UInt64)))
/-- what an array holds: ints between bounds, longs, references one by one, references of a role -/
abbrev am_Ct : Type := (Int × Int) ⊕ (Unit ⊕ (List am_SV ⊕ Nat))
abbrev am_SO : Type := (Nat × List am_SV) ⊕ (Nat × am_I × am_Ct)
abbrev am_Ev : Type := List (Int × Int)
/-- named objects, or of what role one has become -/
abbrev am_Os : Type := List (am_SO ⊕ Nat)
/-- (i, j, c): unknown i + c is at most unknown j -/
abbrev am_Rl : Type := List (Nat × Nat × Int)
/-- unknowns' bounds, objects, relations; cells and slots used: a constant, and a multiple of 2560 less unknown 0 -/
abbrev am_Hp : Type := am_Ev × am_Os × am_Rl × (Int × Int) × (Int × Int)
abbrev am_SL : Type := List (Option am_SV)
abbrev am_Ac : Type := (Nat × am_SL × List am_SV × am_Hp) ⊕ ((Nat × List am_SV × Nat × List am_SV × am_Hp) ⊕ ((Option am_SV ⊕ String) × am_Hp))
abbrev am_Rd : Type := am_Ev × am_SO
def am_sI (c : Int) : am_SV := .inl (none, c)
def am_sL : am_SV := .inr (.inl 0)
def am_sN : am_SV := .inr (.inl 1)
def am_sA : am_SV := .inr (.inl 2)
def am_sO (o : Nat) : am_SV := .inr (.inr (.inl o))
def am_sR (r : Nat) : am_SV := .inr (.inr (.inr (.inl r)))
def am_sD (l : List UInt64) : am_SV := .inr (.inr (.inr (.inr l)))
def am_lo : Int := -2147483648
def am_hi : Int := 2147483647
/-- the roles: 0 .. 19 the statics and literals (read alone), 20 and on what the program makes -/
def am_rolT : List am_Rd := [
  ([], .inr (9, (none, 4), .inr (.inl ()))),
  ([], .inr (13, (none, 0), .inr (.inr (.inl []))))]
def am_role (r : Nat) : Option am_Rd := am_rolT[r]?
