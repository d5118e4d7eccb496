/-! A small machine over whole numbers: its values, worlds and one step as a condition before it -/
/-- int, long, a cell of the world by its number, a constant by its number (0: null) -/
abbrev mV : Type := Int ⊕ (Int ⊕ (Nat ⊕ Nat))
abbrev vI (n : Int) : mV := Sum.inl n
abbrev vL (n : Int) : mV := Sum.inr (Sum.inl n)
abbrev vR (r : Nat) : mV := Sum.inr (Sum.inr (Sum.inl r))
abbrev vK (k : Nat) : mV := Sum.inr (Sum.inr (Sum.inr k))
/-- an object: its class and its fields' kinds (0 int, 1 long, 2 boolean, 3 null, r + 4 the cell r); a row: its type (0 int, 1 long, 2 byte, 3 boolean, 4 of cells), its length, its cells -/
abbrev mSh : Type := (Nat × List Nat) ⊕ (Nat × (Nat × List Nat))
/-- shapes, fields, elements -/
abbrev mS : Type := List mSh × ((Nat → Nat → Int) × (Nat → Nat → Int))
/-- cells and slots that may still be made -/
abbrev mB : Type := Nat × Nat
abbrev mL : Type := List (Option mV)
abbrev mOp : Type := Instr × (Nat × (Nat × Int))
def wr (x : Int) : Int := (x + 2147483648) % 4294967296 - 2147483648
def wl (x : Int) : Int := (x + 9223372036854775808) % 18446744073709551616 - 9223372036854775808
def iAnd (a b : Int) : Int := (Int32.ofInt a &&& Int32.ofInt b).toInt
def iOr (a b : Int) : Int := (Int32.ofInt a ||| Int32.ofInt b).toInt
def iXor (a b : Int) : Int := (Int32.ofInt a ^^^ Int32.ofInt b).toInt
def iShl (a b : Int) : Int := (Int32.ofInt a <<< (Int32.ofInt b &&& 31)).toInt
def iShr (a b : Int) : Int := (Int32.ofInt a >>> (Int32.ofInt b &&& 31)).toInt
def iUshr (a b : Int) : Int := ((Int32.ofInt a).toUInt32 >>> ((Int32.ofInt b).toUInt32 &&& Int32.toUInt32 31)).toInt32.toInt
def iB (a : Int) : Int := (Int32.ofInt a).toInt8.toInt32.toInt
def iC (a : Int) : Int := ((Int32.ofInt a).toUInt32 % 65536).toInt32.toInt
def lAnd (a b : Int) : Int := (Int64.ofInt a &&& Int64.ofInt b).toInt
def lOr (a b : Int) : Int := (Int64.ofInt a ||| Int64.ofInt b).toInt
def lShl (a b : Int) : Int := (Int64.ofInt a <<< ((Int32.ofInt b).toInt64 &&& 63)).toInt
def lShr (a b : Int) : Int := (Int64.ofInt a >>> ((Int32.ofInt b).toInt64 &&& 63)).toInt
def lUshr (a b : Int) : Int := ((Int64.ofInt a).toUInt64 >>> ((Int32.ofInt b).toInt64.toUInt64 &&& Int64.toUInt64 63)).toInt64.toInt
def lCmp (a b : Int) : Int := if b < a then 1 else if a = b then 0 else -1
def mUp (f : Nat → Nat → Int) (a k : Nat) (n : Int) : Nat → Nat → Int := fun x y => if x = a then (if y = k then n else f x y) else f x y
/-- a row's places i .. i + n - 1 become those of another -/
def mCp (f : Nat → Nat → Int) (a : Nat) (sp : Nat) (c : Nat) (dp n : Nat) : Nat → Nat → Int := fun x y => if x = c then (if dp ≤ y ∧ y < dp + n then f a (sp + (y - dp)) else f x y) else f x y
def mClr : Option mV → Option mV
  | some (.inr (.inl _)) => none
  | x => x
def mGet : mL → Nat → Option mV
  | [], _ => none
  | x :: _, 0 => x
  | _ :: t, n + 1 => mGet t n
def mSet : mL → Nat → mV → mL
  | [], _, _ => []
  | _ :: t, 0, v => some v :: t
  | x :: t, n + 1, v => (match n with | 0 => mClr x | _ => x) :: mSet t n v
def mSet2 : mL → Nat → mV → mL
  | [], _, _ => []
  | _ :: [], 0, v => [some v]
  | _ :: _ :: t, 0, v => some v :: none :: t
  | x :: t, n + 1, v => (match n with | 0 => mClr x | _ => x) :: mSet2 t n v
def mNth : List mSh → Nat → Option mSh
  | [], _ => none
  | x :: _, 0 => some x
  | _ :: t, n + 1 => mNth t n
def mFld : List Nat → Nat → Option Nat
  | [], _ => none
  | x :: _, 0 => some x
  | _ :: t, n + 1 => mFld t n
def mCat : mV → Nat
  | .inr (.inl _) => 2
  | _ => 1
def mCats : List mV → Nat
  | [] => 0
  | v :: t => mCat v + mCats t
def mTake : Nat → List mV → List mV → Option (List mV × List mV)
  | 0, st, acc => some (acc, st)
  | n + 1, v :: st, acc => mTake n st (v :: acc)
  | _ + 1, [], _ => none
def mTgt (pc : Nat) (o : Int) : Nat := ((pc : Int) + o).toNat
/-- a value's way into a field or a row of kind f -/
def mIsRef : mV → Option Nat
  | .inr (.inr (.inl r)) => some (r + 4)
  | .inr (.inr (.inr 0)) => some 3
  | _ => none
def mSw (X : Nat → Prop) (pc : Nat) (x : Int) : Int → List Int → Prop
  | _, [] => True
  | i, o :: t => (x = i → X (mTgt pc o)) ∧ mSw X pc x (i + 1) t
def aI (r : Option mV) (K : Int → Prop) : Prop := match r with
  | some (.inl n) => K n
  | _ => False
def aL (r : Option mV) (K : Int → Prop) : Prop := match r with
  | some (.inr (.inl n)) => K n
  | _ => False
/-- what a call's answer puts on the stack: 0 nothing, 1 an int, 2 a long -/
def mAns (k : Nat) (r : Option mV) (K : List mV → Prop) : Prop := match k with
  | 0 => K []
  | 1 => aI r (fun n => K [vI n])
  | 2 => aL r (fun n => K [vL n])
  | _ => False
def mFldOf : Nat → Int → mV
  | 0, n => vI n
  | 1, n => vL n
  | 2, n => vI n
  | 3, _ => vK 0
  | r + 4, _ => vR r
def mZero : Nat → Int → Prop
  | 2, n => n = 0 ∨ n = 1
  | _, _ => True
/-- the fields' kinds of a new object, by its class -/
def mNew : Nat → List Nat
  | 0 => [0, 0, 0, 0, 0, 3, 3, 3, 3, 3, 3, 3, 3, 3, 3, 3, 3]
  | 1 => [3, 3, 3, 3]
  | 2 => [3, 3, 3, 3, 3, 3, 3]
  | 3 => [3, 3, 3, 3, 3, 3, 3, 3, 3, 0, 0, 0]
  | 4 => [3, 3, 0]
  | 5 => [3, 3, 3, 3, 3]
  | 6 => [3, 3, 3]
  | 7 => [2, 0, 3, 3, 3, 3, 3, 3, 3]
  | 8 => [3, 3, 3, 3, 3, 3, 3, 0]
  | 9 => [3, 0, 0, 0, 0, 0]
  | 10 => [3, 3, 3, 3, 0, 0, 0, 0, 0, 0]
  | 11 => [3, 3, 3, 3, 3, 3, 3, 3, 3, 3, 3]
  | 12 => [0, 3, 0, 0, 3, 3, 3, 0, 0, 3, 3, 3, 3, 0, 3, 0, 0, 2, 3, 3, 3, 3, 3, 3, 3, 3, 3, 3, 3, 3, 3, 0, 2, 1]
  | _ => []
