/-! numbers of the tables -/
def sd0 : List Nat → Nat
  | a :: _ => a
  | [] => 0
def sd1 : List Nat → Nat
  | _ :: a :: _ => a
  | _ => 0
def sd2 : List Nat → Nat
  | _ :: _ :: a :: _ => a
  | _ => 0
/-- the own method's numbers -/
def mOp (y : Nat) : Nat → Option sxO := (sxM y).1
def mNm (y : Nat) : MethodName := (sxM y).2.1
def mBy (y : Nat) : ByteArray := (sxM y).2.2.1
def mML (y : Nat) : Nat := (sxM y).2.2.2.1
def mRt (y : Nat) : Option FieldType := (sxM y).2.2.2.2.1
def mMc (y : Nat) : Nat := (sxM y).2.2.2.2.2.1
def mMs (y : Nat) : Nat := (sxM y).2.2.2.2.2.2.1
def mNp (y : Nat) : Nat := (sxM y).2.2.2.2.2.2.2.1
def mPl (y : Nat) : List Nat := (sxM y).2.2.2.2.2.2.2.2
/-- how many fields -/
def sxNF (ci : Nat) : Nat := match ci with
  | 0 => 17
  | 1 => 4
  | 2 => 3
  | 3 => 4
  | 4 => 7
  | 5 => 6
  | 6 => 3
  | 7 => 7
  | _ => 34
