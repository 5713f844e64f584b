/-! the heap of a run: the class's cells 0 .. 58, the reference's 59 .. 80, and what shift leaves behind -/
abbrev tA : Type := Nat → Int32
abbrev tPa : Type := Int32 × Int32 × tA × tA
abbrev tRo : Type := Int32 × tA × tA
abbrev tSt : Type := Int64 × Int32 × tA × tPa × tRo × tRo × tRo
abbrev tOl : Type := Int32 × Int64 × Int32 × Int32 × Int32 × Int32 × Int64 × Int64 × tA × tA × tA × tA × tA × tA × tA × tA × tA
abbrev tSn : Type := Int32 × Int32 × Int32 × (Nat → Int64) × tA × (Nat → UInt32)
abbrev tSc : Type := Int32 × Int32 × tA × tA
abbrev tTp : Type := Int32 × Int32 × (Nat → Int64)
def ai (n : Nat) (f : Nat → Int32) : va_E := .inl (0, n, .inl f)
def az (n : Nat) (f : Nat → Int32) : va_E := .inl (3, n, .inl f)
def al (n : Nat) (f : Nat → Int64) : va_E := .inl (1, n, .inr (.inl f))
def af (n : Nat) (f : Nat → UInt32) : va_E := .inl (2, n, .inr (.inr (.inl f)))
def ob (ci : Nat) (fs : List Value) : va_E := .inr (ci, fs)
def tapeRefs : Nat → Option Nat := fun i => match i with
  | 0 => some 47
  | 1 => some 49
  | 2 => some 51
  | 3 => some 53
  | 4 => some 55
  | 5 => some 57
  | _ => none
/-- the class -/
def cW (nw kp : tSt) (im : Int32) (ol : tOl) (sn : tSn) (sr : tSc) (tp : Nat → tTp) (T : sxH) : sxH :=
  ob 7 [.ref 1, .ref 15, .int im, .ref 29, .ref 39, .ref 43, .ref 46] ::
  ob 4 [.long nw.1, .int nw.2.1, .ref 2, .ref 3, .ref 6, .ref 9, .ref 12] :: ai 36 nw.2.2.1 ::
  ob 1 [.int nw.2.2.2.1.1, .int nw.2.2.2.1.2.1, .ref 4, .ref 5] :: ai 40 nw.2.2.2.1.2.2.1 :: ai 40 nw.2.2.2.1.2.2.2 ::
  ob 2 [.int nw.2.2.2.2.1.1, .ref 7, .ref 8] :: ai 4 nw.2.2.2.2.1.2.1 :: ai 4 nw.2.2.2.2.1.2.2 ::
  ob 2 [.int nw.2.2.2.2.2.1.1, .ref 10, .ref 11] :: ai 8 nw.2.2.2.2.2.1.2.1 :: ai 8 nw.2.2.2.2.2.1.2.2 ::
  ob 2 [.int nw.2.2.2.2.2.2.1, .ref 13, .ref 14] :: ai 8 nw.2.2.2.2.2.2.2.1 :: ai 8 nw.2.2.2.2.2.2.2.2 ::
  ob 4 [.long kp.1, .int kp.2.1, .ref 16, .ref 17, .ref 20, .ref 23, .ref 26] :: ai 36 kp.2.2.1 ::
  ob 1 [.int kp.2.2.2.1.1, .int kp.2.2.2.1.2.1, .ref 18, .ref 19] :: ai 40 kp.2.2.2.1.2.2.1 :: ai 40 kp.2.2.2.1.2.2.2 ::
  ob 2 [.int kp.2.2.2.2.1.1, .ref 21, .ref 22] :: ai 4 kp.2.2.2.2.1.2.1 :: ai 4 kp.2.2.2.2.1.2.2 ::
  ob 2 [.int kp.2.2.2.2.2.1.1, .ref 24, .ref 25] :: ai 8 kp.2.2.2.2.2.1.2.1 :: ai 8 kp.2.2.2.2.2.1.2.2 ::
  ob 2 [.int kp.2.2.2.2.2.2.1, .ref 27, .ref 28] :: ai 8 kp.2.2.2.2.2.2.2.1 :: ai 8 kp.2.2.2.2.2.2.2.2 ::
  ob 0 [.int ol.1, .long ol.2.1, .int ol.2.2.1, .int ol.2.2.2.1, .int ol.2.2.2.2.1, .int ol.2.2.2.2.2.1, .long ol.2.2.2.2.2.2.1, .long ol.2.2.2.2.2.2.2.1, .ref 30, .ref 31, .ref 32, .ref 33, .ref 34, .ref 35, .ref 36, .ref 37, .ref 38] ::
  ai 49 ol.2.2.2.2.2.2.2.2.1 :: ai 49 ol.2.2.2.2.2.2.2.2.2.1 :: ai 49 ol.2.2.2.2.2.2.2.2.2.2.1 :: ai 49 ol.2.2.2.2.2.2.2.2.2.2.2.1 :: ai 49 ol.2.2.2.2.2.2.2.2.2.2.2.2.1 ::
  ai 49 ol.2.2.2.2.2.2.2.2.2.2.2.2.2.1 :: ai 49 ol.2.2.2.2.2.2.2.2.2.2.2.2.2.2.1 :: ai 49 ol.2.2.2.2.2.2.2.2.2.2.2.2.2.2.2.1 :: ai 49 ol.2.2.2.2.2.2.2.2.2.2.2.2.2.2.2.2 ::
  ob 5 [.int sn.1, .int sn.2.1, .int sn.2.2.1, .ref 40, .ref 41, .ref 42] :: al 19 sn.2.2.2.1 :: ai 19 sn.2.2.2.2.1 :: af 19 sn.2.2.2.2.2 ::
  ob 3 [.int sr.1, .int sr.2.1, .ref 44, .ref 45] :: ai 100 sr.2.2.1 :: ai 12 sr.2.2.2 ::
  .inl (4, 6, .inr (.inr (.inr (.inr tapeRefs)))) ::
  ob 6 [.int (tp 0).1, .int (tp 0).2.1, .ref 48] :: al 60 (tp 0).2.2 ::
  ob 6 [.int (tp 1).1, .int (tp 1).2.1, .ref 50] :: al 60 (tp 1).2.2 ::
  ob 6 [.int (tp 2).1, .int (tp 2).2.1, .ref 52] :: al 60 (tp 2).2.2 ::
  ob 6 [.int (tp 3).1, .int (tp 3).2.1, .ref 54] :: al 60 (tp 3).2.2 ::
  ob 6 [.int (tp 4).1, .int (tp 4).2.1, .ref 56] :: al 60 (tp 4).2.2 ::
  ob 6 [.int (tp 5).1, .int (tp 5).2.1, .ref 58] :: al 60 (tp 5).2.2 :: T
/-- the reference: what it keeps (region, kept region, s, kept, whether kept, text, size, sort, many, items), and what it works with -/
abbrev tMk : Type := Int64 × Int64 × tA × tA × Int32 × tA × Int32 × tA × tA × (Nat → Int64)
abbrev tMg : Type := tA × tA × Int32 × Int32 × tA × tA × tA × tA × tA × tA × tA × tA × tA
abbrev tMt : Type := Int32 × Int32 × tA
abbrev tMc : Type := Int64 × Int64 × Int32 × Int32 × UInt32 × tA × tA × tA
def mW (mk : tMk) (mg : tMg) (mt : tMt) (mc : tMc) (T : sxH) : sxH :=
  ob 8 [.long mk.1, .long mk.2.1, .ref 60, .ref 61, .int mk.2.2.2.2.1, .ref 62, .int mk.2.2.2.2.2.2.1, .ref 63, .ref 64, .ref 65, .ref 66, .ref 67, .int mg.2.2.1, .int mg.2.2.2.1, .ref 68, .ref 69, .ref 70, .ref 71, .ref 72, .ref 73, .ref 74, .ref 75, .ref 76, .int mt.1, .int mt.2.1, .ref 77, .long mc.1, .long mc.2.1, .int mc.2.2.1, .int mc.2.2.2.1, .float mc.2.2.2.2.1, .ref 78, .ref 79, .ref 80] ::
  ai 122 mk.2.2.1 :: ai 122 mk.2.2.2.1 :: ai 100 mk.2.2.2.2.2.1 :: ai 6 mk.2.2.2.2.2.2.2.1 :: ai 6 mk.2.2.2.2.2.2.2.2.1 :: al 360 mk.2.2.2.2.2.2.2.2.2 ::
  ai 64 mg.1 :: ai 64 mg.2.1 :: ai 160 mg.2.2.2.2.1 :: ai 49 mg.2.2.2.2.2.1 :: az 49 mg.2.2.2.2.2.2.1 :: ai 2401 mg.2.2.2.2.2.2.2.1 :: ai 49 mg.2.2.2.2.2.2.2.2.1 :: ai 49 mg.2.2.2.2.2.2.2.2.2.1 :: ai 49 mg.2.2.2.2.2.2.2.2.2.2.1 :: ai 49 mg.2.2.2.2.2.2.2.2.2.2.2.1 :: az 49 mg.2.2.2.2.2.2.2.2.2.2.2.2 ::
  ai 312 mt.2.2 :: ai 36 mc.2.2.2.2.2.1 :: ai 36 mc.2.2.2.2.2.2.1 :: ai 3 mc.2.2.2.2.2.2.2 :: T
