/-! the law: its loop, out of what its calls do. A heap of the shape -/
abbrev tW : Type := Int32 × Int64 × Int32 × (Nat → Int32) × Int32 × Int32 × (Nat → Int32) × (Nat → Int32) × Int32 × (Nat → Int32) × (Nat → Int32) × Int32 × (Nat → Int32) × (Nat → Int32) × Int32 × (Nat → Int32) × (Nat → Int32) × Int64 × Int32 × (Nat → Int32) × Int32 × Int32 × (Nat → Int32) × (Nat → Int32) × Int32 × (Nat → Int32) × (Nat → Int32) × Int32 × (Nat → Int32) × (Nat → Int32) × Int32 × (Nat → Int32) × (Nat → Int32) × Int32 × Int64 × Int32 × Int32 × Int32 × Int32 × Int64 × Int64 × (Nat → Int32) × (Nat → Int32) × (Nat → Int32) × (Nat → Int32) × (Nat → Int32) × (Nat → Int32) × (Nat → Int32) × (Nat → Int32) × (Nat → Int32) × Int32 × Int32 × Int32 × (Nat → Int64) × (Nat → Int32) × (Nat → UInt32) × Int32 × Int32 × (Nat → Int32) × (Nat → Int32) × Int64 × Int64 × Int32 × Int32 × Int32 × Int32 × Int32 × Int32 × Int64 × Int64 × Int32 × Int32 × UInt32 × (Nat → Int32) × (Nat → Int32) × (Nat → Int32) × (Nat → Int32) × (Nat → Int32) × (Nat → Int64) × (Nat → Int32) × (Nat → Int32) × (Nat → Int32) × (Nat → Int32) × (Nat → Int32) × (Nat → Int32) × (Nat → Int32) × (Nat → Int32) × (Nat → Int32) × (Nat → Int32) × (Nat → Int32) × (Nat → Int32) × (Nat → Int32) × (Nat → Int32) × (Nat → Int32) × (Nat → tTp) × sxH
def wT (x : tW) : sxH := wF x.1 x.2.1 x.2.2.1 x.2.2.2.1 x.2.2.2.2.1 x.2.2.2.2.2.1 x.2.2.2.2.2.2.1 x.2.2.2.2.2.2.2.1 x.2.2.2.2.2.2.2.2.1 x.2.2.2.2.2.2.2.2.2.1 x.2.2.2.2.2.2.2.2.2.2.1 x.2.2.2.2.2.2.2.2.2.2.2.1 x.2.2.2.2.2.2.2.2.2.2.2.2.1 x.2.2.2.2.2.2.2.2.2.2.2.2.2.1 x.2.2.2.2.2.2.2.2.2.2.2.2.2.2.1 x.2.2.2.2.2.2.2.2.2.2.2.2.2.2.2.1 x.2.2.2.2.2.2.2.2.2.2.2.2.2.2.2.2.1 x.2.2.2.2.2.2.2.2.2.2.2.2.2.2.2.2.2.1 x.2.2.2.2.2.2.2.2.2.2.2.2.2.2.2.2.2.2.1 x.2.2.2.2.2.2.2.2.2.2.2.2.2.2.2.2.2.2.2.1 x.2.2.2.2.2.2.2.2.2.2.2.2.2.2.2.2.2.2.2.2.1 x.2.2.2.2.2.2.2.2.2.2.2.2.2.2.2.2.2.2.2.2.2.1 x.2.2.2.2.2.2.2.2.2.2.2.2.2.2.2.2.2.2.2.2.2.2.1 x.2.2.2.2.2.2.2.2.2.2.2.2.2.2.2.2.2.2.2.2.2.2.2.1 x.2.2.2.2.2.2.2.2.2.2.2.2.2.2.2.2.2.2.2.2.2.2.2.2.1 x.2.2.2.2.2.2.2.2.2.2.2.2.2.2.2.2.2.2.2.2.2.2.2.2.2.1 x.2.2.2.2.2.2.2.2.2.2.2.2.2.2.2.2.2.2.2.2.2.2.2.2.2.2.1 x.2.2.2.2.2.2.2.2.2.2.2.2.2.2.2.2.2.2.2.2.2.2.2.2.2.2.2.1 x.2.2.2.2.2.2.2.2.2.2.2.2.2.2.2.2.2.2.2.2.2.2.2.2.2.2.2.2.1 x.2.2.2.2.2.2.2.2.2.2.2.2.2.2.2.2.2.2.2.2.2.2.2.2.2.2.2.2.2.1 x.2.2.2.2.2.2.2.2.2.2.2.2.2.2.2.2.2.2.2.2.2.2.2.2.2.2.2.2.2.2.1 x.2.2.2.2.2.2.2.2.2.2.2.2.2.2.2.2.2.2.2.2.2.2.2.2.2.2.2.2.2.2.2.1 x.2.2.2.2.2.2.2.2.2.2.2.2.2.2.2.2.2.2.2.2.2.2.2.2.2.2.2.2.2.2.2.2.1 x.2.2.2.2.2.2.2.2.2.2.2.2.2.2.2.2.2.2.2.2.2.2.2.2.2.2.2.2.2.2.2.2.2.1 x.2.2.2.2.2.2.2.2.2.2.2.2.2.2.2.2.2.2.2.2.2.2.2.2.2.2.2.2.2.2.2.2.2.2.1 x.2.2.2.2.2.2.2.2.2.2.2.2.2.2.2.2.2.2.2.2.2.2.2.2.2.2.2.2.2.2.2.2.2.2.2.1 x.2.2.2.2.2.2.2.2.2.2.2.2.2.2.2.2.2.2.2.2.2.2.2.2.2.2.2.2.2.2.2.2.2.2.2.2.1 x.2.2.2.2.2.2.2.2.2.2.2.2.2.2.2.2.2.2.2.2.2.2.2.2.2.2.2.2.2.2.2.2.2.2.2.2.2.1 x.2.2.2.2.2.2.2.2.2.2.2.2.2.2.2.2.2.2.2.2.2.2.2.2.2.2.2.2.2.2.2.2.2.2.2.2.2.2.1 x.2.2.2.2.2.2.2.2.2.2.2.2.2.2.2.2.2.2.2.2.2.2.2.2.2.2.2.2.2.2.2.2.2.2.2.2.2.2.2.1 x.2.2.2.2.2.2.2.2.2.2.2.2.2.2.2.2.2.2.2.2.2.2.2.2.2.2.2.2.2.2.2.2.2.2.2.2.2.2.2.2.1 x.2.2.2.2.2.2.2.2.2.2.2.2.2.2.2.2.2.2.2.2.2.2.2.2.2.2.2.2.2.2.2.2.2.2.2.2.2.2.2.2.2.1 x.2.2.2.2.2.2.2.2.2.2.2.2.2.2.2.2.2.2.2.2.2.2.2.2.2.2.2.2.2.2.2.2.2.2.2.2.2.2.2.2.2.2.1 x.2.2.2.2.2.2.2.2.2.2.2.2.2.2.2.2.2.2.2.2.2.2.2.2.2.2.2.2.2.2.2.2.2.2.2.2.2.2.2.2.2.2.2.1 x.2.2.2.2.2.2.2.2.2.2.2.2.2.2.2.2.2.2.2.2.2.2.2.2.2.2.2.2.2.2.2.2.2.2.2.2.2.2.2.2.2.2.2.2.1 x.2.2.2.2.2.2.2.2.2.2.2.2.2.2.2.2.2.2.2.2.2.2.2.2.2.2.2.2.2.2.2.2.2.2.2.2.2.2.2.2.2.2.2.2.2.1 x.2.2.2.2.2.2.2.2.2.2.2.2.2.2.2.2.2.2.2.2.2.2.2.2.2.2.2.2.2.2.2.2.2.2.2.2.2.2.2.2.2.2.2.2.2.2.1 x.2.2.2.2.2.2.2.2.2.2.2.2.2.2.2.2.2.2.2.2.2.2.2.2.2.2.2.2.2.2.2.2.2.2.2.2.2.2.2.2.2.2.2.2.2.2.2.1 x.2.2.2.2.2.2.2.2.2.2.2.2.2.2.2.2.2.2.2.2.2.2.2.2.2.2.2.2.2.2.2.2.2.2.2.2.2.2.2.2.2.2.2.2.2.2.2.2.1 x.2.2.2.2.2.2.2.2.2.2.2.2.2.2.2.2.2.2.2.2.2.2.2.2.2.2.2.2.2.2.2.2.2.2.2.2.2.2.2.2.2.2.2.2.2.2.2.2.2.1 x.2.2.2.2.2.2.2.2.2.2.2.2.2.2.2.2.2.2.2.2.2.2.2.2.2.2.2.2.2.2.2.2.2.2.2.2.2.2.2.2.2.2.2.2.2.2.2.2.2.2.1 x.2.2.2.2.2.2.2.2.2.2.2.2.2.2.2.2.2.2.2.2.2.2.2.2.2.2.2.2.2.2.2.2.2.2.2.2.2.2.2.2.2.2.2.2.2.2.2.2.2.2.2.1 x.2.2.2.2.2.2.2.2.2.2.2.2.2.2.2.2.2.2.2.2.2.2.2.2.2.2.2.2.2.2.2.2.2.2.2.2.2.2.2.2.2.2.2.2.2.2.2.2.2.2.2.2.1 x.2.2.2.2.2.2.2.2.2.2.2.2.2.2.2.2.2.2.2.2.2.2.2.2.2.2.2.2.2.2.2.2.2.2.2.2.2.2.2.2.2.2.2.2.2.2.2.2.2.2.2.2.2.1 x.2.2.2.2.2.2.2.2.2.2.2.2.2.2.2.2.2.2.2.2.2.2.2.2.2.2.2.2.2.2.2.2.2.2.2.2.2.2.2.2.2.2.2.2.2.2.2.2.2.2.2.2.2.2.1 x.2.2.2.2.2.2.2.2.2.2.2.2.2.2.2.2.2.2.2.2.2.2.2.2.2.2.2.2.2.2.2.2.2.2.2.2.2.2.2.2.2.2.2.2.2.2.2.2.2.2.2.2.2.2.2.1 x.2.2.2.2.2.2.2.2.2.2.2.2.2.2.2.2.2.2.2.2.2.2.2.2.2.2.2.2.2.2.2.2.2.2.2.2.2.2.2.2.2.2.2.2.2.2.2.2.2.2.2.2.2.2.2.2.1 x.2.2.2.2.2.2.2.2.2.2.2.2.2.2.2.2.2.2.2.2.2.2.2.2.2.2.2.2.2.2.2.2.2.2.2.2.2.2.2.2.2.2.2.2.2.2.2.2.2.2.2.2.2.2.2.2.2.1 x.2.2.2.2.2.2.2.2.2.2.2.2.2.2.2.2.2.2.2.2.2.2.2.2.2.2.2.2.2.2.2.2.2.2.2.2.2.2.2.2.2.2.2.2.2.2.2.2.2.2.2.2.2.2.2.2.2.2.1 x.2.2.2.2.2.2.2.2.2.2.2.2.2.2.2.2.2.2.2.2.2.2.2.2.2.2.2.2.2.2.2.2.2.2.2.2.2.2.2.2.2.2.2.2.2.2.2.2.2.2.2.2.2.2.2.2.2.2.2.1 x.2.2.2.2.2.2.2.2.2.2.2.2.2.2.2.2.2.2.2.2.2.2.2.2.2.2.2.2.2.2.2.2.2.2.2.2.2.2.2.2.2.2.2.2.2.2.2.2.2.2.2.2.2.2.2.2.2.2.2.2.1 x.2.2.2.2.2.2.2.2.2.2.2.2.2.2.2.2.2.2.2.2.2.2.2.2.2.2.2.2.2.2.2.2.2.2.2.2.2.2.2.2.2.2.2.2.2.2.2.2.2.2.2.2.2.2.2.2.2.2.2.2.2.1 x.2.2.2.2.2.2.2.2.2.2.2.2.2.2.2.2.2.2.2.2.2.2.2.2.2.2.2.2.2.2.2.2.2.2.2.2.2.2.2.2.2.2.2.2.2.2.2.2.2.2.2.2.2.2.2.2.2.2.2.2.2.2.1 x.2.2.2.2.2.2.2.2.2.2.2.2.2.2.2.2.2.2.2.2.2.2.2.2.2.2.2.2.2.2.2.2.2.2.2.2.2.2.2.2.2.2.2.2.2.2.2.2.2.2.2.2.2.2.2.2.2.2.2.2.2.2.2.1 x.2.2.2.2.2.2.2.2.2.2.2.2.2.2.2.2.2.2.2.2.2.2.2.2.2.2.2.2.2.2.2.2.2.2.2.2.2.2.2.2.2.2.2.2.2.2.2.2.2.2.2.2.2.2.2.2.2.2.2.2.2.2.2.2.1 x.2.2.2.2.2.2.2.2.2.2.2.2.2.2.2.2.2.2.2.2.2.2.2.2.2.2.2.2.2.2.2.2.2.2.2.2.2.2.2.2.2.2.2.2.2.2.2.2.2.2.2.2.2.2.2.2.2.2.2.2.2.2.2.2.2.1 x.2.2.2.2.2.2.2.2.2.2.2.2.2.2.2.2.2.2.2.2.2.2.2.2.2.2.2.2.2.2.2.2.2.2.2.2.2.2.2.2.2.2.2.2.2.2.2.2.2.2.2.2.2.2.2.2.2.2.2.2.2.2.2.2.2.2.1 x.2.2.2.2.2.2.2.2.2.2.2.2.2.2.2.2.2.2.2.2.2.2.2.2.2.2.2.2.2.2.2.2.2.2.2.2.2.2.2.2.2.2.2.2.2.2.2.2.2.2.2.2.2.2.2.2.2.2.2.2.2.2.2.2.2.2.2.1 x.2.2.2.2.2.2.2.2.2.2.2.2.2.2.2.2.2.2.2.2.2.2.2.2.2.2.2.2.2.2.2.2.2.2.2.2.2.2.2.2.2.2.2.2.2.2.2.2.2.2.2.2.2.2.2.2.2.2.2.2.2.2.2.2.2.2.2.2.1 x.2.2.2.2.2.2.2.2.2.2.2.2.2.2.2.2.2.2.2.2.2.2.2.2.2.2.2.2.2.2.2.2.2.2.2.2.2.2.2.2.2.2.2.2.2.2.2.2.2.2.2.2.2.2.2.2.2.2.2.2.2.2.2.2.2.2.2.2.2.1 x.2.2.2.2.2.2.2.2.2.2.2.2.2.2.2.2.2.2.2.2.2.2.2.2.2.2.2.2.2.2.2.2.2.2.2.2.2.2.2.2.2.2.2.2.2.2.2.2.2.2.2.2.2.2.2.2.2.2.2.2.2.2.2.2.2.2.2.2.2.2.1 x.2.2.2.2.2.2.2.2.2.2.2.2.2.2.2.2.2.2.2.2.2.2.2.2.2.2.2.2.2.2.2.2.2.2.2.2.2.2.2.2.2.2.2.2.2.2.2.2.2.2.2.2.2.2.2.2.2.2.2.2.2.2.2.2.2.2.2.2.2.2.2.1 x.2.2.2.2.2.2.2.2.2.2.2.2.2.2.2.2.2.2.2.2.2.2.2.2.2.2.2.2.2.2.2.2.2.2.2.2.2.2.2.2.2.2.2.2.2.2.2.2.2.2.2.2.2.2.2.2.2.2.2.2.2.2.2.2.2.2.2.2.2.2.2.2.1 x.2.2.2.2.2.2.2.2.2.2.2.2.2.2.2.2.2.2.2.2.2.2.2.2.2.2.2.2.2.2.2.2.2.2.2.2.2.2.2.2.2.2.2.2.2.2.2.2.2.2.2.2.2.2.2.2.2.2.2.2.2.2.2.2.2.2.2.2.2.2.2.2.2.1 x.2.2.2.2.2.2.2.2.2.2.2.2.2.2.2.2.2.2.2.2.2.2.2.2.2.2.2.2.2.2.2.2.2.2.2.2.2.2.2.2.2.2.2.2.2.2.2.2.2.2.2.2.2.2.2.2.2.2.2.2.2.2.2.2.2.2.2.2.2.2.2.2.2.2.1 x.2.2.2.2.2.2.2.2.2.2.2.2.2.2.2.2.2.2.2.2.2.2.2.2.2.2.2.2.2.2.2.2.2.2.2.2.2.2.2.2.2.2.2.2.2.2.2.2.2.2.2.2.2.2.2.2.2.2.2.2.2.2.2.2.2.2.2.2.2.2.2.2.2.2.2.1 x.2.2.2.2.2.2.2.2.2.2.2.2.2.2.2.2.2.2.2.2.2.2.2.2.2.2.2.2.2.2.2.2.2.2.2.2.2.2.2.2.2.2.2.2.2.2.2.2.2.2.2.2.2.2.2.2.2.2.2.2.2.2.2.2.2.2.2.2.2.2.2.2.2.2.2.2.1 x.2.2.2.2.2.2.2.2.2.2.2.2.2.2.2.2.2.2.2.2.2.2.2.2.2.2.2.2.2.2.2.2.2.2.2.2.2.2.2.2.2.2.2.2.2.2.2.2.2.2.2.2.2.2.2.2.2.2.2.2.2.2.2.2.2.2.2.2.2.2.2.2.2.2.2.2.2.1 x.2.2.2.2.2.2.2.2.2.2.2.2.2.2.2.2.2.2.2.2.2.2.2.2.2.2.2.2.2.2.2.2.2.2.2.2.2.2.2.2.2.2.2.2.2.2.2.2.2.2.2.2.2.2.2.2.2.2.2.2.2.2.2.2.2.2.2.2.2.2.2.2.2.2.2.2.2.2.1 x.2.2.2.2.2.2.2.2.2.2.2.2.2.2.2.2.2.2.2.2.2.2.2.2.2.2.2.2.2.2.2.2.2.2.2.2.2.2.2.2.2.2.2.2.2.2.2.2.2.2.2.2.2.2.2.2.2.2.2.2.2.2.2.2.2.2.2.2.2.2.2.2.2.2.2.2.2.2.2.1 x.2.2.2.2.2.2.2.2.2.2.2.2.2.2.2.2.2.2.2.2.2.2.2.2.2.2.2.2.2.2.2.2.2.2.2.2.2.2.2.2.2.2.2.2.2.2.2.2.2.2.2.2.2.2.2.2.2.2.2.2.2.2.2.2.2.2.2.2.2.2.2.2.2.2.2.2.2.2.2.2.1 x.2.2.2.2.2.2.2.2.2.2.2.2.2.2.2.2.2.2.2.2.2.2.2.2.2.2.2.2.2.2.2.2.2.2.2.2.2.2.2.2.2.2.2.2.2.2.2.2.2.2.2.2.2.2.2.2.2.2.2.2.2.2.2.2.2.2.2.2.2.2.2.2.2.2.2.2.2.2.2.2.2.1 x.2.2.2.2.2.2.2.2.2.2.2.2.2.2.2.2.2.2.2.2.2.2.2.2.2.2.2.2.2.2.2.2.2.2.2.2.2.2.2.2.2.2.2.2.2.2.2.2.2.2.2.2.2.2.2.2.2.2.2.2.2.2.2.2.2.2.2.2.2.2.2.2.2.2.2.2.2.2.2.2.2.2.1 x.2.2.2.2.2.2.2.2.2.2.2.2.2.2.2.2.2.2.2.2.2.2.2.2.2.2.2.2.2.2.2.2.2.2.2.2.2.2.2.2.2.2.2.2.2.2.2.2.2.2.2.2.2.2.2.2.2.2.2.2.2.2.2.2.2.2.2.2.2.2.2.2.2.2.2.2.2.2.2.2.2.2.2.1 x.2.2.2.2.2.2.2.2.2.2.2.2.2.2.2.2.2.2.2.2.2.2.2.2.2.2.2.2.2.2.2.2.2.2.2.2.2.2.2.2.2.2.2.2.2.2.2.2.2.2.2.2.2.2.2.2.2.2.2.2.2.2.2.2.2.2.2.2.2.2.2.2.2.2.2.2.2.2.2.2.2.2.2.2.1 x.2.2.2.2.2.2.2.2.2.2.2.2.2.2.2.2.2.2.2.2.2.2.2.2.2.2.2.2.2.2.2.2.2.2.2.2.2.2.2.2.2.2.2.2.2.2.2.2.2.2.2.2.2.2.2.2.2.2.2.2.2.2.2.2.2.2.2.2.2.2.2.2.2.2.2.2.2.2.2.2.2.2.2.2.2.1 x.2.2.2.2.2.2.2.2.2.2.2.2.2.2.2.2.2.2.2.2.2.2.2.2.2.2.2.2.2.2.2.2.2.2.2.2.2.2.2.2.2.2.2.2.2.2.2.2.2.2.2.2.2.2.2.2.2.2.2.2.2.2.2.2.2.2.2.2.2.2.2.2.2.2.2.2.2.2.2.2.2.2.2.2.2.2.1 x.2.2.2.2.2.2.2.2.2.2.2.2.2.2.2.2.2.2.2.2.2.2.2.2.2.2.2.2.2.2.2.2.2.2.2.2.2.2.2.2.2.2.2.2.2.2.2.2.2.2.2.2.2.2.2.2.2.2.2.2.2.2.2.2.2.2.2.2.2.2.2.2.2.2.2.2.2.2.2.2.2.2.2.2.2.2.2.1 x.2.2.2.2.2.2.2.2.2.2.2.2.2.2.2.2.2.2.2.2.2.2.2.2.2.2.2.2.2.2.2.2.2.2.2.2.2.2.2.2.2.2.2.2.2.2.2.2.2.2.2.2.2.2.2.2.2.2.2.2.2.2.2.2.2.2.2.2.2.2.2.2.2.2.2.2.2.2.2.2.2.2.2.2.2.2.2.2.1 x.2.2.2.2.2.2.2.2.2.2.2.2.2.2.2.2.2.2.2.2.2.2.2.2.2.2.2.2.2.2.2.2.2.2.2.2.2.2.2.2.2.2.2.2.2.2.2.2.2.2.2.2.2.2.2.2.2.2.2.2.2.2.2.2.2.2.2.2.2.2.2.2.2.2.2.2.2.2.2.2.2.2.2.2.2.2.2.2.2.1 x.2.2.2.2.2.2.2.2.2.2.2.2.2.2.2.2.2.2.2.2.2.2.2.2.2.2.2.2.2.2.2.2.2.2.2.2.2.2.2.2.2.2.2.2.2.2.2.2.2.2.2.2.2.2.2.2.2.2.2.2.2.2.2.2.2.2.2.2.2.2.2.2.2.2.2.2.2.2.2.2.2.2.2.2.2.2.2.2.2.2.1 x.2.2.2.2.2.2.2.2.2.2.2.2.2.2.2.2.2.2.2.2.2.2.2.2.2.2.2.2.2.2.2.2.2.2.2.2.2.2.2.2.2.2.2.2.2.2.2.2.2.2.2.2.2.2.2.2.2.2.2.2.2.2.2.2.2.2.2.2.2.2.2.2.2.2.2.2.2.2.2.2.2.2.2.2.2.2.2.2.2.2.2.1 x.2.2.2.2.2.2.2.2.2.2.2.2.2.2.2.2.2.2.2.2.2.2.2.2.2.2.2.2.2.2.2.2.2.2.2.2.2.2.2.2.2.2.2.2.2.2.2.2.2.2.2.2.2.2.2.2.2.2.2.2.2.2.2.2.2.2.2.2.2.2.2.2.2.2.2.2.2.2.2.2.2.2.2.2.2.2.2.2.2.2.2.2.1 x.2.2.2.2.2.2.2.2.2.2.2.2.2.2.2.2.2.2.2.2.2.2.2.2.2.2.2.2.2.2.2.2.2.2.2.2.2.2.2.2.2.2.2.2.2.2.2.2.2.2.2.2.2.2.2.2.2.2.2.2.2.2.2.2.2.2.2.2.2.2.2.2.2.2.2.2.2.2.2.2.2.2.2.2.2.2.2.2.2.2.2.2.2.1 x.2.2.2.2.2.2.2.2.2.2.2.2.2.2.2.2.2.2.2.2.2.2.2.2.2.2.2.2.2.2.2.2.2.2.2.2.2.2.2.2.2.2.2.2.2.2.2.2.2.2.2.2.2.2.2.2.2.2.2.2.2.2.2.2.2.2.2.2.2.2.2.2.2.2.2.2.2.2.2.2.2.2.2.2.2.2.2.2.2.2.2.2.2.2.1 x.2.2.2.2.2.2.2.2.2.2.2.2.2.2.2.2.2.2.2.2.2.2.2.2.2.2.2.2.2.2.2.2.2.2.2.2.2.2.2.2.2.2.2.2.2.2.2.2.2.2.2.2.2.2.2.2.2.2.2.2.2.2.2.2.2.2.2.2.2.2.2.2.2.2.2.2.2.2.2.2.2.2.2.2.2.2.2.2.2.2.2.2.2.2.2
def isW (hp : sxH) : Prop := ∃ x : tW, hp = wT x
/-- one call of the class and the same one of the reference, one behind the other, answer alike and keep Inv -/
def Agr (cl : sxX) (Inv : Nat → sxH → Prop) (yX yM : Nat) (As : List Value) : Prop := ∀ n hp, n < 600 → Inv n hp → cl yX (.ref 0 :: As) hp (fun r hp1 => (∃ v, r = some (.int v)) ∧ isW hp1 ∧ cl yM (.ref 59 :: As) hp1 (fun r2 hp2 => r2 = r ∧ Inv (n + 1) hp2))
def AgrL (cl : sxX) (Inv : Nat → sxH → Prop) (yX yM : Nat) (As : List Value) : Prop := ∀ n hp, n < 600 → Inv n hp → cl yX (.ref 0 :: As) hp (fun r hp1 => (∃ v, r = some (.long v)) ∧ isW hp1 ∧ cl yM (.ref 59 :: As) hp1 (fun r2 hp2 => r2 = r ∧ Inv (n + 1) hp2))
def Ops (cl : sxX) (Inv : Nat → sxH → Prop) : Prop :=
  (∀ (a0 : Int32) (a1 : Int32), Agr cl Inv 91 153 [.int a0, .int a1]) ∧
  (∀ (a0 : Int32) (a1 : Int32) (a2 : Int32), Agr cl Inv 92 154 [.int a0, .int a1, .int a2]) ∧
  (∀ (a0 : Int32), Agr cl Inv 93 178 [.int a0]) ∧
  (∀ (a0 : Int32), Agr cl Inv 94 179 [.int a0]) ∧
  (∀ (a0 : Int32), Agr cl Inv 95 180 [.int a0]) ∧
  (∀ (a0 : Int32), Agr cl Inv 96 182 [.int a0]) ∧
  (∀ (a0 : Int32), Agr cl Inv 97 187 [.int a0]) ∧
  (Agr cl Inv 98 199 []) ∧
  (∀ (a0 : Int32) (a1 : Int32), Agr cl Inv 103 200 [.int a0, .int a1]) ∧
  (∀ (a0 : Int32), Agr cl Inv 104 202 [.int a0]) ∧
  (∀ (a0 : Int32), Agr cl Inv 105 203 [.int a0]) ∧
  (∀ (a0 : Int32) (a1 : Int32), Agr cl Inv 106 204 [.int a0, .int a1]) ∧
  (∀ (a0 : Int32) (a1 : Int32), Agr cl Inv 108 205 [.int a0, .int a1]) ∧
  (∀ (a0 : Int32), Agr cl Inv 109 206 [.int a0]) ∧
  (∀ (a0 : Int32), Agr cl Inv 110 185 [.int a0]) ∧
  (∀ (a0 : Int32), Agr cl Inv 111 186 [.int a0]) ∧
  (∀ (a0 : Int32), Agr cl Inv 112 213 [.int a0]) ∧
  (∀ (a0 : Int32) (a1 : Int32), Agr cl Inv 113 214 [.int a0, .int a1]) ∧
  (∀ (a0 : Int32), Agr cl Inv 114 215 [.int a0]) ∧
  (∀ (a0 : Int32), Agr cl Inv 115 217 [.int a0]) ∧
  (∀ (a0 : Int32) (a1 : Int32), Agr cl Inv 116 220 [.int a0, .int a1]) ∧
  (AgrL cl Inv 117 222 []) ∧
  (∀ (a0 : Int32) (a1 : Int32) (a2 : Int32) (a3 : Int32), AgrL cl Inv 119 224 [.int a0, .int a1, .int a2, .int a3]) ∧
  (AgrL cl Inv 121 225 []) ∧
  (∀ (a0 : Int32) (a1 : Int32), Agr cl Inv 122 226 [.int a0, .int a1]) ∧
  (∀ (a0 : Int32), Agr cl Inv 123 228 [.int a0]) ∧
  (∀ (a0 : Int32) (a1 : Int32), Agr cl Inv 125 229 [.int a0, .int a1]) ∧
  (Agr cl Inv 126 230 []) ∧
  (∀ (a0 : Int32) (a1 : Int32), Agr cl Inv 127 232 [.int a0, .int a1]) ∧
  (Agr cl Inv 128 234 []) ∧
  (Agr cl Inv 129 235 []) ∧
  (∀ (a0 : Int32), Agr cl Inv 130 236 [.int a0]) ∧
  (∀ (a0 : Int32) (a1 : Int32) (a2 : Int32), Agr cl Inv 131 237 [.int a0, .int a1, .int a2]) ∧
  (∀ (a0 : Int32) (a1 : Int32) (a2 : Int64), Agr cl Inv 132 239 [.int a0, .int a1, .long a2]) ∧
  (∀ (a0 : Int32) (a1 : Int32), AgrL cl Inv 133 240 [.int a0, .int a1]) ∧
  (∀ (a0 : Int32) (a1 : Int32) (a2 : Int32) (a3 : Int32) (a4 : Int32), Agr cl Inv 134 241 [.int a0, .int a1, .int a2, .int a3, .int a4])
theorem lwcall {call : sxX} {y : Nat} {P : sxC → Prop} {dat : List Nat} {pc : Nat} {L : sxL} {As rest : List Value} {hp : sxH} {cu su : Nat} (h1 : Nat.ble (sxCat rest) 8 = true) (h2 : cu + mMc (sd0 dat) ≤ mMc y) (h3 : su + mMs (sd0 dat) ≤ mMs y) (h : call (sd0 dat) As hp (fun r hp' => P (pc + 3, L, r.toList ++ rest, hp', cu + mMc (sd0 dat), su + mMs (sd0 dat)))) : sxCall call y P dat pc L As rest hp cu su := by
  unfold sxCall
  rw [h1, Nat.ble_eq_true_of_le h2, Nat.ble_eq_true_of_le h3]
  exact h
theorem lw_in {i k L : Nat} (h : i + k < L) (hL : L ≤ 3072) : vp_in (nI i + nI k) L := by
  rw [nI_add]
  exact vp_in_nI h (by omega)
theorem lw_in0 {i L : Nat} (h : i < L) (hL : L ≤ 3072) : vp_in (nI i) L := vp_in_nI h (by omega)
theorem lw_gt {i L : Nat} (hi : i ≤ 6000) (hL : L ≤ 3072) : (nI L - 6 < nI i) ↔ L < i + 6 := by
  have e : nI L - 6 = iZ ((L : Int) - 6) := by
    show nI L - iZ 6 = _
    rw [iZ_nI, iZ_sub]
  rw [e, iZ_nI, iZ_lt (by unfold sm; omega) (by unfold sm; omega)]
  omega
section LAW
variable {sc : sxS} {Q : sxR} {cl : sxX} {Inv : Nat → sxH → Prop}
theorem le_c {cu n : Nat} (h : cu ≤ 81 + n) (hn : n ≤ 520) : cu + 0 ≤ 600000 := by omega
theorem le_s {su n : Nat} (h : su ≤ 5565 + 60 * n) (hn : n ≤ 520) : su + 0 ≤ 7302250 := by omega
theorem le_c1 {cu n : Nat} (h : cu ≤ 81 + n) (hn : n ≤ 520) : cu + 1 ≤ 600000 := by omega
theorem le_s1 {su n : Nat} (h : su ≤ 5565 + 60 * n) (hn : n ≤ 520) : su + 60 ≤ 7302250 := by omega
set_option maxRecDepth 10000 in
theorem law_0 {n i cu su : Nat} {hp : sxH} (hm : CallMono cl) (hO : Ops cl Inv) (hW : ∀ n hp, Inv n hp → isW hp) (hn : n ≤ 520) (hi : i + 6 ≤ sc.1) (hL : sc.1 ≤ 3072) (hI : Inv n hp) (hcu : cu ≤ 81 + n) (hsu : su ≤ 5565 + 60 * n) (hK : ∀ hp cu su, Inv (n + 1) hp → cu ≤ 81 + (n + 1) → su ≤ 5565 + 60 * (n + 1) → sxWP sc cl Q 257 (1224, [some (.ref 1000000), some (.ref 0), some (.ref 59), some (.int (nI i))], [], hp, cu, su)) : sxWP sc cl Q 257 (192, [some (.ref 1000000), some (.ref 0), some (.ref 59), some (.int (nI i))], [], hp, cu, su) := by
  have hop := hO.1
  obtain ⟨x, hw⟩ := hW _ _ hI
  subst hw
  refine stp hm 6 (And.intro (lw_in (k := 1) (by omega) hL) (?_ : sxWP sc cl Q 257 (198, [some (.ref 1000000), some (.ref 0), some (.ref 59), some (.int (nI i))], [.int (sc.2 (nI i + 1).toNatClampNeg), .ref 0], (wT x), cu, su)))
  refine stp hm 5 (And.intro (lw_in (k := 2) (by omega) hL) (?_ : sxWP sc cl Q 257 (203, [some (.ref 1000000), some (.ref 0), some (.ref 59), some (.int (nI i))], [.int (sc.2 (nI i + 2).toNatClampNeg), .int (sc.2 (nI i + 1).toNatClampNeg), .ref 0], (wT x), cu, su)))
  refine stp hm 1 (?_ : sxCall cl 257 (sxWP sc cl Q 257) [91, 2, 317, 0] 203 [some (.ref 1000000), some (.ref 0), some (.ref 59), some (.int (nI i))] [.ref 0, .int (sc.2 (nI i + 1).toNatClampNeg), .int (sc.2 (nI i + 2).toNatClampNeg)] [] (wT x) cu su)
  refine lwcall rfl (le_c hcu hn) (le_s hsu hn) ?_
  refine hm _ _ _ _ _ (fun r hp1 hq => ?_) (hop _ _ n _ (by omega) hI)
  obtain ⟨⟨v, rfl⟩, ⟨x1, rfl⟩, hM⟩ := hq
  show sxWP sc cl Q 257 (206, [some (.ref 1000000), some (.ref 0), some (.ref 59), some (.int (nI i))], [.int v], (wT x1), cu, su)
  refine stp hm 6 (And.intro (lw_in (k := 1) (by omega) hL) (?_ : sxWP sc cl Q 257 (212, [some (.ref 1000000), some (.ref 0), some (.ref 59), some (.int (nI i))], [.int (sc.2 (nI i + 1).toNatClampNeg), .ref 59, .int v], (wT x1), cu, su)))
  refine stp hm 5 (And.intro (lw_in (k := 2) (by omega) hL) (?_ : sxWP sc cl Q 257 (217, [some (.ref 1000000), some (.ref 0), some (.ref 59), some (.int (nI i))], [.int (sc.2 (nI i + 2).toNatClampNeg), .int (sc.2 (nI i + 1).toNatClampNeg), .ref 59, .int v], (wT x1), cu, su)))
  refine stp hm 1 (?_ : sxCall cl 257 (sxWP sc cl Q 257) [153, 2, 1020, 0] 217 [some (.ref 1000000), some (.ref 0), some (.ref 59), some (.int (nI i))] [.ref 59, .int (sc.2 (nI i + 1).toNatClampNeg), .int (sc.2 (nI i + 2).toNatClampNeg)] [.int v] (wT x1) cu su)
  refine lwcall rfl (le_c hcu hn) (le_s hsu hn) ?_
  refine hm _ _ _ _ _ (fun r2 hp2 hq => ?_) hM
  obtain ⟨rfl, hI2⟩ := hq
  show sxWP sc cl Q 257 (220, [some (.ref 1000000), some (.ref 0), some (.ref 59), some (.int (nI i))], [.int v, .int v], hp2, cu, su)
  refine stp hm 1 (bT rfl ?_)
  exact hK hp2 cu su hI2 (by omega) (by omega)
set_option maxRecDepth 10000 in
theorem law_1 {n i cu su : Nat} {hp : sxH} (hm : CallMono cl) (hO : Ops cl Inv) (hW : ∀ n hp, Inv n hp → isW hp) (hn : n ≤ 520) (hi : i + 6 ≤ sc.1) (hL : sc.1 ≤ 3072) (hI : Inv n hp) (hcu : cu ≤ 81 + n) (hsu : su ≤ 5565 + 60 * n) (hK : ∀ hp cu su, Inv (n + 1) hp → cu ≤ 81 + (n + 1) → su ≤ 5565 + 60 * (n + 1) → sxWP sc cl Q 257 (1224, [some (.ref 1000000), some (.ref 0), some (.ref 59), some (.int (nI i))], [], hp, cu, su)) : sxWP sc cl Q 257 (225, [some (.ref 1000000), some (.ref 0), some (.ref 59), some (.int (nI i))], [], hp, cu, su) := by
  have hop := hO.2.1
  obtain ⟨x, hw⟩ := hW _ _ hI
  subst hw
  refine stp hm 6 (And.intro (lw_in (k := 1) (by omega) hL) (?_ : sxWP sc cl Q 257 (231, [some (.ref 1000000), some (.ref 0), some (.ref 59), some (.int (nI i))], [.int (sc.2 (nI i + 1).toNatClampNeg), .ref 0], (wT x), cu, su)))
  refine stp hm 5 (And.intro (lw_in (k := 2) (by omega) hL) (?_ : sxWP sc cl Q 257 (236, [some (.ref 1000000), some (.ref 0), some (.ref 59), some (.int (nI i))], [.int (sc.2 (nI i + 2).toNatClampNeg), .int (sc.2 (nI i + 1).toNatClampNeg), .ref 0], (wT x), cu, su)))
  refine stp hm 5 (And.intro (lw_in (k := 3) (by omega) hL) (?_ : sxWP sc cl Q 257 (241, [some (.ref 1000000), some (.ref 0), some (.ref 59), some (.int (nI i))], [.int (sc.2 (nI i + 3).toNatClampNeg), .int (sc.2 (nI i + 2).toNatClampNeg), .int (sc.2 (nI i + 1).toNatClampNeg), .ref 0], (wT x), cu, su)))
  refine stp hm 1 (?_ : sxCall cl 257 (sxWP sc cl Q 257) [92, 3, 342, 0] 241 [some (.ref 1000000), some (.ref 0), some (.ref 59), some (.int (nI i))] [.ref 0, .int (sc.2 (nI i + 1).toNatClampNeg), .int (sc.2 (nI i + 2).toNatClampNeg), .int (sc.2 (nI i + 3).toNatClampNeg)] [] (wT x) cu su)
  refine lwcall rfl (le_c hcu hn) (le_s hsu hn) ?_
  refine hm _ _ _ _ _ (fun r hp1 hq => ?_) (hop _ _ _ n _ (by omega) hI)
  obtain ⟨⟨v, rfl⟩, ⟨x1, rfl⟩, hM⟩ := hq
  show sxWP sc cl Q 257 (244, [some (.ref 1000000), some (.ref 0), some (.ref 59), some (.int (nI i))], [.int v], (wT x1), cu, su)
  refine stp hm 6 (And.intro (lw_in (k := 1) (by omega) hL) (?_ : sxWP sc cl Q 257 (250, [some (.ref 1000000), some (.ref 0), some (.ref 59), some (.int (nI i))], [.int (sc.2 (nI i + 1).toNatClampNeg), .ref 59, .int v], (wT x1), cu, su)))
  refine stp hm 5 (And.intro (lw_in (k := 2) (by omega) hL) (?_ : sxWP sc cl Q 257 (255, [some (.ref 1000000), some (.ref 0), some (.ref 59), some (.int (nI i))], [.int (sc.2 (nI i + 2).toNatClampNeg), .int (sc.2 (nI i + 1).toNatClampNeg), .ref 59, .int v], (wT x1), cu, su)))
  refine stp hm 5 (And.intro (lw_in (k := 3) (by omega) hL) (?_ : sxWP sc cl Q 257 (260, [some (.ref 1000000), some (.ref 0), some (.ref 59), some (.int (nI i))], [.int (sc.2 (nI i + 3).toNatClampNeg), .int (sc.2 (nI i + 2).toNatClampNeg), .int (sc.2 (nI i + 1).toNatClampNeg), .ref 59, .int v], (wT x1), cu, su)))
  refine stp hm 1 (?_ : sxCall cl 257 (sxWP sc cl Q 257) [154, 3, 1038, 0] 260 [some (.ref 1000000), some (.ref 0), some (.ref 59), some (.int (nI i))] [.ref 59, .int (sc.2 (nI i + 1).toNatClampNeg), .int (sc.2 (nI i + 2).toNatClampNeg), .int (sc.2 (nI i + 3).toNatClampNeg)] [.int v] (wT x1) cu su)
  refine lwcall rfl (le_c hcu hn) (le_s hsu hn) ?_
  refine hm _ _ _ _ _ (fun r2 hp2 hq => ?_) hM
  obtain ⟨rfl, hI2⟩ := hq
  show sxWP sc cl Q 257 (263, [some (.ref 1000000), some (.ref 0), some (.ref 59), some (.int (nI i))], [.int v, .int v], hp2, cu, su)
  refine stp hm 1 (bT rfl ?_)
  exact hK hp2 cu su hI2 (by omega) (by omega)
set_option maxRecDepth 10000 in
theorem law_2 {n i cu su : Nat} {hp : sxH} (hm : CallMono cl) (hO : Ops cl Inv) (hW : ∀ n hp, Inv n hp → isW hp) (hn : n ≤ 520) (hi : i + 6 ≤ sc.1) (hL : sc.1 ≤ 3072) (hI : Inv n hp) (hcu : cu ≤ 81 + n) (hsu : su ≤ 5565 + 60 * n) (hK : ∀ hp cu su, Inv (n + 1) hp → cu ≤ 81 + (n + 1) → su ≤ 5565 + 60 * (n + 1) → sxWP sc cl Q 257 (1224, [some (.ref 1000000), some (.ref 0), some (.ref 59), some (.int (nI i))], [], hp, cu, su)) : sxWP sc cl Q 257 (268, [some (.ref 1000000), some (.ref 0), some (.ref 59), some (.int (nI i))], [], hp, cu, su) := by
  have hop := hO.2.2.1
  obtain ⟨x, hw⟩ := hW _ _ hI
  subst hw
  refine stp hm 6 (And.intro (lw_in (k := 1) (by omega) hL) (?_ : sxWP sc cl Q 257 (274, [some (.ref 1000000), some (.ref 0), some (.ref 59), some (.int (nI i))], [.int (sc.2 (nI i + 1).toNatClampNeg), .ref 0], (wT x), cu, su)))
  refine stp hm 1 (?_ : sxCall cl 257 (sxWP sc cl Q 257) [93, 1, 355, 0] 274 [some (.ref 1000000), some (.ref 0), some (.ref 59), some (.int (nI i))] [.ref 0, .int (sc.2 (nI i + 1).toNatClampNeg)] [] (wT x) cu su)
  refine lwcall rfl (le_c hcu hn) (le_s hsu hn) ?_
  refine hm _ _ _ _ _ (fun r hp1 hq => ?_) (hop _ n _ (by omega) hI)
  obtain ⟨⟨v, rfl⟩, ⟨x1, rfl⟩, hM⟩ := hq
  show sxWP sc cl Q 257 (277, [some (.ref 1000000), some (.ref 0), some (.ref 59), some (.int (nI i))], [.int v], (wT x1), cu, su)
  refine stp hm 6 (And.intro (lw_in (k := 1) (by omega) hL) (?_ : sxWP sc cl Q 257 (283, [some (.ref 1000000), some (.ref 0), some (.ref 59), some (.int (nI i))], [.int (sc.2 (nI i + 1).toNatClampNeg), .ref 59, .int v], (wT x1), cu, su)))
  refine stp hm 1 (?_ : sxCall cl 257 (sxWP sc cl Q 257) [178, 1, 1051, 0] 283 [some (.ref 1000000), some (.ref 0), some (.ref 59), some (.int (nI i))] [.ref 59, .int (sc.2 (nI i + 1).toNatClampNeg)] [.int v] (wT x1) cu su)
  refine lwcall rfl (le_c hcu hn) (le_s hsu hn) ?_
  refine hm _ _ _ _ _ (fun r2 hp2 hq => ?_) hM
  obtain ⟨rfl, hI2⟩ := hq
  show sxWP sc cl Q 257 (286, [some (.ref 1000000), some (.ref 0), some (.ref 59), some (.int (nI i))], [.int v, .int v], hp2, cu, su)
  refine stp hm 1 (bT rfl ?_)
  exact hK hp2 cu su hI2 (by omega) (by omega)
set_option maxRecDepth 10000 in
theorem law_3 {n i cu su : Nat} {hp : sxH} (hm : CallMono cl) (hO : Ops cl Inv) (hW : ∀ n hp, Inv n hp → isW hp) (hn : n ≤ 520) (hi : i + 6 ≤ sc.1) (hL : sc.1 ≤ 3072) (hI : Inv n hp) (hcu : cu ≤ 81 + n) (hsu : su ≤ 5565 + 60 * n) (hK : ∀ hp cu su, Inv (n + 1) hp → cu ≤ 81 + (n + 1) → su ≤ 5565 + 60 * (n + 1) → sxWP sc cl Q 257 (1224, [some (.ref 1000000), some (.ref 0), some (.ref 59), some (.int (nI i))], [], hp, cu, su)) : sxWP sc cl Q 257 (291, [some (.ref 1000000), some (.ref 0), some (.ref 59), some (.int (nI i))], [], hp, cu, su) := by
  have hop := hO.2.2.2.1
  obtain ⟨x, hw⟩ := hW _ _ hI
  subst hw
  refine stp hm 6 (And.intro (lw_in (k := 1) (by omega) hL) (?_ : sxWP sc cl Q 257 (297, [some (.ref 1000000), some (.ref 0), some (.ref 59), some (.int (nI i))], [.int (sc.2 (nI i + 1).toNatClampNeg), .ref 0], (wT x), cu, su)))
  refine stp hm 1 (?_ : sxCall cl 257 (sxWP sc cl Q 257) [94, 1, 486, 0] 297 [some (.ref 1000000), some (.ref 0), some (.ref 59), some (.int (nI i))] [.ref 0, .int (sc.2 (nI i + 1).toNatClampNeg)] [] (wT x) cu su)
  refine lwcall rfl (le_c hcu hn) (le_s hsu hn) ?_
  refine hm _ _ _ _ _ (fun r hp1 hq => ?_) (hop _ n _ (by omega) hI)
  obtain ⟨⟨v, rfl⟩, ⟨x1, rfl⟩, hM⟩ := hq
  show sxWP sc cl Q 257 (300, [some (.ref 1000000), some (.ref 0), some (.ref 59), some (.int (nI i))], [.int v], (wT x1), cu, su)
  refine stp hm 6 (And.intro (lw_in (k := 1) (by omega) hL) (?_ : sxWP sc cl Q 257 (306, [some (.ref 1000000), some (.ref 0), some (.ref 59), some (.int (nI i))], [.int (sc.2 (nI i + 1).toNatClampNeg), .ref 59, .int v], (wT x1), cu, su)))
  refine stp hm 1 (?_ : sxCall cl 257 (sxWP sc cl Q 257) [179, 1, 1144, 0] 306 [some (.ref 1000000), some (.ref 0), some (.ref 59), some (.int (nI i))] [.ref 59, .int (sc.2 (nI i + 1).toNatClampNeg)] [.int v] (wT x1) cu su)
  refine lwcall rfl (le_c hcu hn) (le_s hsu hn) ?_
  refine hm _ _ _ _ _ (fun r2 hp2 hq => ?_) hM
  obtain ⟨rfl, hI2⟩ := hq
  show sxWP sc cl Q 257 (309, [some (.ref 1000000), some (.ref 0), some (.ref 59), some (.int (nI i))], [.int v, .int v], hp2, cu, su)
  refine stp hm 1 (bT rfl ?_)
  exact hK hp2 cu su hI2 (by omega) (by omega)
set_option maxRecDepth 10000 in
theorem law_4 {n i cu su : Nat} {hp : sxH} (hm : CallMono cl) (hO : Ops cl Inv) (hW : ∀ n hp, Inv n hp → isW hp) (hn : n ≤ 520) (hi : i + 6 ≤ sc.1) (hL : sc.1 ≤ 3072) (hI : Inv n hp) (hcu : cu ≤ 81 + n) (hsu : su ≤ 5565 + 60 * n) (hK : ∀ hp cu su, Inv (n + 1) hp → cu ≤ 81 + (n + 1) → su ≤ 5565 + 60 * (n + 1) → sxWP sc cl Q 257 (1224, [some (.ref 1000000), some (.ref 0), some (.ref 59), some (.int (nI i))], [], hp, cu, su)) : sxWP sc cl Q 257 (314, [some (.ref 1000000), some (.ref 0), some (.ref 59), some (.int (nI i))], [], hp, cu, su) := by
  have hop := hO.2.2.2.2.1
  obtain ⟨x, hw⟩ := hW _ _ hI
  subst hw
  refine stp hm 6 (And.intro (lw_in (k := 1) (by omega) hL) (?_ : sxWP sc cl Q 257 (320, [some (.ref 1000000), some (.ref 0), some (.ref 59), some (.int (nI i))], [.int (sc.2 (nI i + 1).toNatClampNeg), .ref 0], (wT x), cu, su)))
  refine stp hm 1 (?_ : sxCall cl 257 (sxWP sc cl Q 257) [95, 1, 497, 0] 320 [some (.ref 1000000), some (.ref 0), some (.ref 59), some (.int (nI i))] [.ref 0, .int (sc.2 (nI i + 1).toNatClampNeg)] [] (wT x) cu su)
  refine lwcall rfl (le_c hcu hn) (le_s hsu hn) ?_
  refine hm _ _ _ _ _ (fun r hp1 hq => ?_) (hop _ n _ (by omega) hI)
  obtain ⟨⟨v, rfl⟩, ⟨x1, rfl⟩, hM⟩ := hq
  show sxWP sc cl Q 257 (323, [some (.ref 1000000), some (.ref 0), some (.ref 59), some (.int (nI i))], [.int v], (wT x1), cu, su)
  refine stp hm 6 (And.intro (lw_in (k := 1) (by omega) hL) (?_ : sxWP sc cl Q 257 (329, [some (.ref 1000000), some (.ref 0), some (.ref 59), some (.int (nI i))], [.int (sc.2 (nI i + 1).toNatClampNeg), .ref 59, .int v], (wT x1), cu, su)))
  refine stp hm 1 (?_ : sxCall cl 257 (sxWP sc cl Q 257) [180, 1, 1151, 0] 329 [some (.ref 1000000), some (.ref 0), some (.ref 59), some (.int (nI i))] [.ref 59, .int (sc.2 (nI i + 1).toNatClampNeg)] [.int v] (wT x1) cu su)
  refine lwcall rfl (le_c hcu hn) (le_s hsu hn) ?_
  refine hm _ _ _ _ _ (fun r2 hp2 hq => ?_) hM
  obtain ⟨rfl, hI2⟩ := hq
  show sxWP sc cl Q 257 (332, [some (.ref 1000000), some (.ref 0), some (.ref 59), some (.int (nI i))], [.int v, .int v], hp2, cu, su)
  refine stp hm 1 (bT rfl ?_)
  exact hK hp2 cu su hI2 (by omega) (by omega)
set_option maxRecDepth 10000 in
theorem law_5 {n i cu su : Nat} {hp : sxH} (hm : CallMono cl) (hO : Ops cl Inv) (hW : ∀ n hp, Inv n hp → isW hp) (hn : n ≤ 520) (hi : i + 6 ≤ sc.1) (hL : sc.1 ≤ 3072) (hI : Inv n hp) (hcu : cu ≤ 81 + n) (hsu : su ≤ 5565 + 60 * n) (hK : ∀ hp cu su, Inv (n + 1) hp → cu ≤ 81 + (n + 1) → su ≤ 5565 + 60 * (n + 1) → sxWP sc cl Q 257 (1224, [some (.ref 1000000), some (.ref 0), some (.ref 59), some (.int (nI i))], [], hp, cu, su)) : sxWP sc cl Q 257 (337, [some (.ref 1000000), some (.ref 0), some (.ref 59), some (.int (nI i))], [], hp, cu, su) := by
  have hop := hO.2.2.2.2.2.1
  obtain ⟨x, hw⟩ := hW _ _ hI
  subst hw
  refine stp hm 6 (And.intro (lw_in (k := 1) (by omega) hL) (?_ : sxWP sc cl Q 257 (343, [some (.ref 1000000), some (.ref 0), some (.ref 59), some (.int (nI i))], [.int (sc.2 (nI i + 1).toNatClampNeg), .ref 0], (wT x), cu, su)))
  refine stp hm 1 (?_ : sxCall cl 257 (sxWP sc cl Q 257) [96, 1, 505, 0] 343 [some (.ref 1000000), some (.ref 0), some (.ref 59), some (.int (nI i))] [.ref 0, .int (sc.2 (nI i + 1).toNatClampNeg)] [] (wT x) cu su)
  refine lwcall rfl (le_c hcu hn) (le_s hsu hn) ?_
  refine hm _ _ _ _ _ (fun r hp1 hq => ?_) (hop _ n _ (by omega) hI)
  obtain ⟨⟨v, rfl⟩, ⟨x1, rfl⟩, hM⟩ := hq
  show sxWP sc cl Q 257 (346, [some (.ref 1000000), some (.ref 0), some (.ref 59), some (.int (nI i))], [.int v], (wT x1), cu, su)
  refine stp hm 6 (And.intro (lw_in (k := 1) (by omega) hL) (?_ : sxWP sc cl Q 257 (352, [some (.ref 1000000), some (.ref 0), some (.ref 59), some (.int (nI i))], [.int (sc.2 (nI i + 1).toNatClampNeg), .ref 59, .int v], (wT x1), cu, su)))
  refine stp hm 1 (?_ : sxCall cl 257 (sxWP sc cl Q 257) [182, 1, 1155, 0] 352 [some (.ref 1000000), some (.ref 0), some (.ref 59), some (.int (nI i))] [.ref 59, .int (sc.2 (nI i + 1).toNatClampNeg)] [.int v] (wT x1) cu su)
  refine lwcall rfl (le_c hcu hn) (le_s hsu hn) ?_
  refine hm _ _ _ _ _ (fun r2 hp2 hq => ?_) hM
  obtain ⟨rfl, hI2⟩ := hq
  show sxWP sc cl Q 257 (355, [some (.ref 1000000), some (.ref 0), some (.ref 59), some (.int (nI i))], [.int v, .int v], hp2, cu, su)
  refine stp hm 1 (bT rfl ?_)
  exact hK hp2 cu su hI2 (by omega) (by omega)
set_option maxRecDepth 10000 in
theorem law_6 {n i cu su : Nat} {hp : sxH} (hm : CallMono cl) (hO : Ops cl Inv) (hW : ∀ n hp, Inv n hp → isW hp) (hn : n ≤ 520) (hi : i + 6 ≤ sc.1) (hL : sc.1 ≤ 3072) (hI : Inv n hp) (hcu : cu ≤ 81 + n) (hsu : su ≤ 5565 + 60 * n) (hK : ∀ hp cu su, Inv (n + 1) hp → cu ≤ 81 + (n + 1) → su ≤ 5565 + 60 * (n + 1) → sxWP sc cl Q 257 (1224, [some (.ref 1000000), some (.ref 0), some (.ref 59), some (.int (nI i))], [], hp, cu, su)) : sxWP sc cl Q 257 (360, [some (.ref 1000000), some (.ref 0), some (.ref 59), some (.int (nI i))], [], hp, cu, su) := by
  have hop := hO.2.2.2.2.2.2.1
  obtain ⟨x, hw⟩ := hW _ _ hI
  subst hw
  refine stp hm 6 (And.intro (lw_in (k := 1) (by omega) hL) (?_ : sxWP sc cl Q 257 (366, [some (.ref 1000000), some (.ref 0), some (.ref 59), some (.int (nI i))], [.int (sc.2 (nI i + 1).toNatClampNeg), .ref 0], (wT x), cu, su)))
  refine stp hm 1 (?_ : sxCall cl 257 (sxWP sc cl Q 257) [97, 1, 523, 0] 366 [some (.ref 1000000), some (.ref 0), some (.ref 59), some (.int (nI i))] [.ref 0, .int (sc.2 (nI i + 1).toNatClampNeg)] [] (wT x) cu su)
  refine lwcall rfl (le_c hcu hn) (le_s hsu hn) ?_
  refine hm _ _ _ _ _ (fun r hp1 hq => ?_) (hop _ n _ (by omega) hI)
  obtain ⟨⟨v, rfl⟩, ⟨x1, rfl⟩, hM⟩ := hq
  show sxWP sc cl Q 257 (369, [some (.ref 1000000), some (.ref 0), some (.ref 59), some (.int (nI i))], [.int v], (wT x1), cu, su)
  refine stp hm 6 (And.intro (lw_in (k := 1) (by omega) hL) (?_ : sxWP sc cl Q 257 (375, [some (.ref 1000000), some (.ref 0), some (.ref 59), some (.int (nI i))], [.int (sc.2 (nI i + 1).toNatClampNeg), .ref 59, .int v], (wT x1), cu, su)))
  refine stp hm 1 (?_ : sxCall cl 257 (sxWP sc cl Q 257) [187, 1, 1179, 0] 375 [some (.ref 1000000), some (.ref 0), some (.ref 59), some (.int (nI i))] [.ref 59, .int (sc.2 (nI i + 1).toNatClampNeg)] [.int v] (wT x1) cu su)
  refine lwcall rfl (le_c hcu hn) (le_s hsu hn) ?_
  refine hm _ _ _ _ _ (fun r2 hp2 hq => ?_) hM
  obtain ⟨rfl, hI2⟩ := hq
  show sxWP sc cl Q 257 (378, [some (.ref 1000000), some (.ref 0), some (.ref 59), some (.int (nI i))], [.int v, .int v], hp2, cu, su)
  refine stp hm 1 (bT rfl ?_)
  exact hK hp2 cu su hI2 (by omega) (by omega)
set_option maxRecDepth 10000 in
theorem law_7 {n i cu su : Nat} {hp : sxH} (hm : CallMono cl) (hO : Ops cl Inv) (hW : ∀ n hp, Inv n hp → isW hp) (hn : n ≤ 520) (hi : i + 6 ≤ sc.1) (hL : sc.1 ≤ 3072) (hI : Inv n hp) (hcu : cu ≤ 81 + n) (hsu : su ≤ 5565 + 60 * n) (hK : ∀ hp cu su, Inv (n + 1) hp → cu ≤ 81 + (n + 1) → su ≤ 5565 + 60 * (n + 1) → sxWP sc cl Q 257 (1224, [some (.ref 1000000), some (.ref 0), some (.ref 59), some (.int (nI i))], [], hp, cu, su)) : sxWP sc cl Q 257 (383, [some (.ref 1000000), some (.ref 0), some (.ref 59), some (.int (nI i))], [], hp, cu, su) := by
  have hop := hO.2.2.2.2.2.2.2.1
  obtain ⟨x, hw⟩ := hW _ _ hI
  subst hw
  refine stp hm 2 (?_ : sxCall cl 257 (sxWP sc cl Q 257) [98, 0, 531, 0] 384 [some (.ref 1000000), some (.ref 0), some (.ref 59), some (.int (nI i))] [.ref 0] [] (wT x) cu su)
  refine lwcall rfl (le_c hcu hn) (le_s hsu hn) ?_
  refine hm _ _ _ _ _ (fun r hp1 hq => ?_) (hop n _ (by omega) hI)
  obtain ⟨⟨v, rfl⟩, ⟨x1, rfl⟩, hM⟩ := hq
  show sxWP sc cl Q 257 (387, [some (.ref 1000000), some (.ref 0), some (.ref 59), some (.int (nI i))], [.int v], (wT x1), cu, su)
  refine stp hm 2 (?_ : sxCall cl 257 (sxWP sc cl Q 257) [199, 0, 1183, 0] 388 [some (.ref 1000000), some (.ref 0), some (.ref 59), some (.int (nI i))] [.ref 59] [.int v] (wT x1) cu su)
  refine lwcall rfl (le_c hcu hn) (le_s hsu hn) ?_
  refine hm _ _ _ _ _ (fun r2 hp2 hq => ?_) hM
  obtain ⟨rfl, hI2⟩ := hq
  show sxWP sc cl Q 257 (391, [some (.ref 1000000), some (.ref 0), some (.ref 59), some (.int (nI i))], [.int v, .int v], hp2, cu, su)
  refine stp hm 1 (bT rfl ?_)
  exact hK hp2 cu su hI2 (by omega) (by omega)
set_option maxRecDepth 10000 in
theorem law_8 {n i cu su : Nat} {hp : sxH} (hm : CallMono cl) (hO : Ops cl Inv) (hW : ∀ n hp, Inv n hp → isW hp) (hn : n ≤ 520) (hi : i + 6 ≤ sc.1) (hL : sc.1 ≤ 3072) (hI : Inv n hp) (hcu : cu ≤ 81 + n) (hsu : su ≤ 5565 + 60 * n) (hK : ∀ hp cu su, Inv (n + 1) hp → cu ≤ 81 + (n + 1) → su ≤ 5565 + 60 * (n + 1) → sxWP sc cl Q 257 (1224, [some (.ref 1000000), some (.ref 0), some (.ref 59), some (.int (nI i))], [], hp, cu, su)) : sxWP sc cl Q 257 (396, [some (.ref 1000000), some (.ref 0), some (.ref 59), some (.int (nI i))], [], hp, cu, su) := by
  have hop := hO.2.2.2.2.2.2.2.2.1
  obtain ⟨x, hw⟩ := hW _ _ hI
  subst hw
  refine stp hm 6 (And.intro (lw_in (k := 1) (by omega) hL) (?_ : sxWP sc cl Q 257 (402, [some (.ref 1000000), some (.ref 0), some (.ref 59), some (.int (nI i))], [.int (sc.2 (nI i + 1).toNatClampNeg), .ref 0], (wT x), cu, su)))
  refine stp hm 5 (And.intro (lw_in (k := 2) (by omega) hL) (?_ : sxWP sc cl Q 257 (407, [some (.ref 1000000), some (.ref 0), some (.ref 59), some (.int (nI i))], [.int (sc.2 (nI i + 2).toNatClampNeg), .int (sc.2 (nI i + 1).toNatClampNeg), .ref 0], (wT x), cu, su)))
  refine stp hm 1 (?_ : sxCall cl 257 (sxWP sc cl Q 257) [103, 2, 592, 0] 407 [some (.ref 1000000), some (.ref 0), some (.ref 59), some (.int (nI i))] [.ref 0, .int (sc.2 (nI i + 1).toNatClampNeg), .int (sc.2 (nI i + 2).toNatClampNeg)] [] (wT x) cu su)
  refine lwcall rfl (le_c hcu hn) (le_s hsu hn) ?_
  refine hm _ _ _ _ _ (fun r hp1 hq => ?_) (hop _ _ n _ (by omega) hI)
  obtain ⟨⟨v, rfl⟩, ⟨x1, rfl⟩, hM⟩ := hq
  show sxWP sc cl Q 257 (410, [some (.ref 1000000), some (.ref 0), some (.ref 59), some (.int (nI i))], [.int v], (wT x1), cu, su)
  refine stp hm 6 (And.intro (lw_in (k := 1) (by omega) hL) (?_ : sxWP sc cl Q 257 (416, [some (.ref 1000000), some (.ref 0), some (.ref 59), some (.int (nI i))], [.int (sc.2 (nI i + 1).toNatClampNeg), .ref 59, .int v], (wT x1), cu, su)))
  refine stp hm 5 (And.intro (lw_in (k := 2) (by omega) hL) (?_ : sxWP sc cl Q 257 (421, [some (.ref 1000000), some (.ref 0), some (.ref 59), some (.int (nI i))], [.int (sc.2 (nI i + 2).toNatClampNeg), .int (sc.2 (nI i + 1).toNatClampNeg), .ref 59, .int v], (wT x1), cu, su)))
  refine stp hm 1 (?_ : sxCall cl 257 (sxWP sc cl Q 257) [200, 2, 1276, 0] 421 [some (.ref 1000000), some (.ref 0), some (.ref 59), some (.int (nI i))] [.ref 59, .int (sc.2 (nI i + 1).toNatClampNeg), .int (sc.2 (nI i + 2).toNatClampNeg)] [.int v] (wT x1) cu su)
  refine lwcall rfl (le_c hcu hn) (le_s hsu hn) ?_
  refine hm _ _ _ _ _ (fun r2 hp2 hq => ?_) hM
  obtain ⟨rfl, hI2⟩ := hq
  show sxWP sc cl Q 257 (424, [some (.ref 1000000), some (.ref 0), some (.ref 59), some (.int (nI i))], [.int v, .int v], hp2, cu, su)
  refine stp hm 1 (bT rfl ?_)
  exact hK hp2 cu su hI2 (by omega) (by omega)
set_option maxRecDepth 10000 in
theorem law_9 {n i cu su : Nat} {hp : sxH} (hm : CallMono cl) (hO : Ops cl Inv) (hW : ∀ n hp, Inv n hp → isW hp) (hn : n ≤ 520) (hi : i + 6 ≤ sc.1) (hL : sc.1 ≤ 3072) (hI : Inv n hp) (hcu : cu ≤ 81 + n) (hsu : su ≤ 5565 + 60 * n) (hK : ∀ hp cu su, Inv (n + 1) hp → cu ≤ 81 + (n + 1) → su ≤ 5565 + 60 * (n + 1) → sxWP sc cl Q 257 (1224, [some (.ref 1000000), some (.ref 0), some (.ref 59), some (.int (nI i))], [], hp, cu, su)) : sxWP sc cl Q 257 (429, [some (.ref 1000000), some (.ref 0), some (.ref 59), some (.int (nI i))], [], hp, cu, su) := by
  have hop := hO.2.2.2.2.2.2.2.2.2.1
  obtain ⟨x, hw⟩ := hW _ _ hI
  subst hw
  refine stp hm 6 (And.intro (lw_in (k := 1) (by omega) hL) (?_ : sxWP sc cl Q 257 (435, [some (.ref 1000000), some (.ref 0), some (.ref 59), some (.int (nI i))], [.int (sc.2 (nI i + 1).toNatClampNeg), .ref 0], (wT x), cu, su)))
  refine stp hm 1 (?_ : sxCall cl 257 (sxWP sc cl Q 257) [104, 1, 601, 0] 435 [some (.ref 1000000), some (.ref 0), some (.ref 59), some (.int (nI i))] [.ref 0, .int (sc.2 (nI i + 1).toNatClampNeg)] [] (wT x) cu su)
  refine lwcall rfl (le_c hcu hn) (le_s hsu hn) ?_
  refine hm _ _ _ _ _ (fun r hp1 hq => ?_) (hop _ n _ (by omega) hI)
  obtain ⟨⟨v, rfl⟩, ⟨x1, rfl⟩, hM⟩ := hq
  show sxWP sc cl Q 257 (438, [some (.ref 1000000), some (.ref 0), some (.ref 59), some (.int (nI i))], [.int v], (wT x1), cu, su)
  refine stp hm 6 (And.intro (lw_in (k := 1) (by omega) hL) (?_ : sxWP sc cl Q 257 (444, [some (.ref 1000000), some (.ref 0), some (.ref 59), some (.int (nI i))], [.int (sc.2 (nI i + 1).toNatClampNeg), .ref 59, .int v], (wT x1), cu, su)))
  refine stp hm 1 (?_ : sxCall cl 257 (sxWP sc cl Q 257) [202, 1, 1283, 0] 444 [some (.ref 1000000), some (.ref 0), some (.ref 59), some (.int (nI i))] [.ref 59, .int (sc.2 (nI i + 1).toNatClampNeg)] [.int v] (wT x1) cu su)
  refine lwcall rfl (le_c hcu hn) (le_s hsu hn) ?_
  refine hm _ _ _ _ _ (fun r2 hp2 hq => ?_) hM
  obtain ⟨rfl, hI2⟩ := hq
  show sxWP sc cl Q 257 (447, [some (.ref 1000000), some (.ref 0), some (.ref 59), some (.int (nI i))], [.int v, .int v], hp2, cu, su)
  refine stp hm 1 (bT rfl ?_)
  exact hK hp2 cu su hI2 (by omega) (by omega)
set_option maxRecDepth 10000 in
theorem law_10 {n i cu su : Nat} {hp : sxH} (hm : CallMono cl) (hO : Ops cl Inv) (hW : ∀ n hp, Inv n hp → isW hp) (hn : n ≤ 520) (hi : i + 6 ≤ sc.1) (hL : sc.1 ≤ 3072) (hI : Inv n hp) (hcu : cu ≤ 81 + n) (hsu : su ≤ 5565 + 60 * n) (hK : ∀ hp cu su, Inv (n + 1) hp → cu ≤ 81 + (n + 1) → su ≤ 5565 + 60 * (n + 1) → sxWP sc cl Q 257 (1224, [some (.ref 1000000), some (.ref 0), some (.ref 59), some (.int (nI i))], [], hp, cu, su)) : sxWP sc cl Q 257 (452, [some (.ref 1000000), some (.ref 0), some (.ref 59), some (.int (nI i))], [], hp, cu, su) := by
  have hop := hO.2.2.2.2.2.2.2.2.2.2.1
  obtain ⟨x, hw⟩ := hW _ _ hI
  subst hw
  refine stp hm 6 (And.intro (lw_in (k := 1) (by omega) hL) (?_ : sxWP sc cl Q 257 (458, [some (.ref 1000000), some (.ref 0), some (.ref 59), some (.int (nI i))], [.int (sc.2 (nI i + 1).toNatClampNeg), .ref 0], (wT x), cu, su)))
  refine stp hm 1 (?_ : sxCall cl 257 (sxWP sc cl Q 257) [105, 1, 613, 0] 458 [some (.ref 1000000), some (.ref 0), some (.ref 59), some (.int (nI i))] [.ref 0, .int (sc.2 (nI i + 1).toNatClampNeg)] [] (wT x) cu su)
  refine lwcall rfl (le_c hcu hn) (le_s hsu hn) ?_
  refine hm _ _ _ _ _ (fun r hp1 hq => ?_) (hop _ n _ (by omega) hI)
  obtain ⟨⟨v, rfl⟩, ⟨x1, rfl⟩, hM⟩ := hq
  show sxWP sc cl Q 257 (461, [some (.ref 1000000), some (.ref 0), some (.ref 59), some (.int (nI i))], [.int v], (wT x1), cu, su)
  refine stp hm 6 (And.intro (lw_in (k := 1) (by omega) hL) (?_ : sxWP sc cl Q 257 (467, [some (.ref 1000000), some (.ref 0), some (.ref 59), some (.int (nI i))], [.int (sc.2 (nI i + 1).toNatClampNeg), .ref 59, .int v], (wT x1), cu, su)))
  refine stp hm 1 (?_ : sxCall cl 257 (sxWP sc cl Q 257) [203, 1, 1303, 0] 467 [some (.ref 1000000), some (.ref 0), some (.ref 59), some (.int (nI i))] [.ref 59, .int (sc.2 (nI i + 1).toNatClampNeg)] [.int v] (wT x1) cu su)
  refine lwcall rfl (le_c hcu hn) (le_s hsu hn) ?_
  refine hm _ _ _ _ _ (fun r2 hp2 hq => ?_) hM
  obtain ⟨rfl, hI2⟩ := hq
  show sxWP sc cl Q 257 (470, [some (.ref 1000000), some (.ref 0), some (.ref 59), some (.int (nI i))], [.int v, .int v], hp2, cu, su)
  refine stp hm 1 (bT rfl ?_)
  exact hK hp2 cu su hI2 (by omega) (by omega)
set_option maxRecDepth 10000 in
theorem law_11 {n i cu su : Nat} {hp : sxH} (hm : CallMono cl) (hO : Ops cl Inv) (hW : ∀ n hp, Inv n hp → isW hp) (hn : n ≤ 520) (hi : i + 6 ≤ sc.1) (hL : sc.1 ≤ 3072) (hI : Inv n hp) (hcu : cu ≤ 81 + n) (hsu : su ≤ 5565 + 60 * n) (hK : ∀ hp cu su, Inv (n + 1) hp → cu ≤ 81 + (n + 1) → su ≤ 5565 + 60 * (n + 1) → sxWP sc cl Q 257 (1224, [some (.ref 1000000), some (.ref 0), some (.ref 59), some (.int (nI i))], [], hp, cu, su)) : sxWP sc cl Q 257 (475, [some (.ref 1000000), some (.ref 0), some (.ref 59), some (.int (nI i))], [], hp, cu, su) := by
  have hop := hO.2.2.2.2.2.2.2.2.2.2.2.1
  obtain ⟨x, hw⟩ := hW _ _ hI
  subst hw
  refine stp hm 6 (And.intro (lw_in (k := 1) (by omega) hL) (?_ : sxWP sc cl Q 257 (481, [some (.ref 1000000), some (.ref 0), some (.ref 59), some (.int (nI i))], [.int (sc.2 (nI i + 1).toNatClampNeg), .ref 0], (wT x), cu, su)))
  refine stp hm 5 (And.intro (lw_in (k := 2) (by omega) hL) (?_ : sxWP sc cl Q 257 (486, [some (.ref 1000000), some (.ref 0), some (.ref 59), some (.int (nI i))], [.int (sc.2 (nI i + 2).toNatClampNeg), .int (sc.2 (nI i + 1).toNatClampNeg), .ref 0], (wT x), cu, su)))
  refine stp hm 1 (?_ : sxCall cl 257 (sxWP sc cl Q 257) [106, 2, 621, 0] 486 [some (.ref 1000000), some (.ref 0), some (.ref 59), some (.int (nI i))] [.ref 0, .int (sc.2 (nI i + 1).toNatClampNeg), .int (sc.2 (nI i + 2).toNatClampNeg)] [] (wT x) cu su)
  refine lwcall rfl (le_c hcu hn) (le_s hsu hn) ?_
  refine hm _ _ _ _ _ (fun r hp1 hq => ?_) (hop _ _ n _ (by omega) hI)
  obtain ⟨⟨v, rfl⟩, ⟨x1, rfl⟩, hM⟩ := hq
  show sxWP sc cl Q 257 (489, [some (.ref 1000000), some (.ref 0), some (.ref 59), some (.int (nI i))], [.int v], (wT x1), cu, su)
  refine stp hm 6 (And.intro (lw_in (k := 1) (by omega) hL) (?_ : sxWP sc cl Q 257 (495, [some (.ref 1000000), some (.ref 0), some (.ref 59), some (.int (nI i))], [.int (sc.2 (nI i + 1).toNatClampNeg), .ref 59, .int v], (wT x1), cu, su)))
  refine stp hm 5 (And.intro (lw_in (k := 2) (by omega) hL) (?_ : sxWP sc cl Q 257 (500, [some (.ref 1000000), some (.ref 0), some (.ref 59), some (.int (nI i))], [.int (sc.2 (nI i + 2).toNatClampNeg), .int (sc.2 (nI i + 1).toNatClampNeg), .ref 59, .int v], (wT x1), cu, su)))
  refine stp hm 1 (?_ : sxCall cl 257 (sxWP sc cl Q 257) [204, 2, 1307, 0] 500 [some (.ref 1000000), some (.ref 0), some (.ref 59), some (.int (nI i))] [.ref 59, .int (sc.2 (nI i + 1).toNatClampNeg), .int (sc.2 (nI i + 2).toNatClampNeg)] [.int v] (wT x1) cu su)
  refine lwcall rfl (le_c hcu hn) (le_s hsu hn) ?_
  refine hm _ _ _ _ _ (fun r2 hp2 hq => ?_) hM
  obtain ⟨rfl, hI2⟩ := hq
  show sxWP sc cl Q 257 (503, [some (.ref 1000000), some (.ref 0), some (.ref 59), some (.int (nI i))], [.int v, .int v], hp2, cu, su)
  refine stp hm 1 (bT rfl ?_)
  exact hK hp2 cu su hI2 (by omega) (by omega)
set_option maxRecDepth 10000 in
theorem law_12 {n i cu su : Nat} {hp : sxH} (hm : CallMono cl) (hO : Ops cl Inv) (hW : ∀ n hp, Inv n hp → isW hp) (hn : n ≤ 520) (hi : i + 6 ≤ sc.1) (hL : sc.1 ≤ 3072) (hI : Inv n hp) (hcu : cu ≤ 81 + n) (hsu : su ≤ 5565 + 60 * n) (hK : ∀ hp cu su, Inv (n + 1) hp → cu ≤ 81 + (n + 1) → su ≤ 5565 + 60 * (n + 1) → sxWP sc cl Q 257 (1224, [some (.ref 1000000), some (.ref 0), some (.ref 59), some (.int (nI i))], [], hp, cu, su)) : sxWP sc cl Q 257 (508, [some (.ref 1000000), some (.ref 0), some (.ref 59), some (.int (nI i))], [], hp, cu, su) := by
  have hop := hO.2.2.2.2.2.2.2.2.2.2.2.2.1
  obtain ⟨x, hw⟩ := hW _ _ hI
  subst hw
  refine stp hm 6 (And.intro (lw_in (k := 1) (by omega) hL) (?_ : sxWP sc cl Q 257 (514, [some (.ref 1000000), some (.ref 0), some (.ref 59), some (.int (nI i))], [.int (sc.2 (nI i + 1).toNatClampNeg), .ref 0], (wT x), cu, su)))
  refine stp hm 5 (And.intro (lw_in (k := 2) (by omega) hL) (?_ : sxWP sc cl Q 257 (519, [some (.ref 1000000), some (.ref 0), some (.ref 59), some (.int (nI i))], [.int (sc.2 (nI i + 2).toNatClampNeg), .int (sc.2 (nI i + 1).toNatClampNeg), .ref 0], (wT x), cu, su)))
  refine stp hm 1 (?_ : sxCall cl 257 (sxWP sc cl Q 257) [108, 2, 633, 0] 519 [some (.ref 1000000), some (.ref 0), some (.ref 59), some (.int (nI i))] [.ref 0, .int (sc.2 (nI i + 1).toNatClampNeg), .int (sc.2 (nI i + 2).toNatClampNeg)] [] (wT x) cu su)
  refine lwcall rfl (le_c hcu hn) (le_s hsu hn) ?_
  refine hm _ _ _ _ _ (fun r hp1 hq => ?_) (hop _ _ n _ (by omega) hI)
  obtain ⟨⟨v, rfl⟩, ⟨x1, rfl⟩, hM⟩ := hq
  show sxWP sc cl Q 257 (522, [some (.ref 1000000), some (.ref 0), some (.ref 59), some (.int (nI i))], [.int v], (wT x1), cu, su)
  refine stp hm 6 (And.intro (lw_in (k := 1) (by omega) hL) (?_ : sxWP sc cl Q 257 (528, [some (.ref 1000000), some (.ref 0), some (.ref 59), some (.int (nI i))], [.int (sc.2 (nI i + 1).toNatClampNeg), .ref 59, .int v], (wT x1), cu, su)))
  refine stp hm 5 (And.intro (lw_in (k := 2) (by omega) hL) (?_ : sxWP sc cl Q 257 (533, [some (.ref 1000000), some (.ref 0), some (.ref 59), some (.int (nI i))], [.int (sc.2 (nI i + 2).toNatClampNeg), .int (sc.2 (nI i + 1).toNatClampNeg), .ref 59, .int v], (wT x1), cu, su)))
  refine stp hm 1 (?_ : sxCall cl 257 (sxWP sc cl Q 257) [205, 2, 1311, 0] 533 [some (.ref 1000000), some (.ref 0), some (.ref 59), some (.int (nI i))] [.ref 59, .int (sc.2 (nI i + 1).toNatClampNeg), .int (sc.2 (nI i + 2).toNatClampNeg)] [.int v] (wT x1) cu su)
  refine lwcall rfl (le_c hcu hn) (le_s hsu hn) ?_
  refine hm _ _ _ _ _ (fun r2 hp2 hq => ?_) hM
  obtain ⟨rfl, hI2⟩ := hq
  show sxWP sc cl Q 257 (536, [some (.ref 1000000), some (.ref 0), some (.ref 59), some (.int (nI i))], [.int v, .int v], hp2, cu, su)
  refine stp hm 1 (bT rfl ?_)
  exact hK hp2 cu su hI2 (by omega) (by omega)
set_option maxRecDepth 10000 in
theorem law_13 {n i cu su : Nat} {hp : sxH} (hm : CallMono cl) (hO : Ops cl Inv) (hW : ∀ n hp, Inv n hp → isW hp) (hn : n ≤ 520) (hi : i + 6 ≤ sc.1) (hL : sc.1 ≤ 3072) (hI : Inv n hp) (hcu : cu ≤ 81 + n) (hsu : su ≤ 5565 + 60 * n) (hK : ∀ hp cu su, Inv (n + 1) hp → cu ≤ 81 + (n + 1) → su ≤ 5565 + 60 * (n + 1) → sxWP sc cl Q 257 (1224, [some (.ref 1000000), some (.ref 0), some (.ref 59), some (.int (nI i))], [], hp, cu, su)) : sxWP sc cl Q 257 (541, [some (.ref 1000000), some (.ref 0), some (.ref 59), some (.int (nI i))], [], hp, cu, su) := by
  have hop := hO.2.2.2.2.2.2.2.2.2.2.2.2.2.1
  obtain ⟨x, hw⟩ := hW _ _ hI
  subst hw
  refine stp hm 6 (And.intro (lw_in (k := 1) (by omega) hL) (?_ : sxWP sc cl Q 257 (547, [some (.ref 1000000), some (.ref 0), some (.ref 59), some (.int (nI i))], [.int (sc.2 (nI i + 1).toNatClampNeg), .ref 0], (wT x), cu, su)))
  refine stp hm 1 (?_ : sxCall cl 257 (sxWP sc cl Q 257) [109, 1, 641, 0] 547 [some (.ref 1000000), some (.ref 0), some (.ref 59), some (.int (nI i))] [.ref 0, .int (sc.2 (nI i + 1).toNatClampNeg)] [] (wT x) cu su)
  refine lwcall rfl (le_c hcu hn) (le_s hsu hn) ?_
  refine hm _ _ _ _ _ (fun r hp1 hq => ?_) (hop _ n _ (by omega) hI)
  obtain ⟨⟨v, rfl⟩, ⟨x1, rfl⟩, hM⟩ := hq
  show sxWP sc cl Q 257 (550, [some (.ref 1000000), some (.ref 0), some (.ref 59), some (.int (nI i))], [.int v], (wT x1), cu, su)
  refine stp hm 6 (And.intro (lw_in (k := 1) (by omega) hL) (?_ : sxWP sc cl Q 257 (556, [some (.ref 1000000), some (.ref 0), some (.ref 59), some (.int (nI i))], [.int (sc.2 (nI i + 1).toNatClampNeg), .ref 59, .int v], (wT x1), cu, su)))
  refine stp hm 1 (?_ : sxCall cl 257 (sxWP sc cl Q 257) [206, 1, 1315, 0] 556 [some (.ref 1000000), some (.ref 0), some (.ref 59), some (.int (nI i))] [.ref 59, .int (sc.2 (nI i + 1).toNatClampNeg)] [.int v] (wT x1) cu su)
  refine lwcall rfl (le_c hcu hn) (le_s hsu hn) ?_
  refine hm _ _ _ _ _ (fun r2 hp2 hq => ?_) hM
  obtain ⟨rfl, hI2⟩ := hq
  show sxWP sc cl Q 257 (559, [some (.ref 1000000), some (.ref 0), some (.ref 59), some (.int (nI i))], [.int v, .int v], hp2, cu, su)
  refine stp hm 1 (bT rfl ?_)
  exact hK hp2 cu su hI2 (by omega) (by omega)
set_option maxRecDepth 10000 in
theorem law_14 {n i cu su : Nat} {hp : sxH} (hm : CallMono cl) (hO : Ops cl Inv) (hW : ∀ n hp, Inv n hp → isW hp) (hn : n ≤ 520) (hi : i + 6 ≤ sc.1) (hL : sc.1 ≤ 3072) (hI : Inv n hp) (hcu : cu ≤ 81 + n) (hsu : su ≤ 5565 + 60 * n) (hK : ∀ hp cu su, Inv (n + 1) hp → cu ≤ 81 + (n + 1) → su ≤ 5565 + 60 * (n + 1) → sxWP sc cl Q 257 (1224, [some (.ref 1000000), some (.ref 0), some (.ref 59), some (.int (nI i))], [], hp, cu, su)) : sxWP sc cl Q 257 (564, [some (.ref 1000000), some (.ref 0), some (.ref 59), some (.int (nI i))], [], hp, cu, su) := by
  have hop := hO.2.2.2.2.2.2.2.2.2.2.2.2.2.2.1
  obtain ⟨x, hw⟩ := hW _ _ hI
  subst hw
  refine stp hm 6 (And.intro (lw_in (k := 1) (by omega) hL) (?_ : sxWP sc cl Q 257 (570, [some (.ref 1000000), some (.ref 0), some (.ref 59), some (.int (nI i))], [.int (sc.2 (nI i + 1).toNatClampNeg), .ref 0], (wT x), cu, su)))
  refine stp hm 1 (?_ : sxCall cl 257 (sxWP sc cl Q 257) [110, 1, 651, 0] 570 [some (.ref 1000000), some (.ref 0), some (.ref 59), some (.int (nI i))] [.ref 0, .int (sc.2 (nI i + 1).toNatClampNeg)] [] (wT x) cu su)
  refine lwcall rfl (le_c hcu hn) (le_s hsu hn) ?_
  refine hm _ _ _ _ _ (fun r hp1 hq => ?_) (hop _ n _ (by omega) hI)
  obtain ⟨⟨v, rfl⟩, ⟨x1, rfl⟩, hM⟩ := hq
  show sxWP sc cl Q 257 (573, [some (.ref 1000000), some (.ref 0), some (.ref 59), some (.int (nI i))], [.int v], (wT x1), cu, su)
  refine stp hm 6 (And.intro (lw_in (k := 1) (by omega) hL) (?_ : sxWP sc cl Q 257 (579, [some (.ref 1000000), some (.ref 0), some (.ref 59), some (.int (nI i))], [.int (sc.2 (nI i + 1).toNatClampNeg), .ref 59, .int v], (wT x1), cu, su)))
  refine stp hm 1 (?_ : sxCall cl 257 (sxWP sc cl Q 257) [185, 1, 1163, 0] 579 [some (.ref 1000000), some (.ref 0), some (.ref 59), some (.int (nI i))] [.ref 59, .int (sc.2 (nI i + 1).toNatClampNeg)] [.int v] (wT x1) cu su)
  refine lwcall rfl (le_c hcu hn) (le_s hsu hn) ?_
  refine hm _ _ _ _ _ (fun r2 hp2 hq => ?_) hM
  obtain ⟨rfl, hI2⟩ := hq
  show sxWP sc cl Q 257 (582, [some (.ref 1000000), some (.ref 0), some (.ref 59), some (.int (nI i))], [.int v, .int v], hp2, cu, su)
  refine stp hm 1 (bT rfl ?_)
  exact hK hp2 cu su hI2 (by omega) (by omega)
set_option maxRecDepth 10000 in
theorem law_15 {n i cu su : Nat} {hp : sxH} (hm : CallMono cl) (hO : Ops cl Inv) (hW : ∀ n hp, Inv n hp → isW hp) (hn : n ≤ 520) (hi : i + 6 ≤ sc.1) (hL : sc.1 ≤ 3072) (hI : Inv n hp) (hcu : cu ≤ 81 + n) (hsu : su ≤ 5565 + 60 * n) (hK : ∀ hp cu su, Inv (n + 1) hp → cu ≤ 81 + (n + 1) → su ≤ 5565 + 60 * (n + 1) → sxWP sc cl Q 257 (1224, [some (.ref 1000000), some (.ref 0), some (.ref 59), some (.int (nI i))], [], hp, cu, su)) : sxWP sc cl Q 257 (587, [some (.ref 1000000), some (.ref 0), some (.ref 59), some (.int (nI i))], [], hp, cu, su) := by
  have hop := hO.2.2.2.2.2.2.2.2.2.2.2.2.2.2.2.1
  obtain ⟨x, hw⟩ := hW _ _ hI
  subst hw
  refine stp hm 6 (And.intro (lw_in (k := 1) (by omega) hL) (?_ : sxWP sc cl Q 257 (593, [some (.ref 1000000), some (.ref 0), some (.ref 59), some (.int (nI i))], [.int (sc.2 (nI i + 1).toNatClampNeg), .ref 0], (wT x), cu, su)))
  refine stp hm 1 (?_ : sxCall cl 257 (sxWP sc cl Q 257) [111, 1, 672, 0] 593 [some (.ref 1000000), some (.ref 0), some (.ref 59), some (.int (nI i))] [.ref 0, .int (sc.2 (nI i + 1).toNatClampNeg)] [] (wT x) cu su)
  refine lwcall rfl (le_c hcu hn) (le_s hsu hn) ?_
  refine hm _ _ _ _ _ (fun r hp1 hq => ?_) (hop _ n _ (by omega) hI)
  obtain ⟨⟨v, rfl⟩, ⟨x1, rfl⟩, hM⟩ := hq
  show sxWP sc cl Q 257 (596, [some (.ref 1000000), some (.ref 0), some (.ref 59), some (.int (nI i))], [.int v], (wT x1), cu, su)
  refine stp hm 6 (And.intro (lw_in (k := 1) (by omega) hL) (?_ : sxWP sc cl Q 257 (602, [some (.ref 1000000), some (.ref 0), some (.ref 59), some (.int (nI i))], [.int (sc.2 (nI i + 1).toNatClampNeg), .ref 59, .int v], (wT x1), cu, su)))
  refine stp hm 1 (?_ : sxCall cl 257 (sxWP sc cl Q 257) [186, 1, 1175, 0] 602 [some (.ref 1000000), some (.ref 0), some (.ref 59), some (.int (nI i))] [.ref 59, .int (sc.2 (nI i + 1).toNatClampNeg)] [.int v] (wT x1) cu su)
  refine lwcall rfl (le_c hcu hn) (le_s hsu hn) ?_
  refine hm _ _ _ _ _ (fun r2 hp2 hq => ?_) hM
  obtain ⟨rfl, hI2⟩ := hq
  show sxWP sc cl Q 257 (605, [some (.ref 1000000), some (.ref 0), some (.ref 59), some (.int (nI i))], [.int v, .int v], hp2, cu, su)
  refine stp hm 1 (bT rfl ?_)
  exact hK hp2 cu su hI2 (by omega) (by omega)
set_option maxRecDepth 10000 in
theorem law_16 {n i cu su : Nat} {hp : sxH} (hm : CallMono cl) (hO : Ops cl Inv) (hW : ∀ n hp, Inv n hp → isW hp) (hn : n ≤ 520) (hi : i + 6 ≤ sc.1) (hL : sc.1 ≤ 3072) (hI : Inv n hp) (hcu : cu ≤ 81 + n) (hsu : su ≤ 5565 + 60 * n) (hK : ∀ hp cu su, Inv (n + 1) hp → cu ≤ 81 + (n + 1) → su ≤ 5565 + 60 * (n + 1) → sxWP sc cl Q 257 (1224, [some (.ref 1000000), some (.ref 0), some (.ref 59), some (.int (nI i))], [], hp, cu, su)) : sxWP sc cl Q 257 (610, [some (.ref 1000000), some (.ref 0), some (.ref 59), some (.int (nI i))], [], hp, cu, su) := by
  have hop := hO.2.2.2.2.2.2.2.2.2.2.2.2.2.2.2.2.1
  obtain ⟨x, hw⟩ := hW _ _ hI
  subst hw
  refine stp hm 6 (And.intro (lw_in (k := 1) (by omega) hL) (?_ : sxWP sc cl Q 257 (616, [some (.ref 1000000), some (.ref 0), some (.ref 59), some (.int (nI i))], [.int (sc.2 (nI i + 1).toNatClampNeg), .ref 0], (wT x), cu, su)))
  refine stp hm 1 (?_ : sxCall cl 257 (sxWP sc cl Q 257) [112, 1, 681, 0] 616 [some (.ref 1000000), some (.ref 0), some (.ref 59), some (.int (nI i))] [.ref 0, .int (sc.2 (nI i + 1).toNatClampNeg)] [] (wT x) cu su)
  refine lwcall rfl (le_c hcu hn) (le_s hsu hn) ?_
  refine hm _ _ _ _ _ (fun r hp1 hq => ?_) (hop _ n _ (by omega) hI)
  obtain ⟨⟨v, rfl⟩, ⟨x1, rfl⟩, hM⟩ := hq
  show sxWP sc cl Q 257 (619, [some (.ref 1000000), some (.ref 0), some (.ref 59), some (.int (nI i))], [.int v], (wT x1), cu, su)
  refine stp hm 6 (And.intro (lw_in (k := 1) (by omega) hL) (?_ : sxWP sc cl Q 257 (625, [some (.ref 1000000), some (.ref 0), some (.ref 59), some (.int (nI i))], [.int (sc.2 (nI i + 1).toNatClampNeg), .ref 59, .int v], (wT x1), cu, su)))
  refine stp hm 1 (?_ : sxCall cl 257 (sxWP sc cl Q 257) [213, 1, 1330, 0] 625 [some (.ref 1000000), some (.ref 0), some (.ref 59), some (.int (nI i))] [.ref 59, .int (sc.2 (nI i + 1).toNatClampNeg)] [.int v] (wT x1) cu su)
  refine lwcall rfl (le_c hcu hn) (le_s hsu hn) ?_
  refine hm _ _ _ _ _ (fun r2 hp2 hq => ?_) hM
  obtain ⟨rfl, hI2⟩ := hq
  show sxWP sc cl Q 257 (628, [some (.ref 1000000), some (.ref 0), some (.ref 59), some (.int (nI i))], [.int v, .int v], hp2, cu, su)
  refine stp hm 1 (bT rfl ?_)
  exact hK hp2 cu su hI2 (by omega) (by omega)
set_option maxRecDepth 10000 in
theorem law_17 {n i cu su : Nat} {hp : sxH} (hm : CallMono cl) (hO : Ops cl Inv) (hW : ∀ n hp, Inv n hp → isW hp) (hn : n ≤ 520) (hi : i + 6 ≤ sc.1) (hL : sc.1 ≤ 3072) (hI : Inv n hp) (hcu : cu ≤ 81 + n) (hsu : su ≤ 5565 + 60 * n) (hK : ∀ hp cu su, Inv (n + 1) hp → cu ≤ 81 + (n + 1) → su ≤ 5565 + 60 * (n + 1) → sxWP sc cl Q 257 (1224, [some (.ref 1000000), some (.ref 0), some (.ref 59), some (.int (nI i))], [], hp, cu, su)) : sxWP sc cl Q 257 (633, [some (.ref 1000000), some (.ref 0), some (.ref 59), some (.int (nI i))], [], hp, cu, su) := by
  have hop := hO.2.2.2.2.2.2.2.2.2.2.2.2.2.2.2.2.2.1
  obtain ⟨x, hw⟩ := hW _ _ hI
  subst hw
  refine stp hm 6 (And.intro (lw_in (k := 1) (by omega) hL) (?_ : sxWP sc cl Q 257 (639, [some (.ref 1000000), some (.ref 0), some (.ref 59), some (.int (nI i))], [.int (sc.2 (nI i + 1).toNatClampNeg), .ref 0], (wT x), cu, su)))
  refine stp hm 5 (And.intro (lw_in (k := 2) (by omega) hL) (?_ : sxWP sc cl Q 257 (644, [some (.ref 1000000), some (.ref 0), some (.ref 59), some (.int (nI i))], [.int (sc.2 (nI i + 2).toNatClampNeg), .int (sc.2 (nI i + 1).toNatClampNeg), .ref 0], (wT x), cu, su)))
  refine stp hm 1 (?_ : sxCall cl 257 (sxWP sc cl Q 257) [113, 2, 719, 0] 644 [some (.ref 1000000), some (.ref 0), some (.ref 59), some (.int (nI i))] [.ref 0, .int (sc.2 (nI i + 1).toNatClampNeg), .int (sc.2 (nI i + 2).toNatClampNeg)] [] (wT x) cu su)
  refine lwcall rfl (le_c hcu hn) (le_s hsu hn) ?_
  refine hm _ _ _ _ _ (fun r hp1 hq => ?_) (hop _ _ n _ (by omega) hI)
  obtain ⟨⟨v, rfl⟩, ⟨x1, rfl⟩, hM⟩ := hq
  show sxWP sc cl Q 257 (647, [some (.ref 1000000), some (.ref 0), some (.ref 59), some (.int (nI i))], [.int v], (wT x1), cu, su)
  refine stp hm 6 (And.intro (lw_in (k := 1) (by omega) hL) (?_ : sxWP sc cl Q 257 (653, [some (.ref 1000000), some (.ref 0), some (.ref 59), some (.int (nI i))], [.int (sc.2 (nI i + 1).toNatClampNeg), .ref 59, .int v], (wT x1), cu, su)))
  refine stp hm 5 (And.intro (lw_in (k := 2) (by omega) hL) (?_ : sxWP sc cl Q 257 (658, [some (.ref 1000000), some (.ref 0), some (.ref 59), some (.int (nI i))], [.int (sc.2 (nI i + 2).toNatClampNeg), .int (sc.2 (nI i + 1).toNatClampNeg), .ref 59, .int v], (wT x1), cu, su)))
  refine stp hm 1 (?_ : sxCall cl 257 (sxWP sc cl Q 257) [214, 2, 1357, 0] 658 [some (.ref 1000000), some (.ref 0), some (.ref 59), some (.int (nI i))] [.ref 59, .int (sc.2 (nI i + 1).toNatClampNeg), .int (sc.2 (nI i + 2).toNatClampNeg)] [.int v] (wT x1) cu su)
  refine lwcall rfl (le_c hcu hn) (le_s hsu hn) ?_
  refine hm _ _ _ _ _ (fun r2 hp2 hq => ?_) hM
  obtain ⟨rfl, hI2⟩ := hq
  show sxWP sc cl Q 257 (661, [some (.ref 1000000), some (.ref 0), some (.ref 59), some (.int (nI i))], [.int v, .int v], hp2, cu, su)
  refine stp hm 1 (bT rfl ?_)
  exact hK hp2 cu su hI2 (by omega) (by omega)
set_option maxRecDepth 10000 in
theorem law_18 {n i cu su : Nat} {hp : sxH} (hm : CallMono cl) (hO : Ops cl Inv) (hW : ∀ n hp, Inv n hp → isW hp) (hn : n ≤ 520) (hi : i + 6 ≤ sc.1) (hL : sc.1 ≤ 3072) (hI : Inv n hp) (hcu : cu ≤ 81 + n) (hsu : su ≤ 5565 + 60 * n) (hK : ∀ hp cu su, Inv (n + 1) hp → cu ≤ 81 + (n + 1) → su ≤ 5565 + 60 * (n + 1) → sxWP sc cl Q 257 (1224, [some (.ref 1000000), some (.ref 0), some (.ref 59), some (.int (nI i))], [], hp, cu, su)) : sxWP sc cl Q 257 (666, [some (.ref 1000000), some (.ref 0), some (.ref 59), some (.int (nI i))], [], hp, cu, su) := by
  have hop := hO.2.2.2.2.2.2.2.2.2.2.2.2.2.2.2.2.2.2.1
  obtain ⟨x, hw⟩ := hW _ _ hI
  subst hw
  refine stp hm 6 (And.intro (lw_in (k := 1) (by omega) hL) (?_ : sxWP sc cl Q 257 (672, [some (.ref 1000000), some (.ref 0), some (.ref 59), some (.int (nI i))], [.int (sc.2 (nI i + 1).toNatClampNeg), .ref 0], (wT x), cu, su)))
  refine stp hm 1 (?_ : sxCall cl 257 (sxWP sc cl Q 257) [114, 1, 728, 0] 672 [some (.ref 1000000), some (.ref 0), some (.ref 59), some (.int (nI i))] [.ref 0, .int (sc.2 (nI i + 1).toNatClampNeg)] [] (wT x) cu su)
  refine lwcall rfl (le_c hcu hn) (le_s hsu hn) ?_
  refine hm _ _ _ _ _ (fun r hp1 hq => ?_) (hop _ n _ (by omega) hI)
  obtain ⟨⟨v, rfl⟩, ⟨x1, rfl⟩, hM⟩ := hq
  show sxWP sc cl Q 257 (675, [some (.ref 1000000), some (.ref 0), some (.ref 59), some (.int (nI i))], [.int v], (wT x1), cu, su)
  refine stp hm 6 (And.intro (lw_in (k := 1) (by omega) hL) (?_ : sxWP sc cl Q 257 (681, [some (.ref 1000000), some (.ref 0), some (.ref 59), some (.int (nI i))], [.int (sc.2 (nI i + 1).toNatClampNeg), .ref 59, .int v], (wT x1), cu, su)))
  refine stp hm 1 (?_ : sxCall cl 257 (sxWP sc cl Q 257) [215, 1, 1361, 0] 681 [some (.ref 1000000), some (.ref 0), some (.ref 59), some (.int (nI i))] [.ref 59, .int (sc.2 (nI i + 1).toNatClampNeg)] [.int v] (wT x1) cu su)
  refine lwcall rfl (le_c hcu hn) (le_s hsu hn) ?_
  refine hm _ _ _ _ _ (fun r2 hp2 hq => ?_) hM
  obtain ⟨rfl, hI2⟩ := hq
  show sxWP sc cl Q 257 (684, [some (.ref 1000000), some (.ref 0), some (.ref 59), some (.int (nI i))], [.int v, .int v], hp2, cu, su)
  refine stp hm 1 (bT rfl ?_)
  exact hK hp2 cu su hI2 (by omega) (by omega)
set_option maxRecDepth 10000 in
theorem law_19 {n i cu su : Nat} {hp : sxH} (hm : CallMono cl) (hO : Ops cl Inv) (hW : ∀ n hp, Inv n hp → isW hp) (hn : n ≤ 520) (hi : i + 6 ≤ sc.1) (hL : sc.1 ≤ 3072) (hI : Inv n hp) (hcu : cu ≤ 81 + n) (hsu : su ≤ 5565 + 60 * n) (hK : ∀ hp cu su, Inv (n + 1) hp → cu ≤ 81 + (n + 1) → su ≤ 5565 + 60 * (n + 1) → sxWP sc cl Q 257 (1224, [some (.ref 1000000), some (.ref 0), some (.ref 59), some (.int (nI i))], [], hp, cu, su)) : sxWP sc cl Q 257 (689, [some (.ref 1000000), some (.ref 0), some (.ref 59), some (.int (nI i))], [], hp, cu, su) := by
  have hop := hO.2.2.2.2.2.2.2.2.2.2.2.2.2.2.2.2.2.2.2.1
  obtain ⟨x, hw⟩ := hW _ _ hI
  subst hw
  refine stp hm 6 (And.intro (lw_in (k := 1) (by omega) hL) (?_ : sxWP sc cl Q 257 (695, [some (.ref 1000000), some (.ref 0), some (.ref 59), some (.int (nI i))], [.int (sc.2 (nI i + 1).toNatClampNeg), .ref 0], (wT x), cu, su)))
  refine stp hm 1 (?_ : sxCall cl 257 (sxWP sc cl Q 257) [115, 1, 736, 0] 695 [some (.ref 1000000), some (.ref 0), some (.ref 59), some (.int (nI i))] [.ref 0, .int (sc.2 (nI i + 1).toNatClampNeg)] [] (wT x) cu su)
  refine lwcall rfl (le_c hcu hn) (le_s hsu hn) ?_
  refine hm _ _ _ _ _ (fun r hp1 hq => ?_) (hop _ n _ (by omega) hI)
  obtain ⟨⟨v, rfl⟩, ⟨x1, rfl⟩, hM⟩ := hq
  show sxWP sc cl Q 257 (698, [some (.ref 1000000), some (.ref 0), some (.ref 59), some (.int (nI i))], [.int v], (wT x1), cu, su)
  refine stp hm 6 (And.intro (lw_in (k := 1) (by omega) hL) (?_ : sxWP sc cl Q 257 (704, [some (.ref 1000000), some (.ref 0), some (.ref 59), some (.int (nI i))], [.int (sc.2 (nI i + 1).toNatClampNeg), .ref 59, .int v], (wT x1), cu, su)))
  refine stp hm 1 (?_ : sxCall cl 257 (sxWP sc cl Q 257) [217, 1, 1365, 0] 704 [some (.ref 1000000), some (.ref 0), some (.ref 59), some (.int (nI i))] [.ref 59, .int (sc.2 (nI i + 1).toNatClampNeg)] [.int v] (wT x1) cu su)
  refine lwcall rfl (le_c hcu hn) (le_s hsu hn) ?_
  refine hm _ _ _ _ _ (fun r2 hp2 hq => ?_) hM
  obtain ⟨rfl, hI2⟩ := hq
  show sxWP sc cl Q 257 (707, [some (.ref 1000000), some (.ref 0), some (.ref 59), some (.int (nI i))], [.int v, .int v], hp2, cu, su)
  refine stp hm 1 (bT rfl ?_)
  exact hK hp2 cu su hI2 (by omega) (by omega)
set_option maxRecDepth 10000 in
theorem law_20 {n i cu su : Nat} {hp : sxH} (hm : CallMono cl) (hO : Ops cl Inv) (hW : ∀ n hp, Inv n hp → isW hp) (hn : n ≤ 520) (hi : i + 6 ≤ sc.1) (hL : sc.1 ≤ 3072) (hI : Inv n hp) (hcu : cu ≤ 81 + n) (hsu : su ≤ 5565 + 60 * n) (hK : ∀ hp cu su, Inv (n + 1) hp → cu ≤ 81 + (n + 1) → su ≤ 5565 + 60 * (n + 1) → sxWP sc cl Q 257 (1224, [some (.ref 1000000), some (.ref 0), some (.ref 59), some (.int (nI i))], [], hp, cu, su)) : sxWP sc cl Q 257 (712, [some (.ref 1000000), some (.ref 0), some (.ref 59), some (.int (nI i))], [], hp, cu, su) := by
  have hop := hO.2.2.2.2.2.2.2.2.2.2.2.2.2.2.2.2.2.2.2.2.1
  obtain ⟨x, hw⟩ := hW _ _ hI
  subst hw
  refine stp hm 6 (And.intro (lw_in (k := 1) (by omega) hL) (?_ : sxWP sc cl Q 257 (718, [some (.ref 1000000), some (.ref 0), some (.ref 59), some (.int (nI i))], [.int (sc.2 (nI i + 1).toNatClampNeg), .ref 0], (wT x), cu, su)))
  refine stp hm 5 (And.intro (lw_in (k := 2) (by omega) hL) (?_ : sxWP sc cl Q 257 (723, [some (.ref 1000000), some (.ref 0), some (.ref 59), some (.int (nI i))], [.int (sc.2 (nI i + 2).toNatClampNeg), .int (sc.2 (nI i + 1).toNatClampNeg), .ref 0], (wT x), cu, su)))
  refine stp hm 1 (?_ : sxCall cl 257 (sxWP sc cl Q 257) [116, 2, 748, 0] 723 [some (.ref 1000000), some (.ref 0), some (.ref 59), some (.int (nI i))] [.ref 0, .int (sc.2 (nI i + 1).toNatClampNeg), .int (sc.2 (nI i + 2).toNatClampNeg)] [] (wT x) cu su)
  refine lwcall rfl (le_c hcu hn) (le_s hsu hn) ?_
  refine hm _ _ _ _ _ (fun r hp1 hq => ?_) (hop _ _ n _ (by omega) hI)
  obtain ⟨⟨v, rfl⟩, ⟨x1, rfl⟩, hM⟩ := hq
  show sxWP sc cl Q 257 (726, [some (.ref 1000000), some (.ref 0), some (.ref 59), some (.int (nI i))], [.int v], (wT x1), cu, su)
  refine stp hm 6 (And.intro (lw_in (k := 1) (by omega) hL) (?_ : sxWP sc cl Q 257 (732, [some (.ref 1000000), some (.ref 0), some (.ref 59), some (.int (nI i))], [.int (sc.2 (nI i + 1).toNatClampNeg), .ref 59, .int v], (wT x1), cu, su)))
  refine stp hm 5 (And.intro (lw_in (k := 2) (by omega) hL) (?_ : sxWP sc cl Q 257 (737, [some (.ref 1000000), some (.ref 0), some (.ref 59), some (.int (nI i))], [.int (sc.2 (nI i + 2).toNatClampNeg), .int (sc.2 (nI i + 1).toNatClampNeg), .ref 59, .int v], (wT x1), cu, su)))
  refine stp hm 1 (?_ : sxCall cl 257 (sxWP sc cl Q 257) [220, 2, 1373, 0] 737 [some (.ref 1000000), some (.ref 0), some (.ref 59), some (.int (nI i))] [.ref 59, .int (sc.2 (nI i + 1).toNatClampNeg), .int (sc.2 (nI i + 2).toNatClampNeg)] [.int v] (wT x1) cu su)
  refine lwcall rfl (le_c hcu hn) (le_s hsu hn) ?_
  refine hm _ _ _ _ _ (fun r2 hp2 hq => ?_) hM
  obtain ⟨rfl, hI2⟩ := hq
  show sxWP sc cl Q 257 (740, [some (.ref 1000000), some (.ref 0), some (.ref 59), some (.int (nI i))], [.int v, .int v], hp2, cu, su)
  refine stp hm 1 (bT rfl ?_)
  exact hK hp2 cu su hI2 (by omega) (by omega)
set_option maxRecDepth 10000 in
theorem law_21 {n i cu su : Nat} {hp : sxH} (hm : CallMono cl) (hO : Ops cl Inv) (hW : ∀ n hp, Inv n hp → isW hp) (hn : n ≤ 520) (hi : i + 6 ≤ sc.1) (hL : sc.1 ≤ 3072) (hI : Inv n hp) (hcu : cu ≤ 81 + n) (hsu : su ≤ 5565 + 60 * n) (hK : ∀ hp cu su, Inv (n + 1) hp → cu ≤ 81 + (n + 1) → su ≤ 5565 + 60 * (n + 1) → sxWP sc cl Q 257 (1224, [some (.ref 1000000), some (.ref 0), some (.ref 59), some (.int (nI i))], [], hp, cu, su)) : sxWP sc cl Q 257 (745, [some (.ref 1000000), some (.ref 0), some (.ref 59), some (.int (nI i))], [], hp, cu, su) := by
  have hop := hO.2.2.2.2.2.2.2.2.2.2.2.2.2.2.2.2.2.2.2.2.2.1
  obtain ⟨x, hw⟩ := hW _ _ hI
  subst hw
  refine stp hm 2 (?_ : sxCall cl 257 (sxWP sc cl Q 257) [117, 0, 760, 0] 746 [some (.ref 1000000), some (.ref 0), some (.ref 59), some (.int (nI i))] [.ref 0] [] (wT x) cu su)
  refine lwcall rfl (le_c hcu hn) (le_s hsu hn) ?_
  refine hm _ _ _ _ _ (fun r hp1 hq => ?_) (hop n _ (by omega) hI)
  obtain ⟨⟨v, rfl⟩, ⟨x1, rfl⟩, hM⟩ := hq
  show sxWP sc cl Q 257 (749, [some (.ref 1000000), some (.ref 0), some (.ref 59), some (.int (nI i))], [.long v], (wT x1), cu, su)
  refine stp hm 2 (?_ : sxCall cl 257 (sxWP sc cl Q 257) [222, 0, 1385, 0] 750 [some (.ref 1000000), some (.ref 0), some (.ref 59), some (.int (nI i))] [.ref 59] [.long v] (wT x1) cu su)
  refine lwcall rfl (le_c hcu hn) (le_s hsu hn) ?_
  refine hm _ _ _ _ _ (fun r2 hp2 hq => ?_) hM
  obtain ⟨rfl, hI2⟩ := hq
  show sxWP sc cl Q 257 (753, [some (.ref 1000000), some (.ref 0), some (.ref 59), some (.int (nI i))], [.long v, .long v], hp2, cu, su)
  refine stp hm 2 (bT ((lg_cmp_eq _ _).mpr rfl) ?_)
  exact hK hp2 cu su hI2 (by omega) (by omega)
set_option maxRecDepth 10000 in
theorem law_22 {n i cu su : Nat} {hp : sxH} (hm : CallMono cl) (hO : Ops cl Inv) (hW : ∀ n hp, Inv n hp → isW hp) (hn : n ≤ 520) (hi : i + 6 ≤ sc.1) (hL : sc.1 ≤ 3072) (hI : Inv n hp) (hcu : cu ≤ 81 + n) (hsu : su ≤ 5565 + 60 * n) (hK : ∀ hp cu su, Inv (n + 1) hp → cu ≤ 81 + (n + 1) → su ≤ 5565 + 60 * (n + 1) → sxWP sc cl Q 257 (1224, [some (.ref 1000000), some (.ref 0), some (.ref 59), some (.int (nI i))], [], hp, cu, su)) : sxWP sc cl Q 257 (759, [some (.ref 1000000), some (.ref 0), some (.ref 59), some (.int (nI i))], [], hp, cu, su) := by
  have hop := hO.2.2.2.2.2.2.2.2.2.2.2.2.2.2.2.2.2.2.2.2.2.2.1
  obtain ⟨x, hw⟩ := hW _ _ hI
  subst hw
  refine stp hm 6 (And.intro (lw_in (k := 1) (by omega) hL) (?_ : sxWP sc cl Q 257 (765, [some (.ref 1000000), some (.ref 0), some (.ref 59), some (.int (nI i))], [.int (sc.2 (nI i + 1).toNatClampNeg), .ref 0], (wT x), cu, su)))
  refine stp hm 5 (And.intro (lw_in (k := 2) (by omega) hL) (?_ : sxWP sc cl Q 257 (770, [some (.ref 1000000), some (.ref 0), some (.ref 59), some (.int (nI i))], [.int (sc.2 (nI i + 2).toNatClampNeg), .int (sc.2 (nI i + 1).toNatClampNeg), .ref 0], (wT x), cu, su)))
  refine stp hm 5 (And.intro (lw_in (k := 3) (by omega) hL) (?_ : sxWP sc cl Q 257 (775, [some (.ref 1000000), some (.ref 0), some (.ref 59), some (.int (nI i))], [.int (sc.2 (nI i + 3).toNatClampNeg), .int (sc.2 (nI i + 2).toNatClampNeg), .int (sc.2 (nI i + 1).toNatClampNeg), .ref 0], (wT x), cu, su)))
  refine stp hm 5 (And.intro (lw_in (k := 4) (by omega) hL) (?_ : sxWP sc cl Q 257 (780, [some (.ref 1000000), some (.ref 0), some (.ref 59), some (.int (nI i))], [.int (sc.2 (nI i + 4).toNatClampNeg), .int (sc.2 (nI i + 3).toNatClampNeg), .int (sc.2 (nI i + 2).toNatClampNeg), .int (sc.2 (nI i + 1).toNatClampNeg), .ref 0], (wT x), cu, su)))
  refine stp hm 1 (?_ : sxCall cl 257 (sxWP sc cl Q 257) [119, 4, 776, 0] 780 [some (.ref 1000000), some (.ref 0), some (.ref 59), some (.int (nI i))] [.ref 0, .int (sc.2 (nI i + 1).toNatClampNeg), .int (sc.2 (nI i + 2).toNatClampNeg), .int (sc.2 (nI i + 3).toNatClampNeg), .int (sc.2 (nI i + 4).toNatClampNeg)] [] (wT x) cu su)
  refine lwcall rfl (le_c hcu hn) (le_s hsu hn) ?_
  refine hm _ _ _ _ _ (fun r hp1 hq => ?_) (hop _ _ _ _ n _ (by omega) hI)
  obtain ⟨⟨v, rfl⟩, ⟨x1, rfl⟩, hM⟩ := hq
  show sxWP sc cl Q 257 (783, [some (.ref 1000000), some (.ref 0), some (.ref 59), some (.int (nI i))], [.long v], (wT x1), cu, su)
  refine stp hm 6 (And.intro (lw_in (k := 1) (by omega) hL) (?_ : sxWP sc cl Q 257 (789, [some (.ref 1000000), some (.ref 0), some (.ref 59), some (.int (nI i))], [.int (sc.2 (nI i + 1).toNatClampNeg), .ref 59, .long v], (wT x1), cu, su)))
  refine stp hm 5 (And.intro (lw_in (k := 2) (by omega) hL) (?_ : sxWP sc cl Q 257 (794, [some (.ref 1000000), some (.ref 0), some (.ref 59), some (.int (nI i))], [.int (sc.2 (nI i + 2).toNatClampNeg), .int (sc.2 (nI i + 1).toNatClampNeg), .ref 59, .long v], (wT x1), cu, su)))
  refine stp hm 5 (And.intro (lw_in (k := 3) (by omega) hL) (?_ : sxWP sc cl Q 257 (799, [some (.ref 1000000), some (.ref 0), some (.ref 59), some (.int (nI i))], [.int (sc.2 (nI i + 3).toNatClampNeg), .int (sc.2 (nI i + 2).toNatClampNeg), .int (sc.2 (nI i + 1).toNatClampNeg), .ref 59, .long v], (wT x1), cu, su)))
  refine stp hm 5 (And.intro (lw_in (k := 4) (by omega) hL) (?_ : sxWP sc cl Q 257 (804, [some (.ref 1000000), some (.ref 0), some (.ref 59), some (.int (nI i))], [.int (sc.2 (nI i + 4).toNatClampNeg), .int (sc.2 (nI i + 3).toNatClampNeg), .int (sc.2 (nI i + 2).toNatClampNeg), .int (sc.2 (nI i + 1).toNatClampNeg), .ref 59, .long v], (wT x1), cu, su)))
  refine stp hm 1 (?_ : sxCall cl 257 (sxWP sc cl Q 257) [224, 4, 1393, 0] 804 [some (.ref 1000000), some (.ref 0), some (.ref 59), some (.int (nI i))] [.ref 59, .int (sc.2 (nI i + 1).toNatClampNeg), .int (sc.2 (nI i + 2).toNatClampNeg), .int (sc.2 (nI i + 3).toNatClampNeg), .int (sc.2 (nI i + 4).toNatClampNeg)] [.long v] (wT x1) cu su)
  refine lwcall rfl (le_c hcu hn) (le_s hsu hn) ?_
  refine hm _ _ _ _ _ (fun r2 hp2 hq => ?_) hM
  obtain ⟨rfl, hI2⟩ := hq
  show sxWP sc cl Q 257 (807, [some (.ref 1000000), some (.ref 0), some (.ref 59), some (.int (nI i))], [.long v, .long v], hp2, cu, su)
  refine stp hm 2 (bT ((lg_cmp_eq _ _).mpr rfl) ?_)
  exact hK hp2 cu su hI2 (by omega) (by omega)
set_option maxRecDepth 10000 in
theorem law_23 {n i cu su : Nat} {hp : sxH} (hm : CallMono cl) (hO : Ops cl Inv) (hW : ∀ n hp, Inv n hp → isW hp) (hn : n ≤ 520) (hi : i + 6 ≤ sc.1) (hL : sc.1 ≤ 3072) (hI : Inv n hp) (hcu : cu ≤ 81 + n) (hsu : su ≤ 5565 + 60 * n) (hK : ∀ hp cu su, Inv (n + 1) hp → cu ≤ 81 + (n + 1) → su ≤ 5565 + 60 * (n + 1) → sxWP sc cl Q 257 (1224, [some (.ref 1000000), some (.ref 0), some (.ref 59), some (.int (nI i))], [], hp, cu, su)) : sxWP sc cl Q 257 (813, [some (.ref 1000000), some (.ref 0), some (.ref 59), some (.int (nI i))], [], hp, cu, su) := by
  have hop := hO.2.2.2.2.2.2.2.2.2.2.2.2.2.2.2.2.2.2.2.2.2.2.2.1
  obtain ⟨x, hw⟩ := hW _ _ hI
  subst hw
  refine stp hm 2 (?_ : sxCall cl 257 (sxWP sc cl Q 257) [121, 0, 785, 0] 814 [some (.ref 1000000), some (.ref 0), some (.ref 59), some (.int (nI i))] [.ref 0] [] (wT x) cu su)
  refine lwcall rfl (le_c hcu hn) (le_s hsu hn) ?_
  refine hm _ _ _ _ _ (fun r hp1 hq => ?_) (hop n _ (by omega) hI)
  obtain ⟨⟨v, rfl⟩, ⟨x1, rfl⟩, hM⟩ := hq
  show sxWP sc cl Q 257 (817, [some (.ref 1000000), some (.ref 0), some (.ref 59), some (.int (nI i))], [.long v], (wT x1), cu, su)
  refine stp hm 2 (?_ : sxCall cl 257 (sxWP sc cl Q 257) [225, 0, 1401, 0] 818 [some (.ref 1000000), some (.ref 0), some (.ref 59), some (.int (nI i))] [.ref 59] [.long v] (wT x1) cu su)
  refine lwcall rfl (le_c hcu hn) (le_s hsu hn) ?_
  refine hm _ _ _ _ _ (fun r2 hp2 hq => ?_) hM
  obtain ⟨rfl, hI2⟩ := hq
  show sxWP sc cl Q 257 (821, [some (.ref 1000000), some (.ref 0), some (.ref 59), some (.int (nI i))], [.long v, .long v], hp2, cu, su)
  refine stp hm 2 (bT ((lg_cmp_eq _ _).mpr rfl) ?_)
  exact hK hp2 cu su hI2 (by omega) (by omega)
set_option maxRecDepth 10000 in
theorem law_24 {n i cu su : Nat} {hp : sxH} (hm : CallMono cl) (hO : Ops cl Inv) (hW : ∀ n hp, Inv n hp → isW hp) (hn : n ≤ 520) (hi : i + 6 ≤ sc.1) (hL : sc.1 ≤ 3072) (hI : Inv n hp) (hcu : cu ≤ 81 + n) (hsu : su ≤ 5565 + 60 * n) (hK : ∀ hp cu su, Inv (n + 1) hp → cu ≤ 81 + (n + 1) → su ≤ 5565 + 60 * (n + 1) → sxWP sc cl Q 257 (1224, [some (.ref 1000000), some (.ref 0), some (.ref 59), some (.int (nI i))], [], hp, cu, su)) : sxWP sc cl Q 257 (827, [some (.ref 1000000), some (.ref 0), some (.ref 59), some (.int (nI i))], [], hp, cu, su) := by
  have hop := hO.2.2.2.2.2.2.2.2.2.2.2.2.2.2.2.2.2.2.2.2.2.2.2.2.1
  obtain ⟨x, hw⟩ := hW _ _ hI
  subst hw
  refine stp hm 6 (And.intro (lw_in (k := 1) (by omega) hL) (?_ : sxWP sc cl Q 257 (833, [some (.ref 1000000), some (.ref 0), some (.ref 59), some (.int (nI i))], [.int (sc.2 (nI i + 1).toNatClampNeg), .ref 0], (wT x), cu, su)))
  refine stp hm 5 (And.intro (lw_in (k := 2) (by omega) hL) (?_ : sxWP sc cl Q 257 (838, [some (.ref 1000000), some (.ref 0), some (.ref 59), some (.int (nI i))], [.int (sc.2 (nI i + 2).toNatClampNeg), .int (sc.2 (nI i + 1).toNatClampNeg), .ref 0], (wT x), cu, su)))
  refine stp hm 1 (?_ : sxCall cl 257 (sxWP sc cl Q 257) [122, 2, 797, 0] 838 [some (.ref 1000000), some (.ref 0), some (.ref 59), some (.int (nI i))] [.ref 0, .int (sc.2 (nI i + 1).toNatClampNeg), .int (sc.2 (nI i + 2).toNatClampNeg)] [] (wT x) cu su)
  refine lwcall rfl (le_c hcu hn) (le_s hsu hn) ?_
  refine hm _ _ _ _ _ (fun r hp1 hq => ?_) (hop _ _ n _ (by omega) hI)
  obtain ⟨⟨v, rfl⟩, ⟨x1, rfl⟩, hM⟩ := hq
  show sxWP sc cl Q 257 (841, [some (.ref 1000000), some (.ref 0), some (.ref 59), some (.int (nI i))], [.int v], (wT x1), cu, su)
  refine stp hm 6 (And.intro (lw_in (k := 1) (by omega) hL) (?_ : sxWP sc cl Q 257 (847, [some (.ref 1000000), some (.ref 0), some (.ref 59), some (.int (nI i))], [.int (sc.2 (nI i + 1).toNatClampNeg), .ref 59, .int v], (wT x1), cu, su)))
  refine stp hm 5 (And.intro (lw_in (k := 2) (by omega) hL) (?_ : sxWP sc cl Q 257 (852, [some (.ref 1000000), some (.ref 0), some (.ref 59), some (.int (nI i))], [.int (sc.2 (nI i + 2).toNatClampNeg), .int (sc.2 (nI i + 1).toNatClampNeg), .ref 59, .int v], (wT x1), cu, su)))
  refine stp hm 1 (?_ : sxCall cl 257 (sxWP sc cl Q 257) [226, 2, 1415, 0] 852 [some (.ref 1000000), some (.ref 0), some (.ref 59), some (.int (nI i))] [.ref 59, .int (sc.2 (nI i + 1).toNatClampNeg), .int (sc.2 (nI i + 2).toNatClampNeg)] [.int v] (wT x1) cu su)
  refine lwcall rfl (le_c hcu hn) (le_s hsu hn) ?_
  refine hm _ _ _ _ _ (fun r2 hp2 hq => ?_) hM
  obtain ⟨rfl, hI2⟩ := hq
  show sxWP sc cl Q 257 (855, [some (.ref 1000000), some (.ref 0), some (.ref 59), some (.int (nI i))], [.int v, .int v], hp2, cu, su)
  refine stp hm 1 (bT rfl ?_)
  exact hK hp2 cu su hI2 (by omega) (by omega)
set_option maxRecDepth 10000 in
theorem law_25 {n i cu su : Nat} {hp : sxH} (hm : CallMono cl) (hO : Ops cl Inv) (hW : ∀ n hp, Inv n hp → isW hp) (hn : n ≤ 520) (hi : i + 6 ≤ sc.1) (hL : sc.1 ≤ 3072) (hI : Inv n hp) (hcu : cu ≤ 81 + n) (hsu : su ≤ 5565 + 60 * n) (hK : ∀ hp cu su, Inv (n + 1) hp → cu ≤ 81 + (n + 1) → su ≤ 5565 + 60 * (n + 1) → sxWP sc cl Q 257 (1224, [some (.ref 1000000), some (.ref 0), some (.ref 59), some (.int (nI i))], [], hp, cu, su)) : sxWP sc cl Q 257 (860, [some (.ref 1000000), some (.ref 0), some (.ref 59), some (.int (nI i))], [], hp, cu, su) := by
  have hop := hO.2.2.2.2.2.2.2.2.2.2.2.2.2.2.2.2.2.2.2.2.2.2.2.2.2.1
  obtain ⟨x, hw⟩ := hW _ _ hI
  subst hw
  refine stp hm 6 (And.intro (lw_in (k := 1) (by omega) hL) (?_ : sxWP sc cl Q 257 (866, [some (.ref 1000000), some (.ref 0), some (.ref 59), some (.int (nI i))], [.int (sc.2 (nI i + 1).toNatClampNeg), .ref 0], (wT x), cu, su)))
  refine stp hm 1 (?_ : sxCall cl 257 (sxWP sc cl Q 257) [123, 1, 801, 0] 866 [some (.ref 1000000), some (.ref 0), some (.ref 59), some (.int (nI i))] [.ref 0, .int (sc.2 (nI i + 1).toNatClampNeg)] [] (wT x) cu su)
  refine lwcall rfl (le_c hcu hn) (le_s hsu hn) ?_
  refine hm _ _ _ _ _ (fun r hp1 hq => ?_) (hop _ n _ (by omega) hI)
  obtain ⟨⟨v, rfl⟩, ⟨x1, rfl⟩, hM⟩ := hq
  show sxWP sc cl Q 257 (869, [some (.ref 1000000), some (.ref 0), some (.ref 59), some (.int (nI i))], [.int v], (wT x1), cu, su)
  refine stp hm 6 (And.intro (lw_in (k := 1) (by omega) hL) (?_ : sxWP sc cl Q 257 (875, [some (.ref 1000000), some (.ref 0), some (.ref 59), some (.int (nI i))], [.int (sc.2 (nI i + 1).toNatClampNeg), .ref 59, .int v], (wT x1), cu, su)))
  refine stp hm 1 (?_ : sxCall cl 257 (sxWP sc cl Q 257) [228, 1, 1419, 0] 875 [some (.ref 1000000), some (.ref 0), some (.ref 59), some (.int (nI i))] [.ref 59, .int (sc.2 (nI i + 1).toNatClampNeg)] [.int v] (wT x1) cu su)
  refine lwcall rfl (le_c hcu hn) (le_s hsu hn) ?_
  refine hm _ _ _ _ _ (fun r2 hp2 hq => ?_) hM
  obtain ⟨rfl, hI2⟩ := hq
  show sxWP sc cl Q 257 (878, [some (.ref 1000000), some (.ref 0), some (.ref 59), some (.int (nI i))], [.int v, .int v], hp2, cu, su)
  refine stp hm 1 (bT rfl ?_)
  exact hK hp2 cu su hI2 (by omega) (by omega)
set_option maxRecDepth 10000 in
theorem law_26 {n i cu su : Nat} {hp : sxH} (hm : CallMono cl) (hO : Ops cl Inv) (hW : ∀ n hp, Inv n hp → isW hp) (hn : n ≤ 520) (hi : i + 6 ≤ sc.1) (hL : sc.1 ≤ 3072) (hI : Inv n hp) (hcu : cu ≤ 81 + n) (hsu : su ≤ 5565 + 60 * n) (hK : ∀ hp cu su, Inv (n + 1) hp → cu ≤ 81 + (n + 1) → su ≤ 5565 + 60 * (n + 1) → sxWP sc cl Q 257 (1224, [some (.ref 1000000), some (.ref 0), some (.ref 59), some (.int (nI i))], [], hp, cu, su)) : sxWP sc cl Q 257 (883, [some (.ref 1000000), some (.ref 0), some (.ref 59), some (.int (nI i))], [], hp, cu, su) := by
  have hop := hO.2.2.2.2.2.2.2.2.2.2.2.2.2.2.2.2.2.2.2.2.2.2.2.2.2.2.1
  obtain ⟨x, hw⟩ := hW _ _ hI
  subst hw
  refine stp hm 6 (And.intro (lw_in (k := 1) (by omega) hL) (?_ : sxWP sc cl Q 257 (889, [some (.ref 1000000), some (.ref 0), some (.ref 59), some (.int (nI i))], [.int (sc.2 (nI i + 1).toNatClampNeg), .ref 0], (wT x), cu, su)))
  refine stp hm 5 (And.intro (lw_in (k := 2) (by omega) hL) (?_ : sxWP sc cl Q 257 (894, [some (.ref 1000000), some (.ref 0), some (.ref 59), some (.int (nI i))], [.int (sc.2 (nI i + 2).toNatClampNeg), .int (sc.2 (nI i + 1).toNatClampNeg), .ref 0], (wT x), cu, su)))
  refine stp hm 1 (?_ : sxCall cl 257 (sxWP sc cl Q 257) [125, 2, 811, 0] 894 [some (.ref 1000000), some (.ref 0), some (.ref 59), some (.int (nI i))] [.ref 0, .int (sc.2 (nI i + 1).toNatClampNeg), .int (sc.2 (nI i + 2).toNatClampNeg)] [] (wT x) cu su)
  refine lwcall rfl (le_c hcu hn) (le_s hsu hn) ?_
  refine hm _ _ _ _ _ (fun r hp1 hq => ?_) (hop _ _ n _ (by omega) hI)
  obtain ⟨⟨v, rfl⟩, ⟨x1, rfl⟩, hM⟩ := hq
  show sxWP sc cl Q 257 (897, [some (.ref 1000000), some (.ref 0), some (.ref 59), some (.int (nI i))], [.int v], (wT x1), cu, su)
  refine stp hm 6 (And.intro (lw_in (k := 1) (by omega) hL) (?_ : sxWP sc cl Q 257 (903, [some (.ref 1000000), some (.ref 0), some (.ref 59), some (.int (nI i))], [.int (sc.2 (nI i + 1).toNatClampNeg), .ref 59, .int v], (wT x1), cu, su)))
  refine stp hm 5 (And.intro (lw_in (k := 2) (by omega) hL) (?_ : sxWP sc cl Q 257 (908, [some (.ref 1000000), some (.ref 0), some (.ref 59), some (.int (nI i))], [.int (sc.2 (nI i + 2).toNatClampNeg), .int (sc.2 (nI i + 1).toNatClampNeg), .ref 59, .int v], (wT x1), cu, su)))
  refine stp hm 1 (?_ : sxCall cl 257 (sxWP sc cl Q 257) [229, 2, 1427, 0] 908 [some (.ref 1000000), some (.ref 0), some (.ref 59), some (.int (nI i))] [.ref 59, .int (sc.2 (nI i + 1).toNatClampNeg), .int (sc.2 (nI i + 2).toNatClampNeg)] [.int v] (wT x1) cu su)
  refine lwcall rfl (le_c hcu hn) (le_s hsu hn) ?_
  refine hm _ _ _ _ _ (fun r2 hp2 hq => ?_) hM
  obtain ⟨rfl, hI2⟩ := hq
  show sxWP sc cl Q 257 (911, [some (.ref 1000000), some (.ref 0), some (.ref 59), some (.int (nI i))], [.int v, .int v], hp2, cu, su)
  refine stp hm 1 (bT rfl ?_)
  exact hK hp2 cu su hI2 (by omega) (by omega)
set_option maxRecDepth 10000 in
theorem law_27 {n i cu su : Nat} {hp : sxH} (hm : CallMono cl) (hO : Ops cl Inv) (hW : ∀ n hp, Inv n hp → isW hp) (hn : n ≤ 520) (hi : i + 6 ≤ sc.1) (hL : sc.1 ≤ 3072) (hI : Inv n hp) (hcu : cu ≤ 81 + n) (hsu : su ≤ 5565 + 60 * n) (hK : ∀ hp cu su, Inv (n + 1) hp → cu ≤ 81 + (n + 1) → su ≤ 5565 + 60 * (n + 1) → sxWP sc cl Q 257 (1224, [some (.ref 1000000), some (.ref 0), some (.ref 59), some (.int (nI i))], [], hp, cu, su)) : sxWP sc cl Q 257 (916, [some (.ref 1000000), some (.ref 0), some (.ref 59), some (.int (nI i))], [], hp, cu, su) := by
  have hop := hO.2.2.2.2.2.2.2.2.2.2.2.2.2.2.2.2.2.2.2.2.2.2.2.2.2.2.2.1
  obtain ⟨x, hw⟩ := hW _ _ hI
  subst hw
  refine stp hm 2 (?_ : sxCall cl 257 (sxWP sc cl Q 257) [126, 0, 815, 0] 917 [some (.ref 1000000), some (.ref 0), some (.ref 59), some (.int (nI i))] [.ref 0] [] (wT x) cu su)
  refine lwcall rfl (le_c hcu hn) (le_s hsu hn) ?_
  refine hm _ _ _ _ _ (fun r hp1 hq => ?_) (hop n _ (by omega) hI)
  obtain ⟨⟨v, rfl⟩, ⟨x1, rfl⟩, hM⟩ := hq
  show sxWP sc cl Q 257 (920, [some (.ref 1000000), some (.ref 0), some (.ref 59), some (.int (nI i))], [.int v], (wT x1), cu, su)
  refine stp hm 2 (?_ : sxCall cl 257 (sxWP sc cl Q 257) [230, 0, 1431, 0] 921 [some (.ref 1000000), some (.ref 0), some (.ref 59), some (.int (nI i))] [.ref 59] [.int v] (wT x1) cu su)
  refine lwcall rfl (le_c hcu hn) (le_s hsu hn) ?_
  refine hm _ _ _ _ _ (fun r2 hp2 hq => ?_) hM
  obtain ⟨rfl, hI2⟩ := hq
  show sxWP sc cl Q 257 (924, [some (.ref 1000000), some (.ref 0), some (.ref 59), some (.int (nI i))], [.int v, .int v], hp2, cu, su)
  refine stp hm 1 (bT rfl ?_)
  exact hK hp2 cu su hI2 (by omega) (by omega)
set_option maxRecDepth 10000 in
theorem law_28 {n i cu su : Nat} {hp : sxH} (hm : CallMono cl) (hO : Ops cl Inv) (hW : ∀ n hp, Inv n hp → isW hp) (hn : n ≤ 520) (hi : i + 6 ≤ sc.1) (hL : sc.1 ≤ 3072) (hI : Inv n hp) (hcu : cu ≤ 81 + n) (hsu : su ≤ 5565 + 60 * n) (hK : ∀ hp cu su, Inv (n + 1) hp → cu ≤ 81 + (n + 1) → su ≤ 5565 + 60 * (n + 1) → sxWP sc cl Q 257 (1224, [some (.ref 1000000), some (.ref 0), some (.ref 59), some (.int (nI i))], [], hp, cu, su)) : sxWP sc cl Q 257 (929, [some (.ref 1000000), some (.ref 0), some (.ref 59), some (.int (nI i))], [], hp, cu, su) := by
  have hop := hO.2.2.2.2.2.2.2.2.2.2.2.2.2.2.2.2.2.2.2.2.2.2.2.2.2.2.2.2.1
  obtain ⟨x, hw⟩ := hW _ _ hI
  subst hw
  refine stp hm 6 (And.intro (lw_in (k := 1) (by omega) hL) (?_ : sxWP sc cl Q 257 (935, [some (.ref 1000000), some (.ref 0), some (.ref 59), some (.int (nI i))], [.int (sc.2 (nI i + 1).toNatClampNeg), .ref 0], (wT x), cu, su)))
  refine stp hm 5 (And.intro (lw_in (k := 2) (by omega) hL) (?_ : sxWP sc cl Q 257 (940, [some (.ref 1000000), some (.ref 0), some (.ref 59), some (.int (nI i))], [.int (sc.2 (nI i + 2).toNatClampNeg), .int (sc.2 (nI i + 1).toNatClampNeg), .ref 0], (wT x), cu, su)))
  refine stp hm 1 (?_ : sxCall cl 257 (sxWP sc cl Q 257) [127, 2, 819, 0] 940 [some (.ref 1000000), some (.ref 0), some (.ref 59), some (.int (nI i))] [.ref 0, .int (sc.2 (nI i + 1).toNatClampNeg), .int (sc.2 (nI i + 2).toNatClampNeg)] [] (wT x) cu su)
  refine lwcall rfl (le_c hcu hn) (le_s hsu hn) ?_
  refine hm _ _ _ _ _ (fun r hp1 hq => ?_) (hop _ _ n _ (by omega) hI)
  obtain ⟨⟨v, rfl⟩, ⟨x1, rfl⟩, hM⟩ := hq
  show sxWP sc cl Q 257 (943, [some (.ref 1000000), some (.ref 0), some (.ref 59), some (.int (nI i))], [.int v], (wT x1), cu, su)
  refine stp hm 6 (And.intro (lw_in (k := 1) (by omega) hL) (?_ : sxWP sc cl Q 257 (949, [some (.ref 1000000), some (.ref 0), some (.ref 59), some (.int (nI i))], [.int (sc.2 (nI i + 1).toNatClampNeg), .ref 59, .int v], (wT x1), cu, su)))
  refine stp hm 5 (And.intro (lw_in (k := 2) (by omega) hL) (?_ : sxWP sc cl Q 257 (954, [some (.ref 1000000), some (.ref 0), some (.ref 59), some (.int (nI i))], [.int (sc.2 (nI i + 2).toNatClampNeg), .int (sc.2 (nI i + 1).toNatClampNeg), .ref 59, .int v], (wT x1), cu, su)))
  refine stp hm 1 (?_ : sxCall cl 257 (sxWP sc cl Q 257) [232, 2, 1435, 0] 954 [some (.ref 1000000), some (.ref 0), some (.ref 59), some (.int (nI i))] [.ref 59, .int (sc.2 (nI i + 1).toNatClampNeg), .int (sc.2 (nI i + 2).toNatClampNeg)] [.int v] (wT x1) cu su)
  refine lwcall rfl (le_c hcu hn) (le_s hsu hn) ?_
  refine hm _ _ _ _ _ (fun r2 hp2 hq => ?_) hM
  obtain ⟨rfl, hI2⟩ := hq
  show sxWP sc cl Q 257 (957, [some (.ref 1000000), some (.ref 0), some (.ref 59), some (.int (nI i))], [.int v, .int v], hp2, cu, su)
  refine stp hm 1 (bT rfl ?_)
  exact hK hp2 cu su hI2 (by omega) (by omega)
set_option maxRecDepth 10000 in
theorem law_29 {n i cu su : Nat} {hp : sxH} (hm : CallMono cl) (hO : Ops cl Inv) (hW : ∀ n hp, Inv n hp → isW hp) (hn : n ≤ 520) (hi : i + 6 ≤ sc.1) (hL : sc.1 ≤ 3072) (hI : Inv n hp) (hcu : cu ≤ 81 + n) (hsu : su ≤ 5565 + 60 * n) (hK : ∀ hp cu su, Inv (n + 1) hp → cu ≤ 81 + (n + 1) → su ≤ 5565 + 60 * (n + 1) → sxWP sc cl Q 257 (1224, [some (.ref 1000000), some (.ref 0), some (.ref 59), some (.int (nI i))], [], hp, cu, su)) : sxWP sc cl Q 257 (962, [some (.ref 1000000), some (.ref 0), some (.ref 59), some (.int (nI i))], [], hp, cu, su) := by
  have hop := hO.2.2.2.2.2.2.2.2.2.2.2.2.2.2.2.2.2.2.2.2.2.2.2.2.2.2.2.2.2.1
  obtain ⟨x, hw⟩ := hW _ _ hI
  subst hw
  refine stp hm 2 (?_ : sxCall cl 257 (sxWP sc cl Q 257) [128, 0, 835, 0] 963 [some (.ref 1000000), some (.ref 0), some (.ref 59), some (.int (nI i))] [.ref 0] [] (wT x) cu su)
  refine lwcall rfl (le_c hcu hn) (le_s hsu hn) ?_
  refine hm _ _ _ _ _ (fun r hp1 hq => ?_) (hop n _ (by omega) hI)
  obtain ⟨⟨v, rfl⟩, ⟨x1, rfl⟩, hM⟩ := hq
  show sxWP sc cl Q 257 (966, [some (.ref 1000000), some (.ref 0), some (.ref 59), some (.int (nI i))], [.int v], (wT x1), cu, su)
  refine stp hm 2 (?_ : sxCall cl 257 (sxWP sc cl Q 257) [234, 0, 1442, 0] 967 [some (.ref 1000000), some (.ref 0), some (.ref 59), some (.int (nI i))] [.ref 59] [.int v] (wT x1) cu su)
  refine lwcall rfl (le_c hcu hn) (le_s hsu hn) ?_
  refine hm _ _ _ _ _ (fun r2 hp2 hq => ?_) hM
  obtain ⟨rfl, hI2⟩ := hq
  show sxWP sc cl Q 257 (970, [some (.ref 1000000), some (.ref 0), some (.ref 59), some (.int (nI i))], [.int v, .int v], hp2, cu, su)
  refine stp hm 1 (bT rfl ?_)
  exact hK hp2 cu su hI2 (by omega) (by omega)
set_option maxRecDepth 10000 in
theorem law_30 {n i cu su : Nat} {hp : sxH} (hm : CallMono cl) (hO : Ops cl Inv) (hW : ∀ n hp, Inv n hp → isW hp) (hn : n ≤ 520) (hi : i + 6 ≤ sc.1) (hL : sc.1 ≤ 3072) (hI : Inv n hp) (hcu : cu ≤ 81 + n) (hsu : su ≤ 5565 + 60 * n) (hK : ∀ hp cu su, Inv (n + 1) hp → cu ≤ 81 + (n + 1) → su ≤ 5565 + 60 * (n + 1) → sxWP sc cl Q 257 (1224, [some (.ref 1000000), some (.ref 0), some (.ref 59), some (.int (nI i))], [], hp, cu, su)) : sxWP sc cl Q 257 (975, [some (.ref 1000000), some (.ref 0), some (.ref 59), some (.int (nI i))], [], hp, cu, su) := by
  have hop := hO.2.2.2.2.2.2.2.2.2.2.2.2.2.2.2.2.2.2.2.2.2.2.2.2.2.2.2.2.2.2.1
  obtain ⟨x, hw⟩ := hW _ _ hI
  subst hw
  refine stp hm 2 (?_ : sxCall cl 257 (sxWP sc cl Q 257) [129, 0, 857, 0] 976 [some (.ref 1000000), some (.ref 0), some (.ref 59), some (.int (nI i))] [.ref 0] [] (wT x) cu su)
  refine lwcall rfl (le_c hcu hn) (le_s hsu hn) ?_
  refine hm _ _ _ _ _ (fun r hp1 hq => ?_) (hop n _ (by omega) hI)
  obtain ⟨⟨v, rfl⟩, ⟨x1, rfl⟩, hM⟩ := hq
  show sxWP sc cl Q 257 (979, [some (.ref 1000000), some (.ref 0), some (.ref 59), some (.int (nI i))], [.int v], (wT x1), cu, su)
  refine stp hm 2 (?_ : sxCall cl 257 (sxWP sc cl Q 257) [235, 0, 1449, 0] 980 [some (.ref 1000000), some (.ref 0), some (.ref 59), some (.int (nI i))] [.ref 59] [.int v] (wT x1) cu su)
  refine lwcall rfl (le_c hcu hn) (le_s hsu hn) ?_
  refine hm _ _ _ _ _ (fun r2 hp2 hq => ?_) hM
  obtain ⟨rfl, hI2⟩ := hq
  show sxWP sc cl Q 257 (983, [some (.ref 1000000), some (.ref 0), some (.ref 59), some (.int (nI i))], [.int v, .int v], hp2, cu, su)
  refine stp hm 1 (bT rfl ?_)
  exact hK hp2 cu su hI2 (by omega) (by omega)
set_option maxRecDepth 10000 in
theorem law_31 {n i cu su : Nat} {hp : sxH} (hm : CallMono cl) (hO : Ops cl Inv) (hW : ∀ n hp, Inv n hp → isW hp) (hn : n ≤ 520) (hi : i + 6 ≤ sc.1) (hL : sc.1 ≤ 3072) (hI : Inv n hp) (hcu : cu ≤ 81 + n) (hsu : su ≤ 5565 + 60 * n) (hK : ∀ hp cu su, Inv (n + 1) hp → cu ≤ 81 + (n + 1) → su ≤ 5565 + 60 * (n + 1) → sxWP sc cl Q 257 (1224, [some (.ref 1000000), some (.ref 0), some (.ref 59), some (.int (nI i))], [], hp, cu, su)) : sxWP sc cl Q 257 (988, [some (.ref 1000000), some (.ref 0), some (.ref 59), some (.int (nI i))], [], hp, cu, su) := by
  have hop := hO.2.2.2.2.2.2.2.2.2.2.2.2.2.2.2.2.2.2.2.2.2.2.2.2.2.2.2.2.2.2.2.1
  obtain ⟨x, hw⟩ := hW _ _ hI
  subst hw
  refine stp hm 6 (And.intro (lw_in (k := 1) (by omega) hL) (?_ : sxWP sc cl Q 257 (994, [some (.ref 1000000), some (.ref 0), some (.ref 59), some (.int (nI i))], [.int (sc.2 (nI i + 1).toNatClampNeg), .ref 0], (wT x), cu, su)))
  refine stp hm 1 (?_ : sxCall cl 257 (sxWP sc cl Q 257) [130, 1, 861, 0] 994 [some (.ref 1000000), some (.ref 0), some (.ref 59), some (.int (nI i))] [.ref 0, .int (sc.2 (nI i + 1).toNatClampNeg)] [] (wT x) cu su)
  refine lwcall rfl (le_c hcu hn) (le_s hsu hn) ?_
  refine hm _ _ _ _ _ (fun r hp1 hq => ?_) (hop _ n _ (by omega) hI)
  obtain ⟨⟨v, rfl⟩, ⟨x1, rfl⟩, hM⟩ := hq
  show sxWP sc cl Q 257 (997, [some (.ref 1000000), some (.ref 0), some (.ref 59), some (.int (nI i))], [.int v], (wT x1), cu, su)
  refine stp hm 6 (And.intro (lw_in (k := 1) (by omega) hL) (?_ : sxWP sc cl Q 257 (1003, [some (.ref 1000000), some (.ref 0), some (.ref 59), some (.int (nI i))], [.int (sc.2 (nI i + 1).toNatClampNeg), .ref 59, .int v], (wT x1), cu, su)))
  refine stp hm 1 (?_ : sxCall cl 257 (sxWP sc cl Q 257) [236, 1, 1453, 0] 1003 [some (.ref 1000000), some (.ref 0), some (.ref 59), some (.int (nI i))] [.ref 59, .int (sc.2 (nI i + 1).toNatClampNeg)] [.int v] (wT x1) cu su)
  refine lwcall rfl (le_c hcu hn) (le_s hsu hn) ?_
  refine hm _ _ _ _ _ (fun r2 hp2 hq => ?_) hM
  obtain ⟨rfl, hI2⟩ := hq
  show sxWP sc cl Q 257 (1006, [some (.ref 1000000), some (.ref 0), some (.ref 59), some (.int (nI i))], [.int v, .int v], hp2, cu, su)
  refine stp hm 1 (bT rfl ?_)
  exact hK hp2 cu su hI2 (by omega) (by omega)
set_option maxRecDepth 10000 in
theorem law_32 {n i cu su : Nat} {hp : sxH} (hm : CallMono cl) (hO : Ops cl Inv) (hW : ∀ n hp, Inv n hp → isW hp) (hn : n ≤ 520) (hi : i + 6 ≤ sc.1) (hL : sc.1 ≤ 3072) (hI : Inv n hp) (hcu : cu ≤ 81 + n) (hsu : su ≤ 5565 + 60 * n) (hK : ∀ hp cu su, Inv (n + 1) hp → cu ≤ 81 + (n + 1) → su ≤ 5565 + 60 * (n + 1) → sxWP sc cl Q 257 (1224, [some (.ref 1000000), some (.ref 0), some (.ref 59), some (.int (nI i))], [], hp, cu, su)) : sxWP sc cl Q 257 (1011, [some (.ref 1000000), some (.ref 0), some (.ref 59), some (.int (nI i))], [], hp, cu, su) := by
  have hop := hO.2.2.2.2.2.2.2.2.2.2.2.2.2.2.2.2.2.2.2.2.2.2.2.2.2.2.2.2.2.2.2.2.1
  obtain ⟨x, hw⟩ := hW _ _ hI
  subst hw
  refine stp hm 6 (And.intro (lw_in (k := 1) (by omega) hL) (?_ : sxWP sc cl Q 257 (1017, [some (.ref 1000000), some (.ref 0), some (.ref 59), some (.int (nI i))], [.int (sc.2 (nI i + 1).toNatClampNeg), .ref 0], (wT x), cu, su)))
  refine stp hm 5 (And.intro (lw_in (k := 2) (by omega) hL) (?_ : sxWP sc cl Q 257 (1022, [some (.ref 1000000), some (.ref 0), some (.ref 59), some (.int (nI i))], [.int (sc.2 (nI i + 2).toNatClampNeg), .int (sc.2 (nI i + 1).toNatClampNeg), .ref 0], (wT x), cu, su)))
  refine stp hm 5 (And.intro (lw_in (k := 3) (by omega) hL) (?_ : sxWP sc cl Q 257 (1027, [some (.ref 1000000), some (.ref 0), some (.ref 59), some (.int (nI i))], [.int (sc.2 (nI i + 3).toNatClampNeg), .int (sc.2 (nI i + 2).toNatClampNeg), .int (sc.2 (nI i + 1).toNatClampNeg), .ref 0], (wT x), cu, su)))
  refine stp hm 1 (?_ : sxCall cl 257 (sxWP sc cl Q 257) [131, 3, 865, 0] 1027 [some (.ref 1000000), some (.ref 0), some (.ref 59), some (.int (nI i))] [.ref 0, .int (sc.2 (nI i + 1).toNatClampNeg), .int (sc.2 (nI i + 2).toNatClampNeg), .int (sc.2 (nI i + 3).toNatClampNeg)] [] (wT x) cu su)
  refine lwcall rfl (le_c hcu hn) (le_s hsu hn) ?_
  refine hm _ _ _ _ _ (fun r hp1 hq => ?_) (hop _ _ _ n _ (by omega) hI)
  obtain ⟨⟨v, rfl⟩, ⟨x1, rfl⟩, hM⟩ := hq
  show sxWP sc cl Q 257 (1030, [some (.ref 1000000), some (.ref 0), some (.ref 59), some (.int (nI i))], [.int v], (wT x1), cu, su)
  refine stp hm 6 (And.intro (lw_in (k := 1) (by omega) hL) (?_ : sxWP sc cl Q 257 (1036, [some (.ref 1000000), some (.ref 0), some (.ref 59), some (.int (nI i))], [.int (sc.2 (nI i + 1).toNatClampNeg), .ref 59, .int v], (wT x1), cu, su)))
  refine stp hm 5 (And.intro (lw_in (k := 2) (by omega) hL) (?_ : sxWP sc cl Q 257 (1041, [some (.ref 1000000), some (.ref 0), some (.ref 59), some (.int (nI i))], [.int (sc.2 (nI i + 2).toNatClampNeg), .int (sc.2 (nI i + 1).toNatClampNeg), .ref 59, .int v], (wT x1), cu, su)))
  refine stp hm 5 (And.intro (lw_in (k := 3) (by omega) hL) (?_ : sxWP sc cl Q 257 (1046, [some (.ref 1000000), some (.ref 0), some (.ref 59), some (.int (nI i))], [.int (sc.2 (nI i + 3).toNatClampNeg), .int (sc.2 (nI i + 2).toNatClampNeg), .int (sc.2 (nI i + 1).toNatClampNeg), .ref 59, .int v], (wT x1), cu, su)))
  refine stp hm 1 (?_ : sxCall cl 257 (sxWP sc cl Q 257) [237, 3, 1457, 0] 1046 [some (.ref 1000000), some (.ref 0), some (.ref 59), some (.int (nI i))] [.ref 59, .int (sc.2 (nI i + 1).toNatClampNeg), .int (sc.2 (nI i + 2).toNatClampNeg), .int (sc.2 (nI i + 3).toNatClampNeg)] [.int v] (wT x1) cu su)
  refine lwcall rfl (le_c hcu hn) (le_s hsu hn) ?_
  refine hm _ _ _ _ _ (fun r2 hp2 hq => ?_) hM
  obtain ⟨rfl, hI2⟩ := hq
  show sxWP sc cl Q 257 (1049, [some (.ref 1000000), some (.ref 0), some (.ref 59), some (.int (nI i))], [.int v, .int v], hp2, cu, su)
  refine stp hm 1 (bT rfl ?_)
  exact hK hp2 cu su hI2 (by omega) (by omega)
set_option maxRecDepth 10000 in
theorem law_33 {n i cu su : Nat} {hp : sxH} (hm : CallMono cl) (hO : Ops cl Inv) (hW : ∀ n hp, Inv n hp → isW hp) (hn : n ≤ 520) (hi : i + 6 ≤ sc.1) (hL : sc.1 ≤ 3072) (hI : Inv n hp) (hcu : cu ≤ 81 + n) (hsu : su ≤ 5565 + 60 * n) (hK : ∀ hp cu su, Inv (n + 1) hp → cu ≤ 81 + (n + 1) → su ≤ 5565 + 60 * (n + 1) → sxWP sc cl Q 257 (1224, [some (.ref 1000000), some (.ref 0), some (.ref 59), some (.int (nI i))], [], hp, cu, su)) : sxWP sc cl Q 257 (1054, [some (.ref 1000000), some (.ref 0), some (.ref 59), some (.int (nI i))], [], hp, cu, su) := by
  have hop := hO.2.2.2.2.2.2.2.2.2.2.2.2.2.2.2.2.2.2.2.2.2.2.2.2.2.2.2.2.2.2.2.2.2.1
  obtain ⟨x, hw⟩ := hW _ _ hI
  subst hw
  refine stp hm 6 (And.intro (lw_in (k := 1) (by omega) hL) (?_ : sxWP sc cl Q 257 (1060, [some (.ref 1000000), some (.ref 0), some (.ref 59), some (.int (nI i))], [.int (sc.2 (nI i + 1).toNatClampNeg), .ref 0], (wT x), cu, su)))
  refine stp hm 5 (And.intro (lw_in (k := 2) (by omega) hL) (?_ : sxWP sc cl Q 257 (1065, [some (.ref 1000000), some (.ref 0), some (.ref 59), some (.int (nI i))], [.int (sc.2 (nI i + 2).toNatClampNeg), .int (sc.2 (nI i + 1).toNatClampNeg), .ref 0], (wT x), cu, su)))
  refine stp hm 5 (And.intro (lw_in (k := 3) (by omega) hL) (?_ : sxWP sc cl Q 257 (1070, [some (.ref 1000000), some (.ref 0), some (.ref 59), some (.int (nI i))], [.int (sc.2 (nI i + 3).toNatClampNeg), .int (sc.2 (nI i + 2).toNatClampNeg), .int (sc.2 (nI i + 1).toNatClampNeg), .ref 0], (wT x), cu, su)))
  refine stp hm 8 (And.intro (lw_in (k := 4) (by omega) hL) (?_ : sxWP sc cl Q 257 (1079, [some (.ref 1000000), some (.ref 0), some (.ref 59), some (.int (nI i))], [.int (sc.2 (nI i + 4).toNatClampNeg), .long (((sc.2 (nI i + 3).toNatClampNeg).toInt64) <<< ((32:Int32).toInt64 &&& 63)), .int (sc.2 (nI i + 2).toNatClampNeg), .int (sc.2 (nI i + 1).toNatClampNeg), .ref 0], (wT x), cu, su)))
  refine stp hm 5 (?_ : sxCall cl 257 (sxWP sc cl Q 257) [132, 3, 876, 0] 1085 [some (.ref 1000000), some (.ref 0), some (.ref 59), some (.int (nI i))] [.ref 0, .int (sc.2 (nI i + 1).toNatClampNeg), .int (sc.2 (nI i + 2).toNatClampNeg), .long ((((sc.2 (nI i + 3).toNatClampNeg).toInt64) <<< ((32:Int32).toInt64 &&& 63)) ||| (((sc.2 (nI i + 4).toNatClampNeg).toInt64) &&& (4294967295:Int64)))] [] (wT x) cu su)
  refine lwcall rfl (le_c hcu hn) (le_s hsu hn) ?_
  refine hm _ _ _ _ _ (fun r hp1 hq => ?_) (hop _ _ _ n _ (by omega) hI)
  obtain ⟨⟨v, rfl⟩, ⟨x1, rfl⟩, hM⟩ := hq
  show sxWP sc cl Q 257 (1088, [some (.ref 1000000), some (.ref 0), some (.ref 59), some (.int (nI i))], [.int v], (wT x1), cu, su)
  refine stp hm 6 (And.intro (lw_in (k := 1) (by omega) hL) (?_ : sxWP sc cl Q 257 (1094, [some (.ref 1000000), some (.ref 0), some (.ref 59), some (.int (nI i))], [.int (sc.2 (nI i + 1).toNatClampNeg), .ref 59, .int v], (wT x1), cu, su)))
  refine stp hm 5 (And.intro (lw_in (k := 2) (by omega) hL) (?_ : sxWP sc cl Q 257 (1099, [some (.ref 1000000), some (.ref 0), some (.ref 59), some (.int (nI i))], [.int (sc.2 (nI i + 2).toNatClampNeg), .int (sc.2 (nI i + 1).toNatClampNeg), .ref 59, .int v], (wT x1), cu, su)))
  refine stp hm 5 (And.intro (lw_in (k := 3) (by omega) hL) (?_ : sxWP sc cl Q 257 (1104, [some (.ref 1000000), some (.ref 0), some (.ref 59), some (.int (nI i))], [.int (sc.2 (nI i + 3).toNatClampNeg), .int (sc.2 (nI i + 2).toNatClampNeg), .int (sc.2 (nI i + 1).toNatClampNeg), .ref 59, .int v], (wT x1), cu, su)))
  refine stp hm 8 (And.intro (lw_in (k := 4) (by omega) hL) (?_ : sxWP sc cl Q 257 (1113, [some (.ref 1000000), some (.ref 0), some (.ref 59), some (.int (nI i))], [.int (sc.2 (nI i + 4).toNatClampNeg), .long (((sc.2 (nI i + 3).toNatClampNeg).toInt64) <<< ((32:Int32).toInt64 &&& 63)), .int (sc.2 (nI i + 2).toNatClampNeg), .int (sc.2 (nI i + 1).toNatClampNeg), .ref 59, .int v], (wT x1), cu, su)))
  refine stp hm 5 (?_ : sxCall cl 257 (sxWP sc cl Q 257) [239, 3, 1461, 0] 1119 [some (.ref 1000000), some (.ref 0), some (.ref 59), some (.int (nI i))] [.ref 59, .int (sc.2 (nI i + 1).toNatClampNeg), .int (sc.2 (nI i + 2).toNatClampNeg), .long ((((sc.2 (nI i + 3).toNatClampNeg).toInt64) <<< ((32:Int32).toInt64 &&& 63)) ||| (((sc.2 (nI i + 4).toNatClampNeg).toInt64) &&& (4294967295:Int64)))] [.int v] (wT x1) cu su)
  refine lwcall rfl (le_c hcu hn) (le_s hsu hn) ?_
  refine hm _ _ _ _ _ (fun r2 hp2 hq => ?_) hM
  obtain ⟨rfl, hI2⟩ := hq
  show sxWP sc cl Q 257 (1122, [some (.ref 1000000), some (.ref 0), some (.ref 59), some (.int (nI i))], [.int v, .int v], hp2, cu, su)
  refine stp hm 1 (bT rfl ?_)
  exact hK hp2 cu su hI2 (by omega) (by omega)
set_option maxRecDepth 10000 in
theorem law_34 {n i cu su : Nat} {hp : sxH} (hm : CallMono cl) (hO : Ops cl Inv) (hW : ∀ n hp, Inv n hp → isW hp) (hn : n ≤ 520) (hi : i + 6 ≤ sc.1) (hL : sc.1 ≤ 3072) (hI : Inv n hp) (hcu : cu ≤ 81 + n) (hsu : su ≤ 5565 + 60 * n) (hK : ∀ hp cu su, Inv (n + 1) hp → cu ≤ 81 + (n + 1) → su ≤ 5565 + 60 * (n + 1) → sxWP sc cl Q 257 (1224, [some (.ref 1000000), some (.ref 0), some (.ref 59), some (.int (nI i))], [], hp, cu, su)) : sxWP sc cl Q 257 (1127, [some (.ref 1000000), some (.ref 0), some (.ref 59), some (.int (nI i))], [], hp, cu, su) := by
  have hop := hO.2.2.2.2.2.2.2.2.2.2.2.2.2.2.2.2.2.2.2.2.2.2.2.2.2.2.2.2.2.2.2.2.2.2.1
  obtain ⟨x, hw⟩ := hW _ _ hI
  subst hw
  refine stp hm 6 (And.intro (lw_in (k := 1) (by omega) hL) (?_ : sxWP sc cl Q 257 (1133, [some (.ref 1000000), some (.ref 0), some (.ref 59), some (.int (nI i))], [.int (sc.2 (nI i + 1).toNatClampNeg), .ref 0], (wT x), cu, su)))
  refine stp hm 5 (And.intro (lw_in (k := 2) (by omega) hL) (?_ : sxWP sc cl Q 257 (1138, [some (.ref 1000000), some (.ref 0), some (.ref 59), some (.int (nI i))], [.int (sc.2 (nI i + 2).toNatClampNeg), .int (sc.2 (nI i + 1).toNatClampNeg), .ref 0], (wT x), cu, su)))
  refine stp hm 1 (?_ : sxCall cl 257 (sxWP sc cl Q 257) [133, 2, 888, 0] 1138 [some (.ref 1000000), some (.ref 0), some (.ref 59), some (.int (nI i))] [.ref 0, .int (sc.2 (nI i + 1).toNatClampNeg), .int (sc.2 (nI i + 2).toNatClampNeg)] [] (wT x) cu su)
  refine lwcall rfl (le_c hcu hn) (le_s hsu hn) ?_
  refine hm _ _ _ _ _ (fun r hp1 hq => ?_) (hop _ _ n _ (by omega) hI)
  obtain ⟨⟨v, rfl⟩, ⟨x1, rfl⟩, hM⟩ := hq
  show sxWP sc cl Q 257 (1141, [some (.ref 1000000), some (.ref 0), some (.ref 59), some (.int (nI i))], [.long v], (wT x1), cu, su)
  refine stp hm 6 (And.intro (lw_in (k := 1) (by omega) hL) (?_ : sxWP sc cl Q 257 (1147, [some (.ref 1000000), some (.ref 0), some (.ref 59), some (.int (nI i))], [.int (sc.2 (nI i + 1).toNatClampNeg), .ref 59, .long v], (wT x1), cu, su)))
  refine stp hm 5 (And.intro (lw_in (k := 2) (by omega) hL) (?_ : sxWP sc cl Q 257 (1152, [some (.ref 1000000), some (.ref 0), some (.ref 59), some (.int (nI i))], [.int (sc.2 (nI i + 2).toNatClampNeg), .int (sc.2 (nI i + 1).toNatClampNeg), .ref 59, .long v], (wT x1), cu, su)))
  refine stp hm 1 (?_ : sxCall cl 257 (sxWP sc cl Q 257) [240, 2, 1468, 0] 1152 [some (.ref 1000000), some (.ref 0), some (.ref 59), some (.int (nI i))] [.ref 59, .int (sc.2 (nI i + 1).toNatClampNeg), .int (sc.2 (nI i + 2).toNatClampNeg)] [.long v] (wT x1) cu su)
  refine lwcall rfl (le_c hcu hn) (le_s hsu hn) ?_
  refine hm _ _ _ _ _ (fun r2 hp2 hq => ?_) hM
  obtain ⟨rfl, hI2⟩ := hq
  show sxWP sc cl Q 257 (1155, [some (.ref 1000000), some (.ref 0), some (.ref 59), some (.int (nI i))], [.long v, .long v], hp2, cu, su)
  refine stp hm 2 (bT ((lg_cmp_eq _ _).mpr rfl) ?_)
  exact hK hp2 cu su hI2 (by omega) (by omega)
set_option maxRecDepth 10000 in
theorem law_35 {n i cu su : Nat} {hp : sxH} (hm : CallMono cl) (hO : Ops cl Inv) (hW : ∀ n hp, Inv n hp → isW hp) (hn : n ≤ 520) (hi : i + 6 ≤ sc.1) (hL : sc.1 ≤ 3072) (hI : Inv n hp) (hcu : cu ≤ 81 + n) (hsu : su ≤ 5565 + 60 * n) (hK : ∀ hp cu su, Inv (n + 1) hp → cu ≤ 81 + (n + 1) → su ≤ 5565 + 60 * (n + 1) → sxWP sc cl Q 257 (1224, [some (.ref 1000000), some (.ref 0), some (.ref 59), some (.int (nI i))], [], hp, cu, su)) : sxWP sc cl Q 257 (1161, [some (.ref 1000000), some (.ref 0), some (.ref 59), some (.int (nI i))], [], hp, cu, su) := by
  have hop := hO.2.2.2.2.2.2.2.2.2.2.2.2.2.2.2.2.2.2.2.2.2.2.2.2.2.2.2.2.2.2.2.2.2.2.2
  obtain ⟨x, hw⟩ := hW _ _ hI
  subst hw
  refine stp hm 6 (And.intro (lw_in (k := 1) (by omega) hL) (?_ : sxWP sc cl Q 257 (1167, [some (.ref 1000000), some (.ref 0), some (.ref 59), some (.int (nI i))], [.int (sc.2 (nI i + 1).toNatClampNeg), .ref 0], (wT x), cu, su)))
  refine stp hm 5 (And.intro (lw_in (k := 2) (by omega) hL) (?_ : sxWP sc cl Q 257 (1172, [some (.ref 1000000), some (.ref 0), some (.ref 59), some (.int (nI i))], [.int (sc.2 (nI i + 2).toNatClampNeg), .int (sc.2 (nI i + 1).toNatClampNeg), .ref 0], (wT x), cu, su)))
  refine stp hm 5 (And.intro (lw_in (k := 3) (by omega) hL) (?_ : sxWP sc cl Q 257 (1177, [some (.ref 1000000), some (.ref 0), some (.ref 59), some (.int (nI i))], [.int (sc.2 (nI i + 3).toNatClampNeg), .int (sc.2 (nI i + 2).toNatClampNeg), .int (sc.2 (nI i + 1).toNatClampNeg), .ref 0], (wT x), cu, su)))
  refine stp hm 5 (And.intro (lw_in (k := 4) (by omega) hL) (?_ : sxWP sc cl Q 257 (1182, [some (.ref 1000000), some (.ref 0), some (.ref 59), some (.int (nI i))], [.int (sc.2 (nI i + 4).toNatClampNeg), .int (sc.2 (nI i + 3).toNatClampNeg), .int (sc.2 (nI i + 2).toNatClampNeg), .int (sc.2 (nI i + 1).toNatClampNeg), .ref 0], (wT x), cu, su)))
  refine stp hm 5 (And.intro (lw_in (k := 5) (by omega) hL) (?_ : sxWP sc cl Q 257 (1187, [some (.ref 1000000), some (.ref 0), some (.ref 59), some (.int (nI i))], [.int (sc.2 (nI i + 5).toNatClampNeg), .int (sc.2 (nI i + 4).toNatClampNeg), .int (sc.2 (nI i + 3).toNatClampNeg), .int (sc.2 (nI i + 2).toNatClampNeg), .int (sc.2 (nI i + 1).toNatClampNeg), .ref 0], (wT x), cu, su)))
  refine stp hm 1 (?_ : sxCall cl 257 (sxWP sc cl Q 257) [134, 5, 892, 0] 1187 [some (.ref 1000000), some (.ref 0), some (.ref 59), some (.int (nI i))] [.ref 0, .int (sc.2 (nI i + 1).toNatClampNeg), .int (sc.2 (nI i + 2).toNatClampNeg), .int (sc.2 (nI i + 3).toNatClampNeg), .int (sc.2 (nI i + 4).toNatClampNeg), .int (sc.2 (nI i + 5).toNatClampNeg)] [] (wT x) cu su)
  refine lwcall rfl (le_c hcu hn) (le_s hsu hn) ?_
  refine hm _ _ _ _ _ (fun r hp1 hq => ?_) (hop _ _ _ _ _ n _ (by omega) hI)
  obtain ⟨⟨v, rfl⟩, ⟨x1, rfl⟩, hM⟩ := hq
  show sxWP sc cl Q 257 (1190, [some (.ref 1000000), some (.ref 0), some (.ref 59), some (.int (nI i))], [.int v], (wT x1), cu, su)
  refine stp hm 6 (And.intro (lw_in (k := 1) (by omega) hL) (?_ : sxWP sc cl Q 257 (1196, [some (.ref 1000000), some (.ref 0), some (.ref 59), some (.int (nI i))], [.int (sc.2 (nI i + 1).toNatClampNeg), .ref 59, .int v], (wT x1), cu, su)))
  refine stp hm 5 (And.intro (lw_in (k := 2) (by omega) hL) (?_ : sxWP sc cl Q 257 (1201, [some (.ref 1000000), some (.ref 0), some (.ref 59), some (.int (nI i))], [.int (sc.2 (nI i + 2).toNatClampNeg), .int (sc.2 (nI i + 1).toNatClampNeg), .ref 59, .int v], (wT x1), cu, su)))
  refine stp hm 5 (And.intro (lw_in (k := 3) (by omega) hL) (?_ : sxWP sc cl Q 257 (1206, [some (.ref 1000000), some (.ref 0), some (.ref 59), some (.int (nI i))], [.int (sc.2 (nI i + 3).toNatClampNeg), .int (sc.2 (nI i + 2).toNatClampNeg), .int (sc.2 (nI i + 1).toNatClampNeg), .ref 59, .int v], (wT x1), cu, su)))
  refine stp hm 5 (And.intro (lw_in (k := 4) (by omega) hL) (?_ : sxWP sc cl Q 257 (1211, [some (.ref 1000000), some (.ref 0), some (.ref 59), some (.int (nI i))], [.int (sc.2 (nI i + 4).toNatClampNeg), .int (sc.2 (nI i + 3).toNatClampNeg), .int (sc.2 (nI i + 2).toNatClampNeg), .int (sc.2 (nI i + 1).toNatClampNeg), .ref 59, .int v], (wT x1), cu, su)))
  refine stp hm 5 (And.intro (lw_in (k := 5) (by omega) hL) (?_ : sxWP sc cl Q 257 (1216, [some (.ref 1000000), some (.ref 0), some (.ref 59), some (.int (nI i))], [.int (sc.2 (nI i + 5).toNatClampNeg), .int (sc.2 (nI i + 4).toNatClampNeg), .int (sc.2 (nI i + 3).toNatClampNeg), .int (sc.2 (nI i + 2).toNatClampNeg), .int (sc.2 (nI i + 1).toNatClampNeg), .ref 59, .int v], (wT x1), cu, su)))
  refine stp hm 1 (?_ : sxCall cl 257 (sxWP sc cl Q 257) [241, 5, 1472, 0] 1216 [some (.ref 1000000), some (.ref 0), some (.ref 59), some (.int (nI i))] [.ref 59, .int (sc.2 (nI i + 1).toNatClampNeg), .int (sc.2 (nI i + 2).toNatClampNeg), .int (sc.2 (nI i + 3).toNatClampNeg), .int (sc.2 (nI i + 4).toNatClampNeg), .int (sc.2 (nI i + 5).toNatClampNeg)] [.int v] (wT x1) cu su)
  refine lwcall rfl (le_c1 hcu hn) (le_s1 hsu hn) ?_
  refine hm _ _ _ _ _ (fun r2 hp2 hq => ?_) hM
  obtain ⟨rfl, hI2⟩ := hq
  show sxWP sc cl Q 257 (1219, [some (.ref 1000000), some (.ref 0), some (.ref 59), some (.int (nI i))], [.int v, .int v], hp2, (cu + 1), (su + 60))
  refine stp hm 1 (bT rfl ?_)
  exact hK hp2 (cu + 1) (su + 60) hI2 (by omega) (by omega)
set_option maxRecDepth 10000 in
theorem law_loop (hm : CallMono cl) (hO : Ops cl Inv) (hW : ∀ n hp, Inv n hp → isW hp) (hmo : ∀ n hp, Inv n hp → Inv (n + 1) hp) (hL : sc.1 ≤ 3072) (hQ : ∀ hp, Q (some (.int 1)) hp) : ∀ m n i cu su hp, i = 6 * n → n + m = 513 → Inv n hp → cu ≤ 81 + n → su ≤ 5565 + 60 * n → sxWP sc cl Q 257 (18, [some (.ref 1000000), some (.ref 0), some (.ref 59), some (.int (nI i))], [], hp, cu, su) := by
  have hend : ∀ i cu su hp, i ≤ 6000 → cu ≤ 600000 → su ≤ 7302250 → sc.1 < i + 6 → sxWP sc cl Q 257 (18, [some (.ref 1000000), some (.ref 0), some (.ref 59), some (.int (nI i))], [], hp, cu, su) := by
    intro i cu su hp hi hcu hsu h
    refine stp hm 6 (bT ((lw_gt hi hL).mpr h) (?_ : sxWP sc cl Q 257 (1230, [some (.ref 1000000), some (.ref 0), some (.ref 59), some (.int (nI i))], [], hp, cu, su)))
    refine stp hm 2 ?_
    show (match Nat.ble cu (mMc 257) && Nat.ble su (mMs 257) with | true => sxRet (mRt 257) 1 (Q (some (.int 1)) hp) | false => False)
    rw [show Nat.ble cu (mMc 257) = true from Nat.ble_eq_true_of_le hcu, show Nat.ble su (mMs 257) = true from Nat.ble_eq_true_of_le hsu]
    exact And.intro (Or.inr rfl) (hQ hp)
  intro m
  induction m with
  | zero =>
    intro n i cu su hp hi hnm hI hcu hsu
    exact hend i cu su hp (by omega) (by omega) (by omega) (by omega)
  | succ m ih =>
    intro n i cu su hp hi hnm hI hcu hsu
    by_cases h : sc.1 < i + 6
    · exact hend i cu su hp (by omega) (by omega) (by omega) h
    have hK : ∀ hp cu su, Inv (n + 1) hp → cu ≤ 81 + (n + 1) → su ≤ 5565 + 60 * (n + 1) → sxWP sc cl Q 257 (1224, [some (.ref 1000000), some (.ref 0), some (.ref 59), some (.int (nI i))], [], hp, cu, su) := by
      intro hp cu su hI hcu hsu
      refine stp hm 2 (?_ : sxWP sc cl Q 257 (18, [some (.ref 1000000), some (.ref 0), some (.ref 59), some (.int (nI i + nI 6))], [], hp, cu, su))
      rw [nI_add]
      exact ih (n + 1) (i + 6) cu su hp (by omega) (by omega) hI hcu hsu
    refine stp hm 6 (bF (fun q => h ((lw_gt (by omega) hL).mp q)) (?_ : sxWP sc cl Q 257 (27, [some (.ref 1000000), some (.ref 0), some (.ref 59), some (.int (nI i))], [], hp, cu, su)))
    refine stp hm 3 (And.intro (lw_in0 (by omega) hL) (?_ : sxWP sc cl Q 257 (30, [some (.ref 1000000), some (.ref 0), some (.ref 59), some (.int (nI i))], [.int (sc.2 (nI i).toNatClampNeg)], hp, cu, su)))
    refine stp hm 3 ?_
    show sxWP sc cl Q 257 (swT (sc.2 (nI i).toNatClampNeg &&& 63).toInt 0 [192, 225, 268, 291, 314, 337, 360, 383, 396, 429, 452, 475, 508, 541, 564, 587, 610, 633, 666, 689, 712, 745, 759, 813, 827, 860, 883, 916, 929, 962, 975, 988, 1011, 1054, 1127, 1161] 1224, [some (.ref 1000000), some (.ref 0), some (.ref 59), some (.int (nI i))], [], hp, cu, su)
    by_cases c0 : sc.2 (nI i).toNatClampNeg &&& 63 = 0
    · rw [show swT (sc.2 (nI i).toNatClampNeg &&& 63).toInt 0 [192, 225, 268, 291, 314, 337, 360, 383, 396, 429, 452, 475, 508, 541, 564, 587, 610, 633, 666, 689, 712, 745, 759, 813, 827, 860, 883, 916, 929, 962, 975, 988, 1011, 1054, 1127, 1161] 1224 = 192 by rw [c0]; rfl]
      exact law_0 hm hO hW (by omega) (by omega) hL hI hcu hsu hK
    have t0 : ¬ (sc.2 (nI i).toNatClampNeg &&& 63).toInt = 0 := fun e => c0 (Int32.toInt_inj.mp e)
    by_cases c1 : sc.2 (nI i).toNatClampNeg &&& 63 = 1
    · rw [show swT (sc.2 (nI i).toNatClampNeg &&& 63).toInt 0 [192, 225, 268, 291, 314, 337, 360, 383, 396, 429, 452, 475, 508, 541, 564, 587, 610, 633, 666, 689, 712, 745, 759, 813, 827, 860, 883, 916, 929, 962, 975, 988, 1011, 1054, 1127, 1161] 1224 = 225 by rw [c1]; rfl]
      exact law_1 hm hO hW (by omega) (by omega) hL hI hcu hsu hK
    have t1 : ¬ (sc.2 (nI i).toNatClampNeg &&& 63).toInt = 1 := fun e => c1 (Int32.toInt_inj.mp e)
    by_cases c2 : sc.2 (nI i).toNatClampNeg &&& 63 = 2
    · rw [show swT (sc.2 (nI i).toNatClampNeg &&& 63).toInt 0 [192, 225, 268, 291, 314, 337, 360, 383, 396, 429, 452, 475, 508, 541, 564, 587, 610, 633, 666, 689, 712, 745, 759, 813, 827, 860, 883, 916, 929, 962, 975, 988, 1011, 1054, 1127, 1161] 1224 = 268 by rw [c2]; rfl]
      exact law_2 hm hO hW (by omega) (by omega) hL hI hcu hsu hK
    have t2 : ¬ (sc.2 (nI i).toNatClampNeg &&& 63).toInt = 2 := fun e => c2 (Int32.toInt_inj.mp e)
    by_cases c3 : sc.2 (nI i).toNatClampNeg &&& 63 = 3
    · rw [show swT (sc.2 (nI i).toNatClampNeg &&& 63).toInt 0 [192, 225, 268, 291, 314, 337, 360, 383, 396, 429, 452, 475, 508, 541, 564, 587, 610, 633, 666, 689, 712, 745, 759, 813, 827, 860, 883, 916, 929, 962, 975, 988, 1011, 1054, 1127, 1161] 1224 = 291 by rw [c3]; rfl]
      exact law_3 hm hO hW (by omega) (by omega) hL hI hcu hsu hK
    have t3 : ¬ (sc.2 (nI i).toNatClampNeg &&& 63).toInt = 3 := fun e => c3 (Int32.toInt_inj.mp e)
    by_cases c4 : sc.2 (nI i).toNatClampNeg &&& 63 = 4
    · rw [show swT (sc.2 (nI i).toNatClampNeg &&& 63).toInt 0 [192, 225, 268, 291, 314, 337, 360, 383, 396, 429, 452, 475, 508, 541, 564, 587, 610, 633, 666, 689, 712, 745, 759, 813, 827, 860, 883, 916, 929, 962, 975, 988, 1011, 1054, 1127, 1161] 1224 = 314 by rw [c4]; rfl]
      exact law_4 hm hO hW (by omega) (by omega) hL hI hcu hsu hK
    have t4 : ¬ (sc.2 (nI i).toNatClampNeg &&& 63).toInt = 4 := fun e => c4 (Int32.toInt_inj.mp e)
    by_cases c5 : sc.2 (nI i).toNatClampNeg &&& 63 = 5
    · rw [show swT (sc.2 (nI i).toNatClampNeg &&& 63).toInt 0 [192, 225, 268, 291, 314, 337, 360, 383, 396, 429, 452, 475, 508, 541, 564, 587, 610, 633, 666, 689, 712, 745, 759, 813, 827, 860, 883, 916, 929, 962, 975, 988, 1011, 1054, 1127, 1161] 1224 = 337 by rw [c5]; rfl]
      exact law_5 hm hO hW (by omega) (by omega) hL hI hcu hsu hK
    have t5 : ¬ (sc.2 (nI i).toNatClampNeg &&& 63).toInt = 5 := fun e => c5 (Int32.toInt_inj.mp e)
    by_cases c6 : sc.2 (nI i).toNatClampNeg &&& 63 = 6
    · rw [show swT (sc.2 (nI i).toNatClampNeg &&& 63).toInt 0 [192, 225, 268, 291, 314, 337, 360, 383, 396, 429, 452, 475, 508, 541, 564, 587, 610, 633, 666, 689, 712, 745, 759, 813, 827, 860, 883, 916, 929, 962, 975, 988, 1011, 1054, 1127, 1161] 1224 = 360 by rw [c6]; rfl]
      exact law_6 hm hO hW (by omega) (by omega) hL hI hcu hsu hK
    have t6 : ¬ (sc.2 (nI i).toNatClampNeg &&& 63).toInt = 6 := fun e => c6 (Int32.toInt_inj.mp e)
    by_cases c7 : sc.2 (nI i).toNatClampNeg &&& 63 = 7
    · rw [show swT (sc.2 (nI i).toNatClampNeg &&& 63).toInt 0 [192, 225, 268, 291, 314, 337, 360, 383, 396, 429, 452, 475, 508, 541, 564, 587, 610, 633, 666, 689, 712, 745, 759, 813, 827, 860, 883, 916, 929, 962, 975, 988, 1011, 1054, 1127, 1161] 1224 = 383 by rw [c7]; rfl]
      exact law_7 hm hO hW (by omega) (by omega) hL hI hcu hsu hK
    have t7 : ¬ (sc.2 (nI i).toNatClampNeg &&& 63).toInt = 7 := fun e => c7 (Int32.toInt_inj.mp e)
    by_cases c8 : sc.2 (nI i).toNatClampNeg &&& 63 = 8
    · rw [show swT (sc.2 (nI i).toNatClampNeg &&& 63).toInt 0 [192, 225, 268, 291, 314, 337, 360, 383, 396, 429, 452, 475, 508, 541, 564, 587, 610, 633, 666, 689, 712, 745, 759, 813, 827, 860, 883, 916, 929, 962, 975, 988, 1011, 1054, 1127, 1161] 1224 = 396 by rw [c8]; rfl]
      exact law_8 hm hO hW (by omega) (by omega) hL hI hcu hsu hK
    have t8 : ¬ (sc.2 (nI i).toNatClampNeg &&& 63).toInt = 8 := fun e => c8 (Int32.toInt_inj.mp e)
    by_cases c9 : sc.2 (nI i).toNatClampNeg &&& 63 = 9
    · rw [show swT (sc.2 (nI i).toNatClampNeg &&& 63).toInt 0 [192, 225, 268, 291, 314, 337, 360, 383, 396, 429, 452, 475, 508, 541, 564, 587, 610, 633, 666, 689, 712, 745, 759, 813, 827, 860, 883, 916, 929, 962, 975, 988, 1011, 1054, 1127, 1161] 1224 = 429 by rw [c9]; rfl]
      exact law_9 hm hO hW (by omega) (by omega) hL hI hcu hsu hK
    have t9 : ¬ (sc.2 (nI i).toNatClampNeg &&& 63).toInt = 9 := fun e => c9 (Int32.toInt_inj.mp e)
    by_cases c10 : sc.2 (nI i).toNatClampNeg &&& 63 = 10
    · rw [show swT (sc.2 (nI i).toNatClampNeg &&& 63).toInt 0 [192, 225, 268, 291, 314, 337, 360, 383, 396, 429, 452, 475, 508, 541, 564, 587, 610, 633, 666, 689, 712, 745, 759, 813, 827, 860, 883, 916, 929, 962, 975, 988, 1011, 1054, 1127, 1161] 1224 = 452 by rw [c10]; rfl]
      exact law_10 hm hO hW (by omega) (by omega) hL hI hcu hsu hK
    have t10 : ¬ (sc.2 (nI i).toNatClampNeg &&& 63).toInt = 10 := fun e => c10 (Int32.toInt_inj.mp e)
    by_cases c11 : sc.2 (nI i).toNatClampNeg &&& 63 = 11
    · rw [show swT (sc.2 (nI i).toNatClampNeg &&& 63).toInt 0 [192, 225, 268, 291, 314, 337, 360, 383, 396, 429, 452, 475, 508, 541, 564, 587, 610, 633, 666, 689, 712, 745, 759, 813, 827, 860, 883, 916, 929, 962, 975, 988, 1011, 1054, 1127, 1161] 1224 = 475 by rw [c11]; rfl]
      exact law_11 hm hO hW (by omega) (by omega) hL hI hcu hsu hK
    have t11 : ¬ (sc.2 (nI i).toNatClampNeg &&& 63).toInt = 11 := fun e => c11 (Int32.toInt_inj.mp e)
    by_cases c12 : sc.2 (nI i).toNatClampNeg &&& 63 = 12
    · rw [show swT (sc.2 (nI i).toNatClampNeg &&& 63).toInt 0 [192, 225, 268, 291, 314, 337, 360, 383, 396, 429, 452, 475, 508, 541, 564, 587, 610, 633, 666, 689, 712, 745, 759, 813, 827, 860, 883, 916, 929, 962, 975, 988, 1011, 1054, 1127, 1161] 1224 = 508 by rw [c12]; rfl]
      exact law_12 hm hO hW (by omega) (by omega) hL hI hcu hsu hK
    have t12 : ¬ (sc.2 (nI i).toNatClampNeg &&& 63).toInt = 12 := fun e => c12 (Int32.toInt_inj.mp e)
    by_cases c13 : sc.2 (nI i).toNatClampNeg &&& 63 = 13
    · rw [show swT (sc.2 (nI i).toNatClampNeg &&& 63).toInt 0 [192, 225, 268, 291, 314, 337, 360, 383, 396, 429, 452, 475, 508, 541, 564, 587, 610, 633, 666, 689, 712, 745, 759, 813, 827, 860, 883, 916, 929, 962, 975, 988, 1011, 1054, 1127, 1161] 1224 = 541 by rw [c13]; rfl]
      exact law_13 hm hO hW (by omega) (by omega) hL hI hcu hsu hK
    have t13 : ¬ (sc.2 (nI i).toNatClampNeg &&& 63).toInt = 13 := fun e => c13 (Int32.toInt_inj.mp e)
    by_cases c14 : sc.2 (nI i).toNatClampNeg &&& 63 = 14
    · rw [show swT (sc.2 (nI i).toNatClampNeg &&& 63).toInt 0 [192, 225, 268, 291, 314, 337, 360, 383, 396, 429, 452, 475, 508, 541, 564, 587, 610, 633, 666, 689, 712, 745, 759, 813, 827, 860, 883, 916, 929, 962, 975, 988, 1011, 1054, 1127, 1161] 1224 = 564 by rw [c14]; rfl]
      exact law_14 hm hO hW (by omega) (by omega) hL hI hcu hsu hK
    have t14 : ¬ (sc.2 (nI i).toNatClampNeg &&& 63).toInt = 14 := fun e => c14 (Int32.toInt_inj.mp e)
    by_cases c15 : sc.2 (nI i).toNatClampNeg &&& 63 = 15
    · rw [show swT (sc.2 (nI i).toNatClampNeg &&& 63).toInt 0 [192, 225, 268, 291, 314, 337, 360, 383, 396, 429, 452, 475, 508, 541, 564, 587, 610, 633, 666, 689, 712, 745, 759, 813, 827, 860, 883, 916, 929, 962, 975, 988, 1011, 1054, 1127, 1161] 1224 = 587 by rw [c15]; rfl]
      exact law_15 hm hO hW (by omega) (by omega) hL hI hcu hsu hK
    have t15 : ¬ (sc.2 (nI i).toNatClampNeg &&& 63).toInt = 15 := fun e => c15 (Int32.toInt_inj.mp e)
    by_cases c16 : sc.2 (nI i).toNatClampNeg &&& 63 = 16
    · rw [show swT (sc.2 (nI i).toNatClampNeg &&& 63).toInt 0 [192, 225, 268, 291, 314, 337, 360, 383, 396, 429, 452, 475, 508, 541, 564, 587, 610, 633, 666, 689, 712, 745, 759, 813, 827, 860, 883, 916, 929, 962, 975, 988, 1011, 1054, 1127, 1161] 1224 = 610 by rw [c16]; rfl]
      exact law_16 hm hO hW (by omega) (by omega) hL hI hcu hsu hK
    have t16 : ¬ (sc.2 (nI i).toNatClampNeg &&& 63).toInt = 16 := fun e => c16 (Int32.toInt_inj.mp e)
    by_cases c17 : sc.2 (nI i).toNatClampNeg &&& 63 = 17
    · rw [show swT (sc.2 (nI i).toNatClampNeg &&& 63).toInt 0 [192, 225, 268, 291, 314, 337, 360, 383, 396, 429, 452, 475, 508, 541, 564, 587, 610, 633, 666, 689, 712, 745, 759, 813, 827, 860, 883, 916, 929, 962, 975, 988, 1011, 1054, 1127, 1161] 1224 = 633 by rw [c17]; rfl]
      exact law_17 hm hO hW (by omega) (by omega) hL hI hcu hsu hK
    have t17 : ¬ (sc.2 (nI i).toNatClampNeg &&& 63).toInt = 17 := fun e => c17 (Int32.toInt_inj.mp e)
    by_cases c18 : sc.2 (nI i).toNatClampNeg &&& 63 = 18
    · rw [show swT (sc.2 (nI i).toNatClampNeg &&& 63).toInt 0 [192, 225, 268, 291, 314, 337, 360, 383, 396, 429, 452, 475, 508, 541, 564, 587, 610, 633, 666, 689, 712, 745, 759, 813, 827, 860, 883, 916, 929, 962, 975, 988, 1011, 1054, 1127, 1161] 1224 = 666 by rw [c18]; rfl]
      exact law_18 hm hO hW (by omega) (by omega) hL hI hcu hsu hK
    have t18 : ¬ (sc.2 (nI i).toNatClampNeg &&& 63).toInt = 18 := fun e => c18 (Int32.toInt_inj.mp e)
    by_cases c19 : sc.2 (nI i).toNatClampNeg &&& 63 = 19
    · rw [show swT (sc.2 (nI i).toNatClampNeg &&& 63).toInt 0 [192, 225, 268, 291, 314, 337, 360, 383, 396, 429, 452, 475, 508, 541, 564, 587, 610, 633, 666, 689, 712, 745, 759, 813, 827, 860, 883, 916, 929, 962, 975, 988, 1011, 1054, 1127, 1161] 1224 = 689 by rw [c19]; rfl]
      exact law_19 hm hO hW (by omega) (by omega) hL hI hcu hsu hK
    have t19 : ¬ (sc.2 (nI i).toNatClampNeg &&& 63).toInt = 19 := fun e => c19 (Int32.toInt_inj.mp e)
    by_cases c20 : sc.2 (nI i).toNatClampNeg &&& 63 = 20
    · rw [show swT (sc.2 (nI i).toNatClampNeg &&& 63).toInt 0 [192, 225, 268, 291, 314, 337, 360, 383, 396, 429, 452, 475, 508, 541, 564, 587, 610, 633, 666, 689, 712, 745, 759, 813, 827, 860, 883, 916, 929, 962, 975, 988, 1011, 1054, 1127, 1161] 1224 = 712 by rw [c20]; rfl]
      exact law_20 hm hO hW (by omega) (by omega) hL hI hcu hsu hK
    have t20 : ¬ (sc.2 (nI i).toNatClampNeg &&& 63).toInt = 20 := fun e => c20 (Int32.toInt_inj.mp e)
    by_cases c21 : sc.2 (nI i).toNatClampNeg &&& 63 = 21
    · rw [show swT (sc.2 (nI i).toNatClampNeg &&& 63).toInt 0 [192, 225, 268, 291, 314, 337, 360, 383, 396, 429, 452, 475, 508, 541, 564, 587, 610, 633, 666, 689, 712, 745, 759, 813, 827, 860, 883, 916, 929, 962, 975, 988, 1011, 1054, 1127, 1161] 1224 = 745 by rw [c21]; rfl]
      exact law_21 hm hO hW (by omega) (by omega) hL hI hcu hsu hK
    have t21 : ¬ (sc.2 (nI i).toNatClampNeg &&& 63).toInt = 21 := fun e => c21 (Int32.toInt_inj.mp e)
    by_cases c22 : sc.2 (nI i).toNatClampNeg &&& 63 = 22
    · rw [show swT (sc.2 (nI i).toNatClampNeg &&& 63).toInt 0 [192, 225, 268, 291, 314, 337, 360, 383, 396, 429, 452, 475, 508, 541, 564, 587, 610, 633, 666, 689, 712, 745, 759, 813, 827, 860, 883, 916, 929, 962, 975, 988, 1011, 1054, 1127, 1161] 1224 = 759 by rw [c22]; rfl]
      exact law_22 hm hO hW (by omega) (by omega) hL hI hcu hsu hK
    have t22 : ¬ (sc.2 (nI i).toNatClampNeg &&& 63).toInt = 22 := fun e => c22 (Int32.toInt_inj.mp e)
    by_cases c23 : sc.2 (nI i).toNatClampNeg &&& 63 = 23
    · rw [show swT (sc.2 (nI i).toNatClampNeg &&& 63).toInt 0 [192, 225, 268, 291, 314, 337, 360, 383, 396, 429, 452, 475, 508, 541, 564, 587, 610, 633, 666, 689, 712, 745, 759, 813, 827, 860, 883, 916, 929, 962, 975, 988, 1011, 1054, 1127, 1161] 1224 = 813 by rw [c23]; rfl]
      exact law_23 hm hO hW (by omega) (by omega) hL hI hcu hsu hK
    have t23 : ¬ (sc.2 (nI i).toNatClampNeg &&& 63).toInt = 23 := fun e => c23 (Int32.toInt_inj.mp e)
    by_cases c24 : sc.2 (nI i).toNatClampNeg &&& 63 = 24
    · rw [show swT (sc.2 (nI i).toNatClampNeg &&& 63).toInt 0 [192, 225, 268, 291, 314, 337, 360, 383, 396, 429, 452, 475, 508, 541, 564, 587, 610, 633, 666, 689, 712, 745, 759, 813, 827, 860, 883, 916, 929, 962, 975, 988, 1011, 1054, 1127, 1161] 1224 = 827 by rw [c24]; rfl]
      exact law_24 hm hO hW (by omega) (by omega) hL hI hcu hsu hK
    have t24 : ¬ (sc.2 (nI i).toNatClampNeg &&& 63).toInt = 24 := fun e => c24 (Int32.toInt_inj.mp e)
    by_cases c25 : sc.2 (nI i).toNatClampNeg &&& 63 = 25
    · rw [show swT (sc.2 (nI i).toNatClampNeg &&& 63).toInt 0 [192, 225, 268, 291, 314, 337, 360, 383, 396, 429, 452, 475, 508, 541, 564, 587, 610, 633, 666, 689, 712, 745, 759, 813, 827, 860, 883, 916, 929, 962, 975, 988, 1011, 1054, 1127, 1161] 1224 = 860 by rw [c25]; rfl]
      exact law_25 hm hO hW (by omega) (by omega) hL hI hcu hsu hK
    have t25 : ¬ (sc.2 (nI i).toNatClampNeg &&& 63).toInt = 25 := fun e => c25 (Int32.toInt_inj.mp e)
    by_cases c26 : sc.2 (nI i).toNatClampNeg &&& 63 = 26
    · rw [show swT (sc.2 (nI i).toNatClampNeg &&& 63).toInt 0 [192, 225, 268, 291, 314, 337, 360, 383, 396, 429, 452, 475, 508, 541, 564, 587, 610, 633, 666, 689, 712, 745, 759, 813, 827, 860, 883, 916, 929, 962, 975, 988, 1011, 1054, 1127, 1161] 1224 = 883 by rw [c26]; rfl]
      exact law_26 hm hO hW (by omega) (by omega) hL hI hcu hsu hK
    have t26 : ¬ (sc.2 (nI i).toNatClampNeg &&& 63).toInt = 26 := fun e => c26 (Int32.toInt_inj.mp e)
    by_cases c27 : sc.2 (nI i).toNatClampNeg &&& 63 = 27
    · rw [show swT (sc.2 (nI i).toNatClampNeg &&& 63).toInt 0 [192, 225, 268, 291, 314, 337, 360, 383, 396, 429, 452, 475, 508, 541, 564, 587, 610, 633, 666, 689, 712, 745, 759, 813, 827, 860, 883, 916, 929, 962, 975, 988, 1011, 1054, 1127, 1161] 1224 = 916 by rw [c27]; rfl]
      exact law_27 hm hO hW (by omega) (by omega) hL hI hcu hsu hK
    have t27 : ¬ (sc.2 (nI i).toNatClampNeg &&& 63).toInt = 27 := fun e => c27 (Int32.toInt_inj.mp e)
    by_cases c28 : sc.2 (nI i).toNatClampNeg &&& 63 = 28
    · rw [show swT (sc.2 (nI i).toNatClampNeg &&& 63).toInt 0 [192, 225, 268, 291, 314, 337, 360, 383, 396, 429, 452, 475, 508, 541, 564, 587, 610, 633, 666, 689, 712, 745, 759, 813, 827, 860, 883, 916, 929, 962, 975, 988, 1011, 1054, 1127, 1161] 1224 = 929 by rw [c28]; rfl]
      exact law_28 hm hO hW (by omega) (by omega) hL hI hcu hsu hK
    have t28 : ¬ (sc.2 (nI i).toNatClampNeg &&& 63).toInt = 28 := fun e => c28 (Int32.toInt_inj.mp e)
    by_cases c29 : sc.2 (nI i).toNatClampNeg &&& 63 = 29
    · rw [show swT (sc.2 (nI i).toNatClampNeg &&& 63).toInt 0 [192, 225, 268, 291, 314, 337, 360, 383, 396, 429, 452, 475, 508, 541, 564, 587, 610, 633, 666, 689, 712, 745, 759, 813, 827, 860, 883, 916, 929, 962, 975, 988, 1011, 1054, 1127, 1161] 1224 = 962 by rw [c29]; rfl]
      exact law_29 hm hO hW (by omega) (by omega) hL hI hcu hsu hK
    have t29 : ¬ (sc.2 (nI i).toNatClampNeg &&& 63).toInt = 29 := fun e => c29 (Int32.toInt_inj.mp e)
    by_cases c30 : sc.2 (nI i).toNatClampNeg &&& 63 = 30
    · rw [show swT (sc.2 (nI i).toNatClampNeg &&& 63).toInt 0 [192, 225, 268, 291, 314, 337, 360, 383, 396, 429, 452, 475, 508, 541, 564, 587, 610, 633, 666, 689, 712, 745, 759, 813, 827, 860, 883, 916, 929, 962, 975, 988, 1011, 1054, 1127, 1161] 1224 = 975 by rw [c30]; rfl]
      exact law_30 hm hO hW (by omega) (by omega) hL hI hcu hsu hK
    have t30 : ¬ (sc.2 (nI i).toNatClampNeg &&& 63).toInt = 30 := fun e => c30 (Int32.toInt_inj.mp e)
    by_cases c31 : sc.2 (nI i).toNatClampNeg &&& 63 = 31
    · rw [show swT (sc.2 (nI i).toNatClampNeg &&& 63).toInt 0 [192, 225, 268, 291, 314, 337, 360, 383, 396, 429, 452, 475, 508, 541, 564, 587, 610, 633, 666, 689, 712, 745, 759, 813, 827, 860, 883, 916, 929, 962, 975, 988, 1011, 1054, 1127, 1161] 1224 = 988 by rw [c31]; rfl]
      exact law_31 hm hO hW (by omega) (by omega) hL hI hcu hsu hK
    have t31 : ¬ (sc.2 (nI i).toNatClampNeg &&& 63).toInt = 31 := fun e => c31 (Int32.toInt_inj.mp e)
    by_cases c32 : sc.2 (nI i).toNatClampNeg &&& 63 = 32
    · rw [show swT (sc.2 (nI i).toNatClampNeg &&& 63).toInt 0 [192, 225, 268, 291, 314, 337, 360, 383, 396, 429, 452, 475, 508, 541, 564, 587, 610, 633, 666, 689, 712, 745, 759, 813, 827, 860, 883, 916, 929, 962, 975, 988, 1011, 1054, 1127, 1161] 1224 = 1011 by rw [c32]; rfl]
      exact law_32 hm hO hW (by omega) (by omega) hL hI hcu hsu hK
    have t32 : ¬ (sc.2 (nI i).toNatClampNeg &&& 63).toInt = 32 := fun e => c32 (Int32.toInt_inj.mp e)
    by_cases c33 : sc.2 (nI i).toNatClampNeg &&& 63 = 33
    · rw [show swT (sc.2 (nI i).toNatClampNeg &&& 63).toInt 0 [192, 225, 268, 291, 314, 337, 360, 383, 396, 429, 452, 475, 508, 541, 564, 587, 610, 633, 666, 689, 712, 745, 759, 813, 827, 860, 883, 916, 929, 962, 975, 988, 1011, 1054, 1127, 1161] 1224 = 1054 by rw [c33]; rfl]
      exact law_33 hm hO hW (by omega) (by omega) hL hI hcu hsu hK
    have t33 : ¬ (sc.2 (nI i).toNatClampNeg &&& 63).toInt = 33 := fun e => c33 (Int32.toInt_inj.mp e)
    by_cases c34 : sc.2 (nI i).toNatClampNeg &&& 63 = 34
    · rw [show swT (sc.2 (nI i).toNatClampNeg &&& 63).toInt 0 [192, 225, 268, 291, 314, 337, 360, 383, 396, 429, 452, 475, 508, 541, 564, 587, 610, 633, 666, 689, 712, 745, 759, 813, 827, 860, 883, 916, 929, 962, 975, 988, 1011, 1054, 1127, 1161] 1224 = 1127 by rw [c34]; rfl]
      exact law_34 hm hO hW (by omega) (by omega) hL hI hcu hsu hK
    have t34 : ¬ (sc.2 (nI i).toNatClampNeg &&& 63).toInt = 34 := fun e => c34 (Int32.toInt_inj.mp e)
    by_cases c35 : sc.2 (nI i).toNatClampNeg &&& 63 = 35
    · rw [show swT (sc.2 (nI i).toNatClampNeg &&& 63).toInt 0 [192, 225, 268, 291, 314, 337, 360, 383, 396, 429, 452, 475, 508, 541, 564, 587, 610, 633, 666, 689, 712, 745, 759, 813, 827, 860, 883, 916, 929, 962, 975, 988, 1011, 1054, 1127, 1161] 1224 = 1161 by rw [c35]; rfl]
      exact law_35 hm hO hW (by omega) (by omega) hL hI hcu hsu hK
    have t35 : ¬ (sc.2 (nI i).toNatClampNeg &&& 63).toInt = 35 := fun e => c35 (Int32.toInt_inj.mp e)
    rw [show swT (sc.2 (nI i).toNatClampNeg &&& 63).toInt 0 [192, 225, 268, 291, 314, 337, 360, 383, 396, 429, 452, 475, 508, 541, 564, 587, 610, 633, 666, 689, 712, 745, 759, 813, 827, 860, 883, 916, 929, 962, 975, 988, 1011, 1054, 1127, 1161] 1224 = 1224 by simp [swT, t0, t1, t2, t3, t4, t5, t6, t7, t8, t9, t10, t11, t12, t13, t14, t15, t16, t17, t18, t19, t20, t21, t22, t23, t24, t25, t26, t27, t28, t29, t30, t31, t32, t33, t34, t35]]
    exact hK _ _ _ (hmo _ _ hI) (by omega) (by omega)
end LAW
