/-! CENTRE -/
def hlF (n : Nat) : UInt32 := if n = 0 then FP.fconst0 else fF (126 + n.log2) (n * 2 ^ (23 - n.log2) - 2 ^ 23)
def lF (a : Int32) (k : Nat) : Nat := if a = 0 then k / 6 else k % 6
def hlFq (x : UInt32) : Bool := decide (2 ^ 23 ≤ x.toNat) && decide (x.toNat < 255 * 2 ^ 23)
theorem hlF_add : ∀ n, n < 400 → ∀ l, l < 6 → FP.fadd (hlF n) (FP.fadd (FP.i2f (nI l)) 1056964608) = hlF (n + (2 * l + 1)) ∧ nn32 (FP.fadd (FP.i2f (nI l)) 1056964608) = true ∧ nn32 (hlF (n + (2 * l + 1))) = true := by decide +kernel
theorem hlF_div : ∀ n, n < 400 → ∀ c, c < 37 → 0 < n → 0 < c → hlFq (FP.fdiv (hlF n) (FP.i2f (nI c))) = true := by decide +kernel
