/-! small whole numbers as ints -/
def iZ (z : Int) : Int32 := Int32.ofInt z
def sm (z : Int) : Prop := -1000000000 ≤ z ∧ z ≤ 1000000000
theorem iZ_toInt {z : Int} (h : sm z) : (iZ z).toInt = z := Int32.toInt_ofInt_of_le (by unfold sm at h; omega) (by unfold sm at h; omega)
theorem iZ_of (x : Int32) : iZ x.toInt = x := Int32.ofInt_toInt x
theorem iZ_nI (n : Nat) : nI n = iZ n := (Int32.ofInt_eq_ofNat).symm
theorem iZ_add (a b : Int) : iZ a + iZ b = iZ (a + b) := (Int32.ofInt_add a b).symm
theorem iZ_sub (a b : Int) : iZ a - iZ b = iZ (a - b) := (Int32.ofInt_sub a b).symm
theorem iZ_mul (a b : Int) : iZ a * iZ b = iZ (a * b) := (Int32.ofInt_mul a b).symm
theorem iZ_neg (a : Int) : -iZ a = iZ (-a) := (Int32.ofInt_neg a).symm
theorem iZ_le {a b : Int} (ha : sm a) (hb : sm b) : iZ a ≤ iZ b ↔ a ≤ b := by rw [Int32.le_iff_toInt_le, iZ_toInt ha, iZ_toInt hb]
theorem iZ_lt {a b : Int} (ha : sm a) (hb : sm b) : iZ a < iZ b ↔ a < b := by rw [Int32.lt_iff_toInt_lt, iZ_toInt ha, iZ_toInt hb]
theorem iZ_eq {a b : Int} (ha : sm a) (hb : sm b) : iZ a = iZ b ↔ a = b := by rw [← Int32.toInt_inj, iZ_toInt ha, iZ_toInt hb]
theorem iZ_div {a b : Int} (ha : sm a) (h0 : 0 ≤ a) (hb : sm b) (hb0 : 0 < b) : iZ a / iZ b = iZ (a / b) := by
  have h1 : sm (a / b) := by
    have := Int.ediv_nonneg h0 (Int.le_of_lt hb0)
    have h2 : a / b ≤ a := Int.ediv_le_self b h0
    unfold sm at *
    omega
  apply Int32.toInt_inj.mp
  rw [Int32.toInt_div_of_ne_right _ _ (fun h => by
    have := congrArg Int32.toInt h
    rw [iZ_toInt hb] at this
    have e : (-1 : Int32).toInt = -1 := by decide
    omega), iZ_toInt ha, iZ_toInt hb, iZ_toInt h1, Int.tdiv_eq_ediv_of_nonneg h0]
theorem iZ_rem {a b : Int} (ha : sm a) (h0 : 0 ≤ a) (hb : sm b) (hb0 : 0 < b) : iZ a - iZ a / iZ b * iZ b = iZ (a % b) := by
  rw [iZ_div ha h0 hb hb0, iZ_mul, iZ_sub]
  congr 1
  have := Int.emod_def a b
  rw [this, Int.mul_comm]
theorem iZ_clamp {z : Int} (h : sm z) : (iZ z).toNatClampNeg = z.toNat := by
  show (iZ z).toInt.toNat = z.toNat
  rw [iZ_toInt h]
theorem iZ_in {z : Int} {n : Nat} (h : sm z) (h0 : 0 ≤ z) (h1 : z < n) : vp_in (iZ z) n := by
  rw [vp_in_iff, iZ_toInt h]
  exact ⟨h0, h1⟩
/-- bits of a long -/
def b6 (w : Int64) (k : Nat) : Bool := w.toBitVec.getLsbD k
theorem b6_ext {x y : Int64} (h : ∀ i, i < 64 → b6 x i = b6 y i) : x = y := Int64.toBitVec_inj.mp (BitVec.eq_of_getLsbD_eq (fun i hi => h i hi))
theorem b6_or (x y : Int64) (i : Nat) : b6 (x ||| y) i = (b6 x i || b6 y i) := by unfold b6; rw [Int64.toBitVec_or, BitVec.getLsbD_or]
theorem b6_and (x y : Int64) (i : Nat) : b6 (x &&& y) i = (b6 x i && b6 y i) := by unfold b6; rw [Int64.toBitVec_and, BitVec.getLsbD_and]
theorem b6_xor (x y : Int64) (i : Nat) : b6 (x ^^^ y) i = (b6 x i ^^ b6 y i) := by unfold b6; rw [Int64.toBitVec_xor, BitVec.getLsbD_xor]
theorem b6_big {x : Int64} {i : Nat} (h : 64 ≤ i) : b6 x i = false := BitVec.getLsbD_of_ge _ _ h
theorem b6_m1 : ∀ i, i < 64 → b6 (-1) i = true := by decide +kernel
theorem b6_0 (i : Nat) : b6 0 i = false := BitVec.getLsbD_zero
theorem b6_1 (i : Nat) : b6 1 i = decide (i = 0) := by
  rcases Nat.lt_or_ge i 64 with h | h
  · exact (by decide +kernel : ∀ i, i < 64 → b6 1 i = decide (i = 0)) i h
  · rw [b6_big h]
    have : ¬ i = 0 := by omega
    simp [this]
theorem s6_l : ∀ n, n < 64 → (((nI n).toInt64 &&& 63).toBitVec.smod 64).toNat = n := by decide +kernel
theorem s6_u : ∀ n, n < 64 → (((nI n).toInt64.toUInt64 &&& Int64.toUInt64 63).toBitVec % 64).toNat = n := by decide +kernel
theorem b6_shl (n : Nat) (hn : n < 64) (x : Int64) {i : Nat} (hi : i < 64) : b6 (x <<< ((nI n).toInt64 &&& 63)) i = (decide (n ≤ i) && b6 x (i - n)) := by
  unfold b6
  rw [Int64.toBitVec_shiftLeft, BitVec.shiftLeft_eq', s6_l n hn, BitVec.getLsbD_shiftLeft]
  by_cases h : i < n
  · have h2 : ¬ n ≤ i := by omega
    simp [h, h2]
  · have h2 : n ≤ i := by omega
    simp [h, h2, hi]
theorem b6_ushr (n : Nat) (hn : n < 64) (x : Int64) (i : Nat) : b6 ((x.toUInt64 >>> ((nI n).toInt64.toUInt64 &&& Int64.toUInt64 63)).toInt64) i = b6 x (n + i) := by
  unfold b6
  rw [UInt64.toBitVec_toInt64, UInt64.toBitVec_shiftRight, BitVec.ushiftRight_eq', s6_u n hn, BitVec.getLsbD_ushiftRight]
  rfl
theorem b6_sshr (n : Nat) (hn : n < 64) (x : Int64) {i : Nat} (hi : i < 64) : b6 (x >>> ((nI n).toInt64 &&& 63)) i = if n + i < 64 then b6 x (n + i) else b6 x 63 := by
  unfold b6
  rw [Int64.toBitVec_shiftRight, BitVec.sshiftRight_eq', s6_l n hn, BitVec.getLsbD_sshiftRight]
  have : ¬ 64 ≤ i := by omega
  simp [this]
  rfl
