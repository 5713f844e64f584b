/-! DOUBLE: the bits, written out by hand -/
def lI (n : Nat) : Int64 := Int64.ofNat n
theorem lI_1 (n : Nat) : lI n + 1 = lI (n + 1) := by
  unfold lI
  rw [Int64.ofNat_add]
  rfl
theorem lI_m1 (n : Nat) : lI (n + 1) - 1 = lI n := by
  rw [← lI_1, Int64.sub_eq_add_neg, Int64.add_assoc, show (1 : Int64) + -1 = 0 by decide, Int64.add_zero]
theorem dF_s44 {E T : Nat} (h1 : 1 ≤ E) (h2 : E ≤ 2046) (hT : T < 2 ^ 52) : wh B_ofDouble_s44 FU (dF E T, (1023:Int64), (0:Int32)) = some (dF (E - (E - 1023)) T, lI (1023 + (E - 1023))) := by
  have e2 : (4611686018427387904 : UInt64) = dF 1024 0 := by decide
  have eh : (4602678819172646912 : UInt64) = dF 1022 0 := by decide
  refine wh_for (fun k => (dF (E - k) T, lI (1023 + k), nI k)) (E - 1023) (fun k hk => ?_) ?_ (by omega)
  · unfold B_ofDouble_s44
    dsimp only
    have i1 : ¬ (1024 : Int32) ≤ nI k := nI_ge (a := k) (b := 1024) (by omega) (by decide)
    have i2 : ¬ (Op.cmpValue (FP.dcmp (dF (E - k) T) (4611686018427387904 : UInt64)) .l) < (0 : Int32) := by
      rw [e2]
      exact Int32.not_lt.mpr (dF_ge (by decide) (by omega) hT (by omega) _)
    rw [if_neg i1, if_neg i2, eh, dF_mul (by omega) (by omega) hT (by decide) (by decide) (by omega) (by omega), grd_t (dF_nn (by omega) hT), show E - k + 1022 - 1023 = E - (k + 1) by omega, lI_1, nI_1]
    rfl
  · unfold B_ofDouble_s44
    dsimp only
    have i2 : (Op.cmpValue (FP.dcmp (dF (E - (E - 1023)) T) (4611686018427387904 : UInt64)) .l) < (0 : Int32) := by
      rw [e2, dF_lt (by omega) (by omega) hT (by decide) (by omega)]
      decide
    rw [if_pos i2]
    by_cases c : (1024 : Int32) ≤ nI (E - 1023)
    · rw [if_pos c]
    · rw [if_neg c]
theorem dF_s84 {E T : Nat} {n : Nat} (h1 : 1 ≤ E) (h2 : E ≤ 1023) (hT : T < 2 ^ 52) : wh B_ofDouble_s84 FU (dF E T, lI (n + (1023 - E)), (0:Int32)) = some (dF 1023 T, lI n) := by
  have e1 : FP.dconst1 = dF 1023 0 := by decide
  have e2 : (4611686018427387904 : UInt64) = dF 1024 0 := by decide
  refine (wh_for (fun k => (dF (E + k) T, lI (n + (1023 - E - k)), nI k)) (1023 - E) (fun k hk => ?_) ?_ (by omega)).trans (?_ : some (dF (E + (1023 - E)) T, lI (n + (1023 - E - (1023 - E)))) = _)
  · unfold B_ofDouble_s84
    dsimp only
    have i1 : ¬ (1022 : Int32) ≤ nI k := nI_ge (a := k) (b := 1022) (by omega) (by decide)
    have i2 : ¬ (0 : Int32) ≤ (Op.cmpValue (FP.dcmp (dF (E + k) T) FP.dconst1) .g) := by
      rw [e1, dF_lt (by omega) (by omega) hT (by decide) (by omega)]
      decide
    rw [if_neg i1, if_neg i2, e2, dF_mul (by omega) (by omega) hT (by decide) (by decide) (by omega) (by omega), grd_t (dF_nn (by omega) hT), show E + k + 1024 - 1023 = E + (k + 1) by omega, show n + (1023 - E - k) = n + (1023 - E - (k + 1)) + 1 by omega, lI_m1, nI_1]
  · unfold B_ofDouble_s84
    dsimp only
    have i2 : (0 : Int32) ≤ (Op.cmpValue (FP.dcmp (dF (E + (1023 - E)) T) FP.dconst1) .g) := by
      rw [e1]
      exact dF_ge (by decide) (by omega) hT (by omega) _
    rw [if_pos i2]
    by_cases c : (1022 : Int32) ≤ nI (1023 - E)
    · rw [if_pos c]
    · rw [if_neg c]
  · rw [show E + (1023 - E) = 1023 by omega, show n + (1023 - E - (1023 - E)) = n by omega]
def sgL (s : Bool) : Int64 := if s then -9223372036854775808 else 0
theorem dS_bits {s : Bool} {E T : Nat} (h2 : E ≤ 2046) (hT : T < 2 ^ 52) : (sgL s ||| (lI E <<< ((52 : Int32).toInt64 &&& 63))) ||| lI T = (dS s E T).toInt64 := by
  apply Int64.toBitVec_inj.mp
  apply BitVec.eq_of_toNat_eq
  have : (dS s E T).toInt64.toBitVec.toNat = (s.toNat * 2048 + E) * 2 ^ 52 + T := dS_nat h2 hT
  rw [this, Int64.toBitVec_or, BitVec.toNat_or, Int64.toBitVec_or, BitVec.toNat_or, Int64.toBitVec_shiftLeft]
  have e1 : (lI T).toBitVec.toNat = T := by
    show (BitVec.ofNat 64 T).toNat = T
    rw [BitVec.toNat_ofNat, Nat.mod_eq_of_lt (by omega)]
  have e2 : (lI E).toBitVec.toNat = E := by
    show (BitVec.ofNat 64 E).toNat = E
    rw [BitVec.toNat_ofNat, Nat.mod_eq_of_lt (by omega)]
  have e3 : ((52 : Int32).toInt64 &&& 63).toBitVec.smod 64 = 52#64 := by decide
  have e4 : (sgL s).toBitVec.toNat = s.toNat <<< 63 := by cases s <;> decide
  have b0 : s.toNat = 0 ∨ s.toNat = 1 := by cases s <;> decide
  rw [e3, BitVec.shiftLeft_eq', BitVec.toNat_shiftLeft, e1, e2, e4, show (52#64).toNat = 52 from rfl, Nat.shiftLeft_eq E, Nat.mod_eq_of_lt (by omega), ← Nat.shiftLeft_add_eq_or_of_lt (show E * 2 ^ 52 < 2 ^ 63 by omega)]
  have e5 : s.toNat <<< 63 + E * 2 ^ 52 = (s.toNat * 2048 + E) <<< 52 := by
    rw [Nat.shiftLeft_eq, Nat.shiftLeft_eq]; omega
  rw [e5, ← Nat.shiftLeft_add_eq_or_of_lt hT, Nat.shiftLeft_eq]
theorem dF_i {T : Nat} (hT : T < 2 ^ 52) : FP.dsub (dF 1023 T) FP.dconst1 = UInt64.ofNat (fgk 52 1023 T) ∧ FP.dmul (UInt64.ofNat (fgk 52 1023 T)) 4841369599423283200 = UInt64.ofNat (fgk 52 1075 T) ∧ FP.d2l (UInt64.ofNat (fgk 52 1075 T)) = lI T ∧ nn64 (UInt64.ofNat (fgk 52 1023 T)) = true ∧ nn64 (UInt64.ofNat (fgk 52 1075 T)) = true := by
  have k1 := fgk_lt gB64 hT
  have k3 : fgk 52 1075 T < 1075 * 2 ^ 52 := fgk_lt' (by decide) hT
  have k2 : (UInt64.ofNat (fgk 52 1023 T)).toNat = fgk 52 1023 T := UInt64.toNat_ofNat_of_lt' (by show _ < 2 ^ 64; omega)
  have k4 : (UInt64.ofNat (fgk 52 1075 T)).toNat = fgk 52 1075 T := UInt64.toNat_ofNat_of_lt' (by show _ < 2 ^ 64; omega)
  have o1 : (FP.dconst1 : UInt64).toNat = 1023 * 2 ^ 52 := by decide
  have o2 : (4841369599423283200 : UInt64).toNat = (1023 + 52) * 2 ^ 52 := by decide
  refine ⟨?_, ?_, ?_, nn64_lt (by rw [k2]; omega), nn64_lt (by rw [k4]; omega)⟩
  · show UInt64.ofNat (FP.Core.sub FP.Core.b64 (dF 1023 T).toNat (FP.dconst1 : UInt64).toNat) = _
    rw [dF_nat (by decide) hT, o1, fg_sub1 gB64 hT]
  · show UInt64.ofNat (FP.Core.mul FP.Core.b64 _ (4841369599423283200 : UInt64).toNat) = _
    rw [k2, o2, fg_up gB64 hT]
  · show Int64.ofInt (FP.Core.toInt (-2 ^ 63) (2 ^ 63 - 1) (FP.Core.decode FP.Core.b64 _)) = _
    rw [k4]
    have := fg_toInt gB64 hT (-2 ^ 63) (2 ^ 63 - 1) (by decide) (by omega)
    rw [show 1023 + 52 = 1075 from rfl] at this
    rw [this]
    exact Int64.ofInt_eq_ofNat
theorem dF_j {s : Bool} {E T : Nat} (h1 : 1 ≤ E) (h2 : E ≤ 2046) (hT : T < 2 ^ 52) : B_ofDouble_j34 (sgL s) (dF E T) = some (dS s E T).toInt64 := by
  have hs := dF_s84 (E := E - (E - 1023)) (n := E) (T := T) (by omega) (by omega) hT
  rw [show E + (1023 - (E - (E - 1023))) = 1023 + (E - 1023) by omega] at hs
  obtain ⟨i1, i2, i3, i4, i5⟩ := dF_i hT
  have fin : ∀ (w2 : UInt64 × Int64), w2 = (dF 1023 T, lI E) → grd (nn64 (FP.dsub w2.1 FP.dconst1)) (grd (nn64 (FP.dmul (FP.dsub w2.1 FP.dconst1) (4841369599423283200:UInt64))) (some ((sgL s ||| (w2.2 <<< ((52:Int32).toInt64 &&& 63))) ||| (FP.d2l (FP.dmul (FP.dsub w2.1 FP.dconst1) (4841369599423283200:UInt64)))))) = some (dS s E T).toInt64 := fun w2 hw => by
    subst hw
    simp only [i1, i2, i3, grd_t i4, grd_t i5, dS_bits h2 hT]
  unfold B_ofDouble_j34
  rw [obE (dF_s44 h1 h2 hT)]
  rw [obE hs]
  exact fin _ rfl
theorem dS_cmp0 {s : Bool} {E T : Nat} (h1 : 1 ≤ E) (h2 : E ≤ 2046) (hT : T < 2 ^ 52) : FP.dcmp (dS s E T) FP.dconst0 = some (if s then .lt else .gt) := by
  show FP.Core.cmp FP.Core.b64 _ _ = _
  unfold FP.Core.cmp
  rw [dS_d h1 h2 hT, show (FP.dconst0 : UInt64).toNat = 0 by decide, fg_dec0 gB64]
  unfold FP.Core.order
  dsimp only
  unfold FP.Core.inUnits
  rw [Nat.zero_mul]
  have hp : 0 < (2 ^ 52 + T) * 2 ^ ((E : Int) - 1023 - 52 - min ((E : Int) - 1023 - 52) (FP.Core.b64).qmin).toNat := Nat.mul_pos (by omega) (Nat.pow_pos (by decide))
  generalize (2 ^ 52 + T) * 2 ^ ((E : Int) - 1023 - 52 - min ((E : Int) - 1023 - 52) (FP.Core.b64).qmin).toNat = c at *
  cases s with
  | true =>
    rw [if_pos rfl]
    congr 1
    exact cmp_lt (show -(c : Int) < ((0 : Nat) : Int) by omega)
  | false =>
    rw [if_neg (by decide)]
    congr 1
    exact cmp_gt (show ((0 : Nat) : Int) < (c : Int) by omega)
theorem dS_self {s : Bool} {E T : Nat} (h1 : 1 ≤ E) (h2 : E ≤ 2046) (hT : T < 2 ^ 52) : FP.dcmp (dS s E T) (dS s E T) = some .eq := by
  show FP.Core.cmp FP.Core.b64 _ _ = _
  unfold FP.Core.cmp
  rw [dS_d h1 h2 hT]
  unfold FP.Core.order
  dsimp only
  rw [cmp_eq]
theorem xor63 {n : Nat} (lt : n < 2 ^ 63) : (2 ^ 63 + n) ^^^ 2 ^ 63 = n := by
  have e : 2 ^ 63 + n = 1 <<< 63 ||| n := by
    rw [← Nat.shiftLeft_add_eq_or_of_lt lt, Nat.shiftLeft_eq, Nat.one_mul]
  rw [e, Nat.shiftLeft_eq, Nat.one_mul]
  refine Nat.eq_of_testBit_eq fun i => ?_
  rw [Nat.testBit_xor, Nat.testBit_or, Nat.testBit_two_pow]
  by_cases c : 63 = i
  · subst c
    rw [Nat.testBit_lt_two_pow lt]
    rfl
  · rw [decide_eq_false c, Bool.false_or, Bool.xor_false]
theorem dS_of {s : Bool} {E T : Nat} (h1 : 1 ≤ E) (h2 : E ≤ 2046) (hT : T < 2 ^ 52) : B_ofDouble (dS s E T) = some (J_Double_doubleToLongBits (dS s E T)) := by
  have rhs : J_Double_doubleToLongBits (dS s E T) = (dS s E T).toInt64 := by
    have : J_Double_isNaN (dS s E T) = 0 := by
      unfold J_Double_isNaN
      rw [dS_self h1 h2 hT, if_pos (by decide)]
    unfold J_Double_doubleToLongBits
    rw [this, if_pos rfl]
  rw [rhs]
  unfold B_ofDouble
  rw [dS_cmp0 h1 h2 hT]
  cases s with
  | true =>
    have e : FP.dneg (dS true E T) = dF E T := by
      apply UInt64.toNat_inj.mp
      show (dS true E T ^^^ 0x8000000000000000).toNat = _
      rw [UInt64.toNat_xor, dS_nat h2 hT, dF_nat h2 hT]
      have : (true.toNat * 2048 + E) * 2 ^ 52 + T = 2 ^ 63 + (E * 2 ^ 52 + T) := by
        rw [show true.toNat = 1 from rfl]; omega
      rw [this, show (0x8000000000000000 : UInt64).toNat = 2 ^ 63 by decide]
      exact xor63 (by omega)
    rw [e]
    exact dF_j (s := true) h1 h2 hT
  | false =>
    have e : dS false E T = dF E T := by
      unfold dS dF
      rw [show false.toNat = 0 from rfl, Nat.zero_mul, Nat.zero_add]
    rw [e]
    have := dF_j (s := false) h1 h2 hT
    rw [e] at this
    exact this
theorem d_zero : B_ofDouble 0 = some (J_Double_doubleToLongBits 0) := by
  unfold B_ofDouble
  rw [if_pos (by decide)]
  decide
