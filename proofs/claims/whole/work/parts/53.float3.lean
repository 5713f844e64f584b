/-! FLOAT: the bits of an ordinary number, written out by hand, are its bits -/
def fF (E T : Nat) : UInt32 := UInt32.ofNat (E * 2 ^ 23 + T)
theorem fF_nat {E T : Nat} (h2 : E ≤ 254) (hT : T < 2 ^ 23) : (fF E T).toNat = E * 2 ^ 23 + T := by
  unfold fF
  exact UInt32.toNat_ofNat_of_lt' (by show _ < 2 ^ 32; omega)
theorem fl_fF {x : UInt32} {E T : Nat} (h : fl_N x E T) : x = fF E T := by
  obtain ⟨h1, h2, h3, h4⟩ := h
  apply UInt32.toNat_inj.mp
  rw [fF_nat h4 h2, h1]
theorem fF_N {E T : Nat} (h1 : 1 ≤ E) (h2 : E ≤ 254) (hT : T < 2 ^ 23) : fl_N (fF E T) E T := ⟨fF_nat h2 hT, hT, h1, h2⟩
theorem fF_mul {E e T : Nat} (h1 : 1 ≤ E) (h2 : E ≤ 254) (hT : T < 2 ^ 23) (h3 : 1 ≤ e) (h4 : e ≤ 254) (h5 : 128 ≤ E + e) (h6 : E + e + 1 ≤ 381) : FP.fmul (fF E T) (fF e 0) = fF (E + e - 127) T := by
  show UInt32.ofNat (FP.Core.mul FP.Core.b32 _ _) = _
  rw [fF_nat h2 hT, fF_nat h4 (by decide), Nat.add_zero, fg_mul gB32 h1 h2 hT h3 h4 h5 h6]
  rfl
theorem fF_lt {E e T : Nat} (h1 : 1 ≤ E) (h2 : E ≤ 254) (hT : T < 2 ^ 23) (h4 : e ≤ 254) (h5 : E < e) : FP.fcmp (fF E T) (fF e 0) = some .lt := by
  show FP.Core.cmp FP.Core.b32 _ _ = _
  rw [fF_nat h2 hT, fF_nat h4 (by decide), Nat.add_zero]
  exact fg_lt gB32 h1 h2 hT h4 h5
theorem fF_ge {E e T : Nat} (h1 : 1 ≤ e) (h2 : E ≤ 254) (hT : T < 2 ^ 23) (h5 : e ≤ E) (o : CmpOp) : (0 : Int32) ≤ Op.cmpValue (FP.fcmp (fF E T) (fF e 0)) o := by
  have : FP.fcmp (fF E T) (fF e 0) = some .eq ∨ FP.fcmp (fF E T) (fF e 0) = some .gt := by
    show FP.Core.cmp FP.Core.b32 _ _ = _ ∨ FP.Core.cmp FP.Core.b32 _ _ = _
    rw [fF_nat h2 hT, fF_nat (by omega) (by decide), Nat.add_zero]
    exact fg_ge gB32 h1 h2 hT h5
  rcases this with c | c <;> rw [c] <;> cases o <;> decide
theorem fF_gt0 {E T : Nat} (h1 : 1 ≤ E) (h2 : E ≤ 254) (hT : T < 2 ^ 23) : FP.fcmp (fF E T) FP.fconst0 = some .gt := by
  show FP.Core.cmp FP.Core.b32 _ _ = _
  rw [fF_nat h2 hT]
  exact fg_gt0 gB32 h1 h2 hT
theorem fF_self {E T : Nat} (h1 : 1 ≤ E) (h2 : E ≤ 254) (hT : T < 2 ^ 23) : FP.fcmp (fF E T) (fF E T) = some .eq := by
  show FP.Core.cmp FP.Core.b32 _ _ = _
  rw [fF_nat h2 hT]
  exact fg_self gB32 h1 h2 hT
theorem fF_nn {E T : Nat} (h1 : 1 ≤ E) (h2 : E ≤ 254) (hT : T < 2 ^ 23) : nn32 (fF E T) = true := fl_nn (fF_N h1 h2 hT)
theorem f3m (n : Nat) : nI (n + 1) + (-1) = nI n := by
  rw [nI_succ, Int32.add_assoc, show (1 : Int32) + (-1) = 0 by decide, Int32.add_zero]
theorem obE {α β : Type} {o : Option α} {q : α} {k : α → Option β} (h : o = some q) : Option.bind o k = k q := by rw [h]; rfl
theorem fF_s15 {E T : Nat} (h1 : 1 ≤ E) (h2 : E ≤ 254) (hT : T < 2 ^ 23) : wh B_ofFloat_s15 FU (fF E T, 127, 0) = some (fF (E - (E - 127)) T, nI (127 + (E - 127))) := by
  have e2 : FP.fconst2 = fF 128 0 := by decide
  have eh : (1056964608 : UInt32) = fF 126 0 := by decide
  refine wh_for (fun k => (fF (E - k) T, nI (127 + k), nI k)) (E - 127) (fun k hk => ?_) ?_ (by omega)
  · unfold B_ofFloat_s15
    dsimp only
    have i1 : ¬ (128 : Int32) ≤ nI k := nI_ge (a := k) (b := 128) (by omega) (by decide)
    have i2 : ¬ (Op.cmpValue (FP.fcmp (fF (E - k) T) FP.fconst2) .l) < (0 : Int32) := by
      rw [e2]
      exact Int32.not_lt.mpr (fF_ge (by decide) (by omega) hT (by omega) _)
    rw [if_neg i1, if_neg i2, eh, fF_mul (by omega) (by omega) hT (by decide) (by decide) (by omega) (by omega), grd_t (fF_nn (by omega) (by omega) hT), show E - k + 126 - 127 = E - (k + 1) by omega, nI_1, nI_1]
    rfl
  · unfold B_ofFloat_s15
    dsimp only
    have i2 : (Op.cmpValue (FP.fcmp (fF (E - (E - 127)) T) FP.fconst2) .l) < (0 : Int32) := by
      rw [e2, fF_lt (by omega) (by omega) hT (by decide) (by omega)]
      decide
    rw [if_pos i2]
    by_cases c : (128 : Int32) ≤ nI (E - 127)
    · rw [if_pos c]
    · rw [if_neg c]

theorem fF_s44 {E T : Nat} {n : Nat} (h1 : 1 ≤ E) (h2 : E ≤ 127) (hn : E + n ≤ 254 + 127) (hT : T < 2 ^ 23) : wh B_ofFloat_s44 FU (fF E T, nI (n + (127 - E)), 0) = some (fF 127 T, nI n) := by
  have e1 : FP.fconst1 = fF 127 0 := by decide
  have e2 : FP.fconst2 = fF 128 0 := by decide
  refine (wh_for (fun k => (fF (E + k) T, nI (n + (127 - E - k)), nI k)) (127 - E) (fun k hk => ?_) ?_ (by omega)).trans (?_ : some (fF (E + (127 - E)) T, nI (n + (127 - E - (127 - E)))) = _)
  · unfold B_ofFloat_s44
    dsimp only
    have i1 : ¬ (126 : Int32) ≤ nI k := nI_ge (a := k) (b := 126) (by omega) (by decide)
    have i2 : ¬ (0 : Int32) ≤ (Op.cmpValue (FP.fcmp (fF (E + k) T) FP.fconst1) .g) := by
      rw [e1, fF_lt (by omega) (by omega) hT (by decide) (by omega)]
      decide
    rw [if_neg i1, if_neg i2, e2, fF_mul (by omega) (by omega) hT (by decide) (by decide) (by omega) (by omega), grd_t (fF_nn (by omega) (by omega) hT), show E + k + 128 - 127 = E + (k + 1) by omega, show n + (127 - E - k) = n + (127 - E - (k + 1)) + 1 by omega, f3m, nI_1]
  · unfold B_ofFloat_s44
    dsimp only
    have i2 : (0 : Int32) ≤ (Op.cmpValue (FP.fcmp (fF (E + (127 - E)) T) FP.fconst1) .g) := by
      rw [e1]
      exact fF_ge (by decide) (by omega) hT (by omega) _
    rw [if_pos i2]
    by_cases c : (126 : Int32) ≤ nI (127 - E)
    · rw [if_pos c]
    · rw [if_neg c]
  · rw [show E + (127 - E) = 127 by omega, show n + (127 - E - (127 - E)) = n by omega]
theorem fF_bits {E T : Nat} (h2 : E ≤ 254) (hT : T < 2 ^ 23) : (nI E <<< ((23 : Int32) &&& 31)) ||| nI T = (fF E T).toInt32 := by
  apply Int32.toBitVec_inj.mp
  apply BitVec.eq_of_toNat_eq
  have : (fF E T).toInt32.toBitVec.toNat = E * 2 ^ 23 + T := fF_nat h2 hT
  rw [this, Int32.toBitVec_or, BitVec.toNat_or, Int32.toBitVec_shiftLeft]
  have e1 : (nI T).toBitVec.toNat = T := by
    show (BitVec.ofNat 32 T).toNat = T
    rw [BitVec.toNat_ofNat, Nat.mod_eq_of_lt (by omega)]
  have e2 : (nI E).toBitVec.toNat = E := by
    show (BitVec.ofNat 32 E).toNat = E
    rw [BitVec.toNat_ofNat, Nat.mod_eq_of_lt (by omega)]
  have e3 : ((23 : Int32) &&& 31).toBitVec.smod 32 = 23#32 := by decide
  rw [e3, BitVec.shiftLeft_eq', BitVec.toNat_shiftLeft, e1, e2, show (23#32).toNat = 23 from rfl, Nat.shiftLeft_eq, Nat.mod_eq_of_lt (by omega), ← Nat.shiftLeft_eq, Nat.shiftLeft_add_eq_or_of_lt hT]
theorem fgk_lt' {P B : Nat} (h : P + 1 < B) {T : Nat} (hT : T < 2 ^ P) : fgk P B T < B * 2 ^ P := by
  have hpos : 0 < 2 ^ P := Nat.pow_pos (by decide)
  unfold fgk
  by_cases h0 : T = 0
  · rw [if_pos h0]
    exact Nat.mul_pos (by omega) hpos
  · rw [if_neg h0]
    obtain ⟨hk, p1, p2⟩ := fg_pk hT h0
    have : (B + T.log2 - P + 1) * 2 ^ P ≤ B * 2 ^ P := Nat.mul_le_mul_right _ (by omega)
    rw [Nat.add_mul, Nat.one_mul] at this
    omega
theorem fF_i {T : Nat} (hT : T < 2 ^ 23) : FP.fsub (fF 127 T) FP.fconst1 = UInt32.ofNat (fgk 23 127 T) ∧ FP.fmul (UInt32.ofNat (fgk 23 127 T)) 1258291200 = UInt32.ofNat (fgk 23 150 T) ∧ FP.f2i (UInt32.ofNat (fgk 23 150 T)) = nI T ∧ nn32 (UInt32.ofNat (fgk 23 127 T)) = true ∧ nn32 (UInt32.ofNat (fgk 23 150 T)) = true := by
  have k1 := fgk_lt gB32 hT
  have k3 : fgk 23 150 T < 150 * 2 ^ 23 := fgk_lt' (by decide) hT
  have k2 : (UInt32.ofNat (fgk 23 127 T)).toNat = fgk 23 127 T := UInt32.toNat_ofNat_of_lt' (by show _ < 2 ^ 32; omega)
  have k4 : (UInt32.ofNat (fgk 23 150 T)).toNat = fgk 23 150 T := UInt32.toNat_ofNat_of_lt' (by show _ < 2 ^ 32; omega)
  have nn : ∀ x : UInt32, x.toNat < 2139095040 → nn32 x = true := fun x hx => by
    unfold nn32
    refine decide_eq_true ?_
    rw [UInt32.le_iff_toNat_le]
    have : (x &&& 0x7fffffff).toNat ≤ x.toNat := by
      rw [UInt32.toNat_and]
      exact Nat.and_le_left
    have e : (0x7f800000 : UInt32).toNat = 2139095040 := rfl
    omega
  have o1 : (FP.fconst1 : UInt32).toNat = 127 * 2 ^ 23 := by decide
  have o2 : (1258291200 : UInt32).toNat = (127 + 23) * 2 ^ 23 := by decide
  refine ⟨?_, ?_, ?_, nn _ (by rw [k2]; omega), nn _ (by rw [k4]; omega)⟩
  · show UInt32.ofNat (FP.Core.sub FP.Core.b32 (fF 127 T).toNat (FP.fconst1 : UInt32).toNat) = _
    rw [fF_nat (by decide) hT, o1, fg_sub1 gB32 hT]
  · show UInt32.ofNat (FP.Core.mul FP.Core.b32 _ (1258291200 : UInt32).toNat) = _
    rw [k2, o2, fg_up gB32 hT]
  · show Int32.ofInt (FP.Core.toInt (-2 ^ 31) (2 ^ 31 - 1) (FP.Core.decode FP.Core.b32 _)) = _
    rw [k4]
    have := fg_toInt gB32 hT (-2 ^ 31) (2 ^ 31 - 1) (by decide) (by omega)
    rw [show 127 + 23 = 150 from rfl] at this
    rw [this]
    exact Int32.ofInt_eq_ofNat
theorem fF_of {E T : Nat} (h1 : 1 ≤ E) (h2 : E ≤ 254) (hT : T < 2 ^ 23) : B_ofFloat (fF E T) = some (fF E T).toInt32 := by
  have hs := fF_s44 (E := E - (E - 127)) (n := E) (T := T) (by omega) (by omega) (by omega) hT
  rw [show E + (127 - (E - (E - 127))) = 127 + (E - 127) by omega] at hs
  obtain ⟨i1, i2, i3, i4, i5⟩ := fF_i hT
  have g : (0 : Int32) < Op.cmpValue (FP.fcmp (fF E T) FP.fconst0) .g := by
    rw [fF_gt0 h1 h2 hT]; decide
  have fin : ∀ (w3 : UInt32 × Int32), w3 = (fF 127 T, nI E) → grd (nn32 (FP.fsub w3.1 FP.fconst1)) (grd (nn32 (FP.fmul (FP.fsub w3.1 FP.fconst1) (1258291200:UInt32))) (some ((w3.2 <<< ((23:Int32) &&& 31)) ||| (FP.f2i (FP.fmul (FP.fsub w3.1 FP.fconst1) (1258291200:UInt32)))))) = some (fF E T).toInt32 := fun w3 hw => by
    subst hw
    simp only [i1, i2, i3, grd_t i4, grd_t i5, fF_bits h2 hT]
  unfold B_ofFloat
  rw [if_pos g, obE (fF_s15 h1 h2 hT)]
  rw [obE hs]
  exact fin _ rfl
theorem fF_of0 : B_ofFloat FP.fconst0 = some 0 := by
  unfold B_ofFloat
  rw [if_neg (by decide)]
theorem fF_ib {E T : Nat} (h1 : 1 ≤ E) (h2 : E ≤ 254) (hT : T < 2 ^ 23) : J_Float_floatToIntBits (fF E T) = (fF E T).toInt32 := by
  have : J_Float_isNaN (fF E T) = 0 := by
    unfold J_Float_isNaN
    rw [fF_self h1 h2 hT, if_pos (by decide)]
  unfold J_Float_floatToIntBits
  rw [this, if_pos rfl]
theorem fF_ib0 : J_Float_floatToIntBits FP.fconst0 = 0 := by decide
