/-! DOUBLE: with a sign, and divided -/
section GEN2
variable {f : FP.Core.Fmt} {P B : Nat}
theorem fg_decS (h : gB f P B) (s : Bool) {E T : Nat} (h1 : 1 ≤ E) (h2 : E ≤ 2 * B) (hT : T < 2 ^ P) : FP.Core.decode f ((s.toNat * f.exps + E) * 2 ^ P + T) = .fin s (2 ^ P + T) ((E : Int) - B - P) := by
  obtain ⟨hp, hq, hQ, hx, hPB, hP⟩ := h
  have hpos : 0 < 2 ^ P := Nat.pow_pos (by decide)
  have hd : ((s.toNat * f.exps + E) * 2 ^ P + T) / 2 ^ P = s.toNat * f.exps + E := by
    rw [Nat.add_comm, Nat.add_mul_div_right _ _ hpos, Nat.div_eq_of_lt hT, Nat.zero_add]
  have hm : ((s.toNat * f.exps + E) * 2 ^ P + T) % 2 ^ P = T := by
    rw [Nat.add_comm, Nat.add_mul_mod_self_right, Nat.mod_eq_of_lt hT]
  have hEx : E < f.exps := by omega
  have fE : FP.Core.fieldE f ((s.toNat * f.exps + E) * 2 ^ P + T) = E := by
    unfold FP.Core.fieldE
    rw [fl_tails hp, hd, Nat.add_comm, Nat.add_mul_mod_self_right, Nat.mod_eq_of_lt hEx]
  have fT : FP.Core.fieldT f ((s.toNat * f.exps + E) * 2 ^ P + T) = T := by
    unfold FP.Core.fieldT
    rw [fl_tails hp, hm]
  have fS : FP.Core.fieldS f ((s.toNat * f.exps + E) * 2 ^ P + T) = s := by
    unfold FP.Core.fieldS
    rw [fl_tails hp, hd, Nat.add_comm, Nat.add_mul_div_right _ _ (by omega), Nat.div_eq_of_lt hEx, Nat.zero_add]
    cases s <;> rfl
  unfold FP.Core.decode
  rw [fE, fT, fS, fl_tails hp, if_neg (by omega), if_neg (by omega), hq]
  congr 1
  omega
/-- a quotient of two ordinary numbers -/
theorem fg_div (h : gB f P B) {s t : Bool} {c d : Nat} {e : Int} (c1 : 2 ^ P ≤ c) (c2 : c < 2 ^ (P + 1)) (d1 : 2 ^ P ≤ d) (d2 : d < 2 ^ (P + 1)) (e1 : -40 ≤ e) (e2 : e ≤ 40) (hB : 120 ≤ B) : ∃ E T, FP.Core.encode f (FP.Core.roundRatio f s c d e) = (s.toNat * f.exps + E) * 2 ^ P + T ∧ T < 2 ^ P ∧ 1 ≤ E ∧ E ≤ 2 * B := by
  have h' := h
  obtain ⟨hp, hq, hQ, hx, hPB, hP⟩ := h'
  have hpos : 0 < 2 ^ P := Nat.pow_pos (by decide)
  have pw : 2 ^ (P + 1) = 2 * 2 ^ P := by rw [Nat.pow_succ, Nat.mul_comm]
  have lc : c.log2 = P := (Nat.log2_eq_iff (by omega)).mpr ⟨c1, c2⟩
  have ld : d.log2 = P := (Nat.log2_eq_iff (by omega)).mpr ⟨d1, d2⟩
  have key : ∀ l : Int, (l = 0 ∧ d ≤ c ∨ l = -1 ∧ c < d) → FP.Core.leading c d = l → ∃ E T, FP.Core.encode f (FP.Core.roundRatio f s c d e) = (s.toNat * f.exps + E) * 2 ^ P + T ∧ T < 2 ^ P ∧ 1 ≤ E ∧ E ≤ 2 * B := fun l hl hld => by
    have hQ' : FP.Core.quantum f c d e = l + e - P := by
      unfold FP.Core.quantum
      rw [hld, hp, hq]
      omega
    have uN : FP.Core.unitsNum c e (l + e - P) = c * 2 ^ (P - l).toNat := by
      unfold FP.Core.unitsNum
      rw [show (e - (l + e - P)) = (P : Int) - l by omega]
    have uD : FP.Core.unitsDen d e (l + e - P) = d := by
      unfold FP.Core.unitsDen
      rw [show ((l + e - P) - e).toNat = 0 by omega, Nat.pow_zero, Nat.mul_one]
    have bnds : 2 ^ P * d ≤ c * 2 ^ (P - l).toNat ∧ c * 2 ^ (P - l).toNat ≤ 2 ^ (P + 1) * d := by
      rcases hl with ⟨l0, hl⟩ | ⟨l0, hl⟩
      · subst l0
        rw [show ((P : Int) - 0).toNat = P by omega, Nat.mul_comm c, Nat.pow_succ, Nat.mul_assoc]
        exact ⟨Nat.mul_le_mul_left _ hl, Nat.mul_le_mul_left _ (by omega)⟩
      · subst l0
        rw [show ((P : Int) - -1).toNat = P + 1 by omega, Nat.mul_comm c, Nat.pow_succ, Nat.mul_assoc, Nat.mul_assoc]
        exact ⟨Nat.mul_le_mul_left _ (by omega), Nat.mul_le_mul_left _ (by omega)⟩
    have := fl_round (s := s) hp (num := c) (den := d) (e := e) (by omega) hQ' (by omega) (by omega) (by rw [uD]; omega) (by rw [uN, uD]; exact bnds.1) (by rw [uN, uD]; exact bnds.2)
    rw [uN, uD] at this
    obtain ⟨a1, a2, a3⟩ := this
    rw [a1]
    have hl' : l = 0 ∨ l = -1 := by omega
    have hZ : (l + e - P - f.qmin).toNat + 2 ≤ 2 * B := by omega
    generalize (l + e - P - f.qmin).toNat = Z at *
    generalize FP.Core.nearest (c * 2 ^ ((P : Int) - l).toNat) d = m at *
    by_cases z : m = 2 ^ (P + 1)
    · refine ⟨Z + 2, 0, ?_, hpos, by omega, by omega⟩
      have e0 : s.toNat * f.exps + (Z + 2) = s.toNat * f.exps + Z + 2 := by omega
      rw [z, pw, Nat.add_zero, e0, Nat.add_mul (s.toNat * f.exps + Z) 2]
    · refine ⟨Z + 1, m - 2 ^ P, ?_, by omega, by omega, by omega⟩
      rw [← Nat.add_assoc, Nat.add_mul _ 1, Nat.one_mul]
      omega
  by_cases z : d ≤ c
  · refine key 0 (Or.inl ⟨rfl, z⟩) ?_
    unfold FP.Core.leading
    rw [lc, ld]
    dsimp only
    rw [show ((P : Int) - P).toNat = 0 by omega, show (-((P : Int) - P)).toNat = 0 by omega, if_pos (by omega)]
    omega
  · refine key (-1) (Or.inr ⟨rfl, by omega⟩) ?_
    unfold FP.Core.leading
    rw [lc, ld]
    dsimp only
    rw [show ((P : Int) - P).toNat = 0 by omega, show (-((P : Int) - P)).toNat = 0 by omega, if_neg (by omega)]
    omega
/-- a whole number, as a float -/
theorem fg_int (h : gB f P B) {s : Bool} {c : Nat} (c0 : c ≠ 0) (c1 : c < 2 ^ P) (hB : 2 * P ≤ B) : ∃ E T, FP.Core.encode f (FP.Core.round f (.fin s c 0)) = (s.toNat * f.exps + E) * 2 ^ P + T ∧ T < 2 ^ P ∧ E = B + c.log2 := by
  have h' := h
  obtain ⟨hp, hq, hQ, hx, hPB, hP⟩ := h'
  obtain ⟨hk, p1, p2⟩ := fg_pk c1 c0
  obtain ⟨m, e, m1, m2, m3, m4⟩ := fl_rn hp (s := s) (Nat.log2_self_le c0) Nat.lt_log2_self (q := 0) (by omega) (by omega)
  have hm := m4 (c * 2 ^ (P - c.log2)) (by rw [show c.log2 - P = 0 by omega, Nat.pow_zero, Nat.mul_one])
  refine ⟨B + c.log2, m - 2 ^ P, ?_, by omega, rfl⟩
  rw [e, show ((c.log2 : Int) + 0 - P - f.qmin).toNat = B + c.log2 - 1 by omega]
  have : B + c.log2 = B + c.log2 - 1 + 1 := by omega
  generalize B + c.log2 - 1 = w at *
  rw [this, ← Nat.add_assoc, Nat.add_mul _ 1, Nat.one_mul]
  omega
end GEN2
/-! on doubles -/
def dF (E T : Nat) : UInt64 := UInt64.ofNat (E * 2 ^ 52 + T)
def dS (s : Bool) (E T : Nat) : UInt64 := UInt64.ofNat ((s.toNat * 2048 + E) * 2 ^ 52 + T)
theorem dF_nat {E T : Nat} (h2 : E ≤ 2046) (hT : T < 2 ^ 52) : (dF E T).toNat = E * 2 ^ 52 + T := by
  unfold dF
  exact UInt64.toNat_ofNat_of_lt' (by show _ < 2 ^ 64; omega)
theorem dS_nat {s : Bool} {E T : Nat} (h2 : E ≤ 2046) (hT : T < 2 ^ 52) : (dS s E T).toNat = (s.toNat * 2048 + E) * 2 ^ 52 + T := by
  have : s.toNat ≤ 1 := by cases s <;> decide
  unfold dS
  exact UInt64.toNat_ofNat_of_lt' (by show _ < 2 ^ 64; omega)
theorem dF_mul {E e T : Nat} (h1 : 1 ≤ E) (h2 : E ≤ 2046) (hT : T < 2 ^ 52) (h3 : 1 ≤ e) (h4 : e ≤ 2046) (h5 : 1024 ≤ E + e) (h6 : E + e + 1 ≤ 3069) : FP.dmul (dF E T) (dF e 0) = dF (E + e - 1023) T := by
  show UInt64.ofNat (FP.Core.mul FP.Core.b64 _ _) = _
  rw [dF_nat h2 hT, dF_nat h4 (by decide), Nat.add_zero, fg_mul gB64 h1 h2 hT h3 h4 h5 h6]
  rfl
theorem dF_lt {E e T : Nat} (h1 : 1 ≤ E) (h2 : E ≤ 2046) (hT : T < 2 ^ 52) (h4 : e ≤ 2046) (h5 : E < e) : FP.dcmp (dF E T) (dF e 0) = some .lt := by
  show FP.Core.cmp FP.Core.b64 _ _ = _
  rw [dF_nat h2 hT, dF_nat h4 (by decide), Nat.add_zero]
  exact fg_lt gB64 h1 h2 hT h4 h5
theorem dF_ge {E e T : Nat} (h1 : 1 ≤ e) (h2 : E ≤ 2046) (hT : T < 2 ^ 52) (h5 : e ≤ E) (o : CmpOp) : (0 : Int32) ≤ Op.cmpValue (FP.dcmp (dF E T) (dF e 0)) o := by
  have : FP.dcmp (dF E T) (dF e 0) = some .eq ∨ FP.dcmp (dF E T) (dF e 0) = some .gt := by
    show FP.Core.cmp FP.Core.b64 _ _ = _ ∨ FP.Core.cmp FP.Core.b64 _ _ = _
    rw [dF_nat h2 hT, dF_nat (by omega) (by decide), Nat.add_zero]
    exact fg_ge gB64 h1 h2 hT h5
  rcases this with c | c <;> rw [c] <;> cases o <;> decide
theorem nn64_lt {x : UInt64} (h : x.toNat % 2 ^ 63 ≤ 2047 * 2 ^ 52) : nn64 x = true := by
  unfold nn64
  refine decide_eq_true ?_
  rw [UInt64.le_iff_toNat_le, UInt64.toNat_and, show (0x7fffffffffffffff : UInt64).toNat = 2 ^ 63 - 1 by decide, Nat.and_two_pow_sub_one_eq_mod, show (0x7ff0000000000000 : UInt64).toNat = 2047 * 2 ^ 52 by decide]
  exact h
theorem dF_nn {E T : Nat} (h2 : E ≤ 2046) (hT : T < 2 ^ 52) : nn64 (dF E T) = true := nn64_lt (by rw [dF_nat h2 hT]; omega)
theorem dS_nn {s : Bool} {E T : Nat} (h2 : E ≤ 2046) (hT : T < 2 ^ 52) : nn64 (dS s E T) = true := nn64_lt (by
  rw [dS_nat h2 hT]
  have : s.toNat = 0 ∨ s.toNat = 1 := by cases s <;> decide
  omega)
theorem dS_d {s : Bool} {E T : Nat} (h1 : 1 ≤ E) (h2 : E ≤ 2046) (hT : T < 2 ^ 52) : FP.Core.decode FP.Core.b64 (dS s E T).toNat = .fin s (2 ^ 52 + T) ((E : Int) - 1023 - 52) := by
  rw [dS_nat h2 hT]
  exact fg_decS gB64 s h1 h2 hT
/-- whole numbers -/
theorem i2d_eq {S : Int32} (h : S ≠ 0) : ∃ E T, FP.i2d S = dS (decide (S.toInt < 0)) E T ∧ T < 2 ^ 52 ∧ 1023 ≤ E ∧ E ≤ 1054 := by
  have b1 := Int32.minValue_le_toInt S
  have b2 := Int32.toInt_le S
  have c0 : S.toInt.natAbs ≠ 0 := by
    intro q
    apply h
    apply Int32.toInt_inj.mp
    rw [show (0 : Int32).toInt = 0 from rfl]
    omega
  have c1 : S.toInt.natAbs ≤ 2 ^ 31 := by
    have e1 : Int32.minValue.toInt = -2 ^ 31 := by decide
    have e2 : Int32.maxValue.toInt = 2 ^ 31 - 1 := by decide
    omega
  obtain ⟨E, T, e, hT, hE⟩ := fg_int gB64 (s := decide (S.toInt < 0)) c0 (by omega) (by decide)
  have l1 : S.toInt.natAbs.log2 ≤ 31 := by
    refine Nat.le_of_not_lt fun q => ?_
    have a1 : 2 ^ 32 ≤ 2 ^ S.toInt.natAbs.log2 := Nat.pow_le_pow_right (by decide) q
    have a2 := Nat.log2_self_le c0
    omega
  refine ⟨E, T, ?_, hT, by omega, by omega⟩
  show UInt64.ofNat (FP.Core.encode FP.Core.b64 (FP.Core.round FP.Core.b64 (.fin _ _ 0))) = _
  rw [e]
  rfl
theorem ddiv_eq {S C : Int32} (h : S ≠ 0) (hC : 0 < C.toInt) : ∃ s E T, FP.ddiv (FP.i2d S) (FP.i2d C) = dS s E T ∧ T < 2 ^ 52 ∧ 1 ≤ E ∧ E ≤ 2046 := by
  obtain ⟨E1, T1, e1, t1, a1, b1⟩ := i2d_eq h
  obtain ⟨E2, T2, e2, t2, a2, b2⟩ := i2d_eq (S := C) (fun q => by rw [q] at hC; exact absurd hC (by decide))
  rw [e1, e2]
  generalize decide (S.toInt < 0) = s1
  generalize decide (C.toInt < 0) = s2
  obtain ⟨E, T, e, hT, l1, l2⟩ := fg_div gB64 (s := (s1 != s2)) (t := false) (c := 2 ^ 52 + T1) (d := 2 ^ 52 + T2) (e := ((E1 : Int) - 1023 - 52) - ((E2 : Int) - 1023 - 52)) (by omega) (by omega) (by omega) (by omega) (by omega) (by omega) (by decide)
  refine ⟨s1 != s2, E, T, ?_, hT, l1, l2⟩
  show UInt64.ofNat (FP.Core.div FP.Core.b64 _ _) = _
  unfold FP.Core.div
  rw [dS_d (by omega) (by omega) t1, dS_d (by omega) (by omega) t2]
  unfold FP.Core.quotient
  dsimp only
  rw [if_neg (by omega), e]
  rfl
