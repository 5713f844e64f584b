/-! FLOATS, one theory for both formats: times a power of two, compared, taken apart -/
def gB (f : FP.Core.Fmt) (P B : Nat) : Prop := f.p = P + 1 ∧ f.qmin = 1 - (B : Int) - P ∧ f.qmax = (B : Int) - P ∧ f.exps = 2 * B + 2 ∧ P + 1 < B ∧ 1 ≤ P
theorem gB32 : gB FP.Core.b32 23 127 := by
  refine ⟨?_, ?_, ?_, ?_, ?_, ?_⟩ <;> decide
theorem gB64 : gB FP.Core.b64 52 1023 := by
  refine ⟨?_, ?_, ?_, ?_, ?_, ?_⟩ <;> decide
section GEN
variable {f : FP.Core.Fmt} {P B : Nat}
theorem fg_dec (h : gB f P B) {E T : Nat} (h1 : 1 ≤ E) (h2 : E ≤ 2 * B) (hT : T < 2 ^ P) : FP.Core.decode f (E * 2 ^ P + T) = .fin false (2 ^ P + T) ((E : Int) - B - P) := by
  obtain ⟨hp, hq, hQ, hx, hPB, hP⟩ := h
  rw [fl_dec hp h1 (by omega) hT, hq]
  congr 1
  omega
theorem fg_dec1 (h : gB f P B) {E : Nat} (h1 : 1 ≤ E) (h2 : E ≤ 2 * B) : FP.Core.decode f (E * 2 ^ P) = .fin false (2 ^ P) ((E : Int) - B - P) := by
  have := fg_dec h h1 h2 (T := 0) (Nat.pow_pos (by decide))
  rw [Nat.add_zero, Nat.add_zero] at this
  exact this
theorem fg_dec0 (h : gB f P B) : FP.Core.decode f 0 = .fin false 0 f.qmin := by
  obtain ⟨hp, hq, hQ, hx, hPB, hP⟩ := h
  have e1 : FP.Core.fieldE f 0 = 0 := by unfold FP.Core.fieldE; rw [Nat.zero_div, Nat.zero_mod]
  have e2 : FP.Core.fieldT f 0 = 0 := by unfold FP.Core.fieldT; rw [Nat.zero_mod]
  have e3 : FP.Core.fieldS f 0 = false := by unfold FP.Core.fieldS; rw [Nat.zero_div, Nat.zero_div]; rfl
  unfold FP.Core.decode
  rw [e1, e2, e3, if_neg (by omega), if_pos rfl]
theorem fg_enc0 (h : gB f P B) (q : Int) : FP.Core.encode f (FP.Core.round f (.fin false 0 q)) = 0 := by
  obtain ⟨hp, hq, hQ, hx, hPB, hP⟩ := h
  unfold FP.Core.round
  dsimp only
  unfold FP.Core.roundRatio
  rw [if_pos rfl]
  unfold FP.Core.encode
  dsimp only
  rw [fl_tails hp, if_pos (Nat.pow_pos (by decide))]
  unfold FP.Core.assemble
  rw [show (false.toNat) = 0 from rfl, Nat.zero_mul, Nat.zero_add, Nat.zero_mul]
/-- a rounded whole multiple that is exact -/
theorem fg_ex (h : gB f P B) {c k E T : Nat} {q : Int} (h1 : 2 ^ k ≤ c) (h2 : c < 2 ^ (k + 1)) (hE : (E : Int) = k + q + B) (hE1 : 1 ≤ E) (hE2 : E + 1 ≤ 2 * B) (hx : c * 2 ^ (P - k) = (2 ^ P + T) * 2 ^ (k - P)) : FP.Core.encode f (FP.Core.round f (.fin false c q)) = E * 2 ^ P + T := by
  obtain ⟨hp, hq, hQ, hxx, hPB, hP⟩ := h
  obtain ⟨m, e, m1, m2, m3, m4⟩ := fl_rn hp (s := false) h1 h2 (q := q) (by omega) (by omega)
  rw [e, m4 _ hx, show false.toNat = 0 from rfl, Nat.zero_mul, Nat.zero_add]
  rw [show ((k : Int) + q - P - f.qmin).toNat = E - 1 by omega]
  rw [← Nat.add_assoc]
  congr 1
  have : E = E - 1 + 1 := by omega
  generalize E - 1 = w at *
  subst this
  rw [Nat.add_mul, Nat.one_mul]
theorem fg_mul (h : gB f P B) {E e T : Nat} (h1 : 1 ≤ E) (h2 : E ≤ 2 * B) (hT : T < 2 ^ P) (h3 : 1 ≤ e) (h4 : e ≤ 2 * B) (h5 : B + 1 ≤ E + e) (h6 : E + e + 1 ≤ 3 * B) : FP.Core.mul f (E * 2 ^ P + T) (e * 2 ^ P) = (E + e - B) * 2 ^ P + T := by
  unfold FP.Core.mul
  rw [fg_dec h h1 h2 hT, fg_dec1 h h3 h4]
  unfold FP.Core.exactProduct
  dsimp only
  rw [show (false != false) = false from rfl]
  have pp : 2 ^ P * 2 ^ P = 2 ^ (P + P) := (Nat.pow_add 2 P P).symm
  have hlt : (2 ^ P + T) * 2 ^ P < 2 ^ (P + P + 1) := by
    rw [Nat.pow_succ]
    have : (2 ^ P + T) * 2 ^ P < (2 ^ P + 2 ^ P) * 2 ^ P := Nat.mul_lt_mul_of_pos_right (by omega) (Nat.pow_pos (by decide))
    rw [Nat.add_mul (2 ^ P) (2 ^ P), pp] at this
    omega
  refine fg_ex h (k := P + P) ?_ hlt ?_ (by omega) (by omega) ?_
  · rw [← pp]; exact Nat.mul_le_mul_right _ (by omega)
  · omega
  · rw [show P - (P + P) = 0 by omega, Nat.pow_zero, Nat.mul_one, show P + P - P = P by omega]
theorem fg_mul0 (h : gB f P B) {e : Nat} (h3 : 1 ≤ e) (h4 : e ≤ 2 * B) : FP.Core.mul f 0 (e * 2 ^ P) = 0 := by
  unfold FP.Core.mul
  rw [fg_dec0 h, fg_dec1 h h3 h4]
  unfold FP.Core.exactProduct
  dsimp only
  rw [Nat.zero_mul]
  exact fg_enc0 h _
theorem cmp_lt {a b : Int} (h : a < b) : compare a b = .lt := by
  show compareOfLessAndEq a b = _
  unfold compareOfLessAndEq
  rw [if_pos h]
theorem cmp_ge {a b : Int} (h : b ≤ a) : compare a b = .eq ∨ compare a b = .gt := by
  show compareOfLessAndEq a b = _ ∨ compareOfLessAndEq a b = _
  unfold compareOfLessAndEq
  rw [if_neg (by omega)]
  by_cases e : a = b
  · rw [if_pos e]; exact Or.inl rfl
  · rw [if_neg e]; exact Or.inr rfl
theorem cmp_gt {a b : Int} (h : b < a) : compare a b = .gt := by
  show compareOfLessAndEq a b = _
  unfold compareOfLessAndEq
  rw [if_neg (by omega), if_neg (by omega)]
theorem cmp_eq (a : Int) : compare a a = .eq := by
  show compareOfLessAndEq a a = _
  unfold compareOfLessAndEq
  rw [if_neg (by omega), if_pos rfl]
theorem fg_lt (h : gB f P B) {E e T : Nat} (h1 : 1 ≤ E) (h2 : E ≤ 2 * B) (hT : T < 2 ^ P) (h4 : e ≤ 2 * B) (h5 : E < e) : FP.Core.cmp f (E * 2 ^ P + T) (e * 2 ^ P) = some .lt := by
  unfold FP.Core.cmp
  rw [fg_dec h h1 h2 hT, fg_dec1 h (by omega) h4]
  unfold FP.Core.order
  dsimp only
  rw [show min ((E : Int) - B - P) ((e : Int) - B - P) = (E : Int) - B - P by omega]
  unfold FP.Core.inUnits FP.Core.signed
  rw [show ((E : Int) - B - P - ((E : Int) - B - P)).toNat = 0 by omega, show ((e : Int) - B - P - ((E : Int) - B - P)).toNat = (e - E - 1) + 1 by omega]
  simp only [Bool.false_eq_true, if_false]
  congr 1
  refine cmp_lt ?_
  have hp : 1 ≤ 2 ^ (e - E - 1) := Nat.pow_pos (by decide)
  have : 2 ^ P * 2 * 1 ≤ 2 ^ P * 2 * 2 ^ (e - E - 1) := Nat.mul_le_mul_left _ hp
  have e1 : 2 ^ P * 2 ^ (e - E - 1 + 1) = 2 ^ P * 2 * 2 ^ (e - E - 1) := by
    rw [Nat.pow_succ, Nat.mul_comm (2 ^ (e - E - 1)) 2, Nat.mul_assoc]
  rw [e1]
  omega
theorem fg_ge (h : gB f P B) {E e T : Nat} (h1 : 1 ≤ e) (h2 : E ≤ 2 * B) (hT : T < 2 ^ P) (h5 : e ≤ E) : FP.Core.cmp f (E * 2 ^ P + T) (e * 2 ^ P) = some .eq ∨ FP.Core.cmp f (E * 2 ^ P + T) (e * 2 ^ P) = some .gt := by
  unfold FP.Core.cmp
  rw [fg_dec h (by omega) h2 hT, fg_dec1 h h1 (by omega)]
  unfold FP.Core.order
  dsimp only
  rw [show min ((E : Int) - B - P) ((e : Int) - B - P) = (e : Int) - B - P by omega]
  unfold FP.Core.inUnits FP.Core.signed
  rw [show ((e : Int) - B - P - ((e : Int) - B - P)).toNat = 0 by omega]
  simp only [Bool.false_eq_true, if_false]
  have hp : 1 ≤ 2 ^ ((E : Int) - B - P - ((e : Int) - B - P)).toNat := Nat.pow_pos (by decide)
  have hh : (2 ^ P + T) * 1 ≤ (2 ^ P + T) * 2 ^ ((E : Int) - B - P - ((e : Int) - B - P)).toNat := Nat.mul_le_mul_left _ hp
  have := @cmp_ge (((2 ^ P + T) * 2 ^ ((E : Int) - B - P - ((e : Int) - B - P)).toNat : Nat) : Int) ((2 ^ P * 2 ^ 0 : Nat) : Int) (by
    rw [Nat.pow_zero, Nat.mul_one]
    omega)
  rcases this with c | c
  · left; rw [c]
  · right; rw [c]
theorem fg_gt0 (h : gB f P B) {E T : Nat} (h1 : 1 ≤ E) (h2 : E ≤ 2 * B) (hT : T < 2 ^ P) : FP.Core.cmp f (E * 2 ^ P + T) 0 = some .gt := by
  unfold FP.Core.cmp
  rw [fg_dec h h1 h2 hT, fg_dec0 h]
  unfold FP.Core.order
  dsimp only
  unfold FP.Core.inUnits FP.Core.signed
  simp only [Bool.false_eq_true, if_false]
  congr 1
  refine cmp_gt ?_
  rw [Nat.zero_mul]
  have hp : 0 < (2 ^ P + T) * 2 ^ ((E : Int) - B - P - min ((E : Int) - B - P) f.qmin).toNat := Nat.mul_pos (by have : 0 < 2 ^ P := Nat.pow_pos (by decide); omega) (Nat.pow_pos (by decide))
  omega
theorem fg_self (h : gB f P B) {E T : Nat} (h1 : 1 ≤ E) (h2 : E ≤ 2 * B) (hT : T < 2 ^ P) : FP.Core.cmp f (E * 2 ^ P + T) (E * 2 ^ P + T) = some .eq := by
  unfold FP.Core.cmp
  rw [fg_dec h h1 h2 hT]
  unfold FP.Core.order
  dsimp only
  rw [cmp_eq]
/-- what is left of a number between one and two: its digits, alone -/
def fgk (P B T : Nat) : Nat := if T = 0 then 0 else (B + T.log2 - P) * 2 ^ P + (T * 2 ^ (P - T.log2) - 2 ^ P)
theorem fg_pk {T : Nat} (hT : T < 2 ^ P) (h0 : T ≠ 0) : T.log2 < P ∧ 2 ^ P ≤ T * 2 ^ (P - T.log2) ∧ T * 2 ^ (P - T.log2) < 2 ^ P + 2 ^ P := by
  have a1 : 2 ^ T.log2 ≤ T := Nat.log2_self_le h0
  have a2 : T < 2 ^ (T.log2 + 1) := Nat.lt_log2_self
  have hk : T.log2 < P := by
    refine Nat.lt_of_not_le fun hc => ?_
    have : 2 ^ P ≤ 2 ^ T.log2 := Nat.pow_le_pow_right (by decide) hc
    omega
  have e1 : 2 ^ T.log2 * 2 ^ (P - T.log2) = 2 ^ P := by rw [← Nat.pow_add, show T.log2 + (P - T.log2) = P by omega]
  have e2 : 2 ^ (T.log2 + 1) * 2 ^ (P - T.log2) = 2 ^ P + 2 ^ P := by
    rw [Nat.pow_succ, Nat.mul_assoc, Nat.mul_comm 2, ← Nat.mul_assoc, e1]; omega
  have b1 := Nat.mul_le_mul_right (2 ^ (P - T.log2)) a1
  have b2 := Nat.mul_lt_mul_of_pos_right a2 (Nat.pow_pos (n := P - T.log2) (show 0 < 2 by decide))
  exact ⟨hk, by omega, by omega⟩
theorem fg_sub1 (h : gB f P B) {T : Nat} (hT : T < 2 ^ P) : FP.Core.sub f (B * 2 ^ P + T) (B * 2 ^ P) = fgk P B T := by
  have h' := h
  obtain ⟨hp, hq, hQ, hx, hPB, hP⟩ := h'
  unfold FP.Core.sub
  rw [fg_dec h (by omega) (by omega) hT, fg_dec1 h (by omega) (by omega)]
  unfold FP.Core.negate FP.Core.exactSum
  dsimp only
  rw [show (!false) = true from rfl]
  have hu : ∀ e : Int, e = (B : Int) - B - P → FP.Core.sumUnits false (2 ^ P + T) ((B : Int) - B - P) true (2 ^ P) ((B : Int) - B - P) e = (T : Int) := fun e he => by
    subst he
    unfold FP.Core.sumUnits FP.Core.inUnits FP.Core.signed
    rw [show ((B : Int) - B - P - ((B : Int) - B - P)).toNat = 0 by omega]
    simp only [Bool.false_eq_true, if_false, if_true, Nat.pow_zero, Nat.mul_one]
    omega
  rw [hu _ (by omega)]
  have hs : FP.Core.sumSign false true (T : Int) = false := by
    unfold FP.Core.sumSign
    by_cases c : (T : Int) = 0
    · rw [if_pos c]; rfl
    · rw [if_neg c]
      exact decide_eq_false (by omega)
  rw [hs, Int.natAbs_natCast]
  unfold fgk
  by_cases h0 : T = 0
  · rw [if_pos h0, h0]
    exact fg_enc0 h _
  · rw [if_neg h0]
    obtain ⟨hk, p1, p2⟩ := fg_pk hT h0
    refine fg_ex h (k := T.log2) (Nat.log2_self_le h0) Nat.lt_log2_self ?_ (by omega) (by omega) ?_
    · omega
    · rw [show T.log2 - P = 0 by omega, Nat.pow_zero, Nat.mul_one]
      omega
theorem fg_up (h : gB f P B) {T : Nat} (hT : T < 2 ^ P) : FP.Core.mul f (fgk P B T) ((B + P) * 2 ^ P) = fgk P (B + P) T := by
  have h' := h
  obtain ⟨hp, hq, hQ, hx, hPB, hP⟩ := h'
  unfold fgk
  by_cases h0 : T = 0
  · rw [if_pos h0, if_pos h0]
    exact fg_mul0 h (by omega) (by omega)
  · rw [if_neg h0, if_neg h0]
    obtain ⟨hk, p1, p2⟩ := fg_pk hT h0
    rw [fg_mul h (by omega) (by omega) (by omega) (by omega) (by omega) (by omega) (by omega)]
    rw [show B + T.log2 - P + (B + P) - B = B + P + T.log2 - P by omega]
theorem fg_toInt (h : gB f P B) {T : Nat} (hT : T < 2 ^ P) (lo hi : Int) (hlo : lo ≤ 0) (hhi : (T : Int) ≤ hi) : FP.Core.toInt lo hi (FP.Core.decode f (fgk P (B + P) T)) = (T : Int) := by
  have h' := h
  obtain ⟨hp, hq, hQ, hx, hPB, hP⟩ := h'
  unfold fgk
  by_cases h0 : T = 0
  · rw [if_pos h0, fg_dec0 h]
    unfold FP.Core.toInt
    dsimp only
    unfold FP.Core.truncate FP.Core.signed
    rw [Nat.zero_mul, Nat.zero_div, h0]
    simp only [Bool.false_eq_true, if_false]
    omega
  · rw [if_neg h0]
    obtain ⟨hk, p1, p2⟩ := fg_pk hT h0
    rw [fg_dec h (by omega) (by omega) (by omega)]
    unfold FP.Core.toInt
    dsimp only
    unfold FP.Core.truncate FP.Core.signed
    simp only [Bool.false_eq_true, if_false]
    rw [show ((B + P + T.log2 - P : Nat) : Int) - B - P = (T.log2 : Int) - P by omega]
    rw [show ((T.log2 : Int) - P).toNat = 0 by omega, show (-((T.log2 : Int) - P)).toNat = P - T.log2 by omega, Nat.pow_zero, Nat.mul_one]
    rw [show 2 ^ P + (T * 2 ^ (P - T.log2) - 2 ^ P) = T * 2 ^ (P - T.log2) by omega]
    rw [Nat.mul_div_cancel _ (Nat.pow_pos (by decide))]
    omega
theorem fgk_lt (h : gB f P B) {T : Nat} (hT : T < 2 ^ P) : fgk P B T < B * 2 ^ P := by
  obtain ⟨hp, hq, hQ, hx, hPB, hP⟩ := h
  have hpos : 0 < 2 ^ P := Nat.pow_pos (by decide)
  unfold fgk
  by_cases h0 : T = 0
  · rw [if_pos h0]
    exact Nat.mul_pos (by omega) hpos
  · rw [if_neg h0]
    obtain ⟨hk, p1, p2⟩ := fg_pk hT h0
    have : (B + T.log2 - P + 1) * 2 ^ P ≤ B * 2 ^ P := Nat.mul_le_mul_right _ (by omega)
    rw [Nat.add_mul, Nat.one_mul] at this
    omega
end GEN
