/-! FLOATS: what a rounded number is, for any format; those that are ordinary and positive stay so -/
theorem fl_near_le {n d b : Nat} (h : n ≤ b * d) : FP.Core.nearest n d ≤ b := by
  unfold FP.Core.nearest
  by_cases hd : d = 0
  · subst hd
    rw [Nat.mul_zero] at h
    have : n = 0 := by omega
    subst this
    simp
  have hd' : 0 < d := Nat.pos_of_ne_zero hd
  have h1 : n / d ≤ b := by
    rw [Nat.div_le_iff_le_mul_add_pred hd']
    have : b * d = d * b := Nat.mul_comm _ _
    omega
  by_cases e : n / d = b
  · have hm := Nat.div_add_mod n d
    rw [e, Nat.mul_comm d b] at hm
    have : n % d = 0 := by omega
    rw [this, if_pos (by omega)]
    omega
  · split
    · omega
    · split <;> omega
theorem fl_near_ge {n d b : Nat} (hd : 0 < d) (h : b * d ≤ n) : b ≤ FP.Core.nearest n d := by
  have h1 : b ≤ n / d := (Nat.le_div_iff_mul_le hd).mpr h
  unfold FP.Core.nearest
  split
  · exact h1
  · split <;> omega
theorem fl_near_ex (b d : Nat) (hd : 0 < d) : FP.Core.nearest (b * d) d = b := by
  have h1 := fl_near_le (n := b * d) (d := d) (b := b) (Nat.le_refl _)
  have h2 := fl_near_ge (n := b * d) (d := d) (b := b) hd (Nat.le_refl _)
  omega
section FMT
variable {f : FP.Core.Fmt} {P : Nat}
theorem fl_tails (hp : f.p = P + 1) : f.tails = 2 ^ P := by
  unfold FP.Core.Fmt.tails
  rw [hp, Nat.add_sub_cancel]
/-- an ordinary positive number's bits -/
theorem fl_dec (hp : f.p = P + 1) {E T : Nat} (hE1 : 1 ≤ E) (hE2 : E + 1 < f.exps) (hT : T < 2 ^ P) : FP.Core.decode f (E * 2 ^ P + T) = .fin false (2 ^ P + T) (f.qmin + ((E : Int) - 1)) := by
  have hpos : 0 < 2 ^ P := Nat.pow_pos (by decide)
  have hd : (E * 2 ^ P + T) / 2 ^ P = E := by
    rw [Nat.add_comm, Nat.add_mul_div_right _ _ hpos, Nat.div_eq_of_lt hT, Nat.zero_add]
  have hm : (E * 2 ^ P + T) % 2 ^ P = T := by
    rw [Nat.add_comm, Nat.add_mul_mod_self_right, Nat.mod_eq_of_lt hT]
  have fE : FP.Core.fieldE f (E * 2 ^ P + T) = E := by
    unfold FP.Core.fieldE
    rw [fl_tails hp, hd, Nat.mod_eq_of_lt (by omega)]
  have fT : FP.Core.fieldT f (E * 2 ^ P + T) = T := by
    unfold FP.Core.fieldT
    rw [fl_tails hp, hm]
  have fS : FP.Core.fieldS f (E * 2 ^ P + T) = false := by
    unfold FP.Core.fieldS
    rw [fl_tails hp, hd, Nat.div_eq_of_lt (by omega)]
    rfl
  unfold FP.Core.decode
  rw [fE, fT, fS, fl_tails hp, if_neg (by omega), if_neg (by omega)]
/-- a ratio rounded, when it is ordinary -/
theorem fl_round (hp : f.p = P + 1) {s : Bool} {num den : Nat} {e Q : Int} (hn : num ≠ 0) (hQ : FP.Core.quantum f num den e = Q) (h1 : f.qmin ≤ Q) (h2 : Q + 1 ≤ f.qmax) (hD : 0 < FP.Core.unitsDen den e Q) (lo : 2 ^ P * FP.Core.unitsDen den e Q ≤ FP.Core.unitsNum num e Q) (hi : FP.Core.unitsNum num e Q ≤ 2 ^ (P + 1) * FP.Core.unitsDen den e Q) : FP.Core.encode f (FP.Core.roundRatio f s num den e) = (s.toNat * f.exps + (Q - f.qmin).toNat) * 2 ^ P + FP.Core.nearest (FP.Core.unitsNum num e Q) (FP.Core.unitsDen den e Q) ∧ 2 ^ P ≤ FP.Core.nearest (FP.Core.unitsNum num e Q) (FP.Core.unitsDen den e Q) ∧ FP.Core.nearest (FP.Core.unitsNum num e Q) (FP.Core.unitsDen den e Q) ≤ 2 ^ (P + 1) := by
  have hge := fl_near_ge hD lo
  have hle := fl_near_le hi
  refine ⟨?_, hge, hle⟩
  unfold FP.Core.roundRatio FP.Core.roundAt
  rw [if_neg hn, hQ]
  generalize FP.Core.nearest (FP.Core.unitsNum num e Q) (FP.Core.unitsDen den e Q) = m at *
  have pw : 2 ^ (P + 1) = 2 * 2 ^ P := by rw [Nat.pow_succ, Nat.mul_comm]
  have hpos : 0 < 2 ^ P := Nat.pow_pos (by decide)
  have asm : ∀ (E t : Nat), FP.Core.assemble f s E t = (s.toNat * f.exps + E) * 2 ^ P + t := fun E t => by
    unfold FP.Core.assemble
    rw [fl_tails hp]
  unfold FP.Core.settle
  rw [hp]
  by_cases c : m < 2 ^ (P + 1)
  · rw [if_pos c]
    unfold FP.Core.bound
    rw [if_pos (by omega)]
    unfold FP.Core.encode
    dsimp only
    rw [fl_tails hp, if_neg (by omega), asm]
    have : (s.toNat * f.exps + ((Q - f.qmin).toNat + 1)) * 2 ^ P = (s.toNat * f.exps + (Q - f.qmin).toNat) * 2 ^ P + 2 ^ P := by
      rw [← Nat.add_assoc, Nat.add_mul, Nat.one_mul]
    omega
  · rw [if_neg c]
    unfold FP.Core.bound
    rw [if_pos (by omega)]
    unfold FP.Core.encode
    dsimp only
    rw [fl_tails hp, if_neg (by omega), asm]
    have e1 : (Q + 1 - f.qmin).toNat = (Q - f.qmin).toNat + 1 := by omega
    have : (s.toNat * f.exps + ((Q - f.qmin).toNat + 1 + 1)) * 2 ^ P = (s.toNat * f.exps + (Q - f.qmin).toNat) * 2 ^ P + 2 ^ P + 2 ^ P := by
      rw [show s.toNat * f.exps + ((Q - f.qmin).toNat + 1 + 1) = (s.toNat * f.exps + (Q - f.qmin).toNat) + 1 + 1 by omega, Nat.add_mul, Nat.add_mul, Nat.one_mul]
    rw [e1]
    omega
/-- the leading digit's exponent, of a whole number -/
theorem fl_lead1 {c k : Nat} (h1 : 2 ^ k ≤ c) (h2 : c < 2 ^ (k + 1)) : FP.Core.leading c 1 = (k : Int) := by
  have hl : c.log2 = k := by
    have hc : c ≠ 0 := by
      have : 0 < 2 ^ k := Nat.pow_pos (by decide)
      omega
    exact (Nat.log2_eq_iff hc).mpr ⟨h1, h2⟩
  unfold FP.Core.leading
  rw [hl, show (1 : Nat).log2 = 0 from by decide]
  dsimp only
  have e1 : ((k : Int) - ((0 : Nat) : Int)).toNat = k := by omega
  have e2 : (-((k : Int) - ((0 : Nat) : Int))).toNat = 0 := by omega
  rw [e1, e2, if_pos (by simpa using h1)]
  omega
/-- a whole number with an exponent, rounded -/
theorem fl_rn (hp : f.p = P + 1) {s : Bool} {c k : Nat} {q : Int} (h1 : 2 ^ k ≤ c) (h2 : c < 2 ^ (k + 1)) (hq1 : f.qmin ≤ (k : Int) + q - P) (hq2 : (k : Int) + q - P + 1 ≤ f.qmax) : ∃ m, FP.Core.encode f (FP.Core.round f (.fin s c q)) = (s.toNat * f.exps + ((k : Int) + q - P - f.qmin).toNat) * 2 ^ P + m ∧ 2 ^ P ≤ m ∧ m ≤ 2 ^ (P + 1) ∧ (∀ b, c * 2 ^ (P - k) ≤ b * 2 ^ (k - P) → m ≤ b) ∧ (∀ b, c * 2 ^ (P - k) = b * 2 ^ (k - P) → m = b) := by
  have hc : c ≠ 0 := by
    have : 0 < 2 ^ k := Nat.pow_pos (by decide)
    omega
  have hQ : FP.Core.quantum f c 1 q = (k : Int) + q - P := by
    unfold FP.Core.quantum
    rw [fl_lead1 h1 h2, hp]
    rw [show ((k : Int) + q - (((P + 1 : Nat) : Int) - 1)) = (k : Int) + q - P by omega]
    exact Int.max_eq_right hq1
  have uN : FP.Core.unitsNum c q ((k : Int) + q - P) = c * 2 ^ (P - k) := by
    unfold FP.Core.unitsNum
    rw [show (q - ((k : Int) + q - P)).toNat = P - k by omega]
  have uD : FP.Core.unitsDen 1 q ((k : Int) + q - P) = 2 ^ (k - P) := by
    unfold FP.Core.unitsDen
    rw [show ((k : Int) + q - P - q).toNat = k - P by omega, Nat.one_mul]
  have dpos : 0 < 2 ^ (k - P) := Nat.pow_pos (by decide)
  have lo : 2 ^ P * 2 ^ (k - P) ≤ c * 2 ^ (P - k) := by
    rw [← Nat.pow_add]
    by_cases z : P ≤ k
    · rw [show P + (k - P) = k by omega, show P - k = 0 by omega, Nat.pow_zero, Nat.mul_one]; exact h1
    · rw [show P + (k - P) = k + (P - k) by omega, Nat.pow_add]
      exact Nat.mul_le_mul_right _ h1
  have hi : c * 2 ^ (P - k) ≤ 2 ^ (P + 1) * 2 ^ (k - P) := by
    rw [← Nat.pow_add]
    by_cases z : P ≤ k
    · rw [show P + 1 + (k - P) = k + 1 by omega, show P - k = 0 by omega, Nat.pow_zero, Nat.mul_one]; omega
    · rw [show P + 1 + (k - P) = (k + 1) + (P - k) by omega, Nat.pow_add]
      exact Nat.mul_le_mul_right _ (by omega)
  have := fl_round (s := s) hp hc hQ hq1 hq2 (by rw [uD]; exact dpos) (by rw [uN, uD]; exact lo) (by rw [uN, uD]; exact hi)
  rw [uN, uD] at this
  obtain ⟨a1, a2, a3⟩ := this
  refine ⟨_, a1, a2, a3, fun b hb => fl_near_le hb, fun b hb => ?_⟩
  rw [hb]
  exact fl_near_ex b _ dpos
end FMT
/-! float -/
theorem b32p : (FP.Core.b32).p = 23 + 1 := rfl
theorem b32q : (FP.Core.b32).qmin = -149 := by decide
theorem b32Q : (FP.Core.b32).qmax = 104 := by decide
theorem b32x : (FP.Core.b32).exps = 256 := by decide
/-- an ordinary positive float -/
def fl_N (x : UInt32) (E T : Nat) : Prop := x.toNat = E * 2 ^ 23 + T ∧ T < 2 ^ 23 ∧ 1 ≤ E ∧ E ≤ 254
theorem fl_d32 {x : UInt32} {E T : Nat} (h : fl_N x E T) : FP.Core.decode FP.Core.b32 x.toNat = .fin false (2 ^ 23 + T) ((E : Int) - 150) := by
  obtain ⟨h1, h2, h3, h4⟩ := h
  rw [h1, fl_dec b32p h3 (by rw [b32x]; omega) h2, b32q]
  congr 1
  omega
theorem fl_nn {x : UInt32} {E T : Nat} (h : fl_N x E T) : nn32 x = true := by
  obtain ⟨h1, h2, h3, h4⟩ := h
  unfold nn32
  refine decide_eq_true ?_
  rw [UInt32.le_iff_toNat_le]
  have : (x &&& 0x7fffffff).toNat ≤ x.toNat := by
    rw [UInt32.toNat_and]
    exact Nat.and_le_left
  have e : (0x7f800000 : UInt32).toNat = 2139095040 := rfl
  omega
/-- a rounded product or sum is ordinary again -/
theorem fl_out {c k : Nat} {q : Int} (h1 : 2 ^ k ≤ c) (h2 : c < 2 ^ (k + 1)) (hq1 : -149 ≤ (k : Int) + q - 23) (hq2 : (k : Int) + q - 23 + 1 ≤ 103) : ∃ E T m, fl_N (UInt32.ofNat (FP.Core.encode FP.Core.b32 (FP.Core.round FP.Core.b32 (.fin false c q)))) E T ∧ E * 2 ^ 23 + T = ((k : Int) + q - 23 + 149).toNat * 2 ^ 23 + m ∧ 2 ^ 23 ≤ m ∧ m ≤ 2 ^ 24 ∧ (∀ b, c * 2 ^ (23 - k) ≤ b * 2 ^ (k - 23) → m ≤ b) ∧ (∀ b, c * 2 ^ (23 - k) = b * 2 ^ (k - 23) → m = b) := by
  obtain ⟨m, e, m1, m2, m3, m4⟩ := fl_rn (f := FP.Core.b32) (P := 23) b32p (s := false) h1 h2 (by rw [b32q]; omega) (by rw [b32Q]; omega)
  rw [b32q, b32x, show (false.toNat * 256) = 0 from rfl, Nat.zero_add, show (k : Int) + q - ((23 : Nat) : Int) - -149 = (k : Int) + q - 23 + 149 by omega] at e
  have hb : ((k : Int) + q - 23 + 149).toNat ≤ 251 := by omega
  generalize ((k : Int) + q - 23 + 149).toNat = Z at *
  have hlt : Z * 2 ^ 23 + m < 2 ^ 32 := by omega
  refine ⟨(Z * 2 ^ 23 + m) / 2 ^ 23, (Z * 2 ^ 23 + m) % 2 ^ 23, m, ⟨?_, Nat.mod_lt _ (by decide), by omega, by omega⟩, by omega, m1, m2, m3, m4⟩
  rw [e, UInt32.toNat_ofNat_of_lt' hlt]
  omega
