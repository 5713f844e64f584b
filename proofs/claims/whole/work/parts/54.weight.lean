/-! FLOAT: the product of a covering's stones, and the sum of the products -/
theorem fF_d {E T : Nat} (h1 : 1 ≤ E) (h2 : E ≤ 254) (hT : T < 2 ^ 23) : FP.Core.decode FP.Core.b32 (fF E T).toNat = .fin false (2 ^ 23 + T) ((E : Int) - 150) := fl_d32 (fF_N h1 h2 hT)
theorem pf_mulc {E T k c : Nat} {q : Int} (h1 : 3 ≤ E) (h2 : E ≤ 240) (hT : T < 2 ^ 23) (hc1 : 2 ^ 23 ≤ c) (hc2 : c ≤ 2 ^ 24) (hk : k = 46 ∨ k = 47) (hk1 : 2 ^ k ≤ (2 ^ 23 + T) * c) (hk2 : (2 ^ 23 + T) * c < 2 ^ (k + 1)) (hq : q = -24 ∨ q = -23) : ∃ E' T', UInt32.ofNat (FP.Core.encode FP.Core.b32 (FP.Core.round FP.Core.b32 (.fin false ((2 ^ 23 + T) * c) ((E : Int) - 150 + q)))) = fF E' T' ∧ E ≤ E' + 1 ∧ E' ≤ E + 2 ∧ T' < 2 ^ 23 := by
  have r1 : -149 ≤ (k : Int) + ((E : Int) - 150 + q) - 23 := by rcases hk with e | e <;> rcases hq with e' | e' <;> subst e <;> subst e' <;> omega
  have r2 : (k : Int) + ((E : Int) - 150 + q) - 23 + 1 ≤ 103 := by rcases hk with e | e <;> rcases hq with e' | e' <;> subst e <;> subst e' <;> omega
  obtain ⟨E', T', m, n, e, m1, m2, _, _⟩ := fl_out hk1 hk2 r1 r2
  clear hk1 hk2
  refine ⟨E', T', fl_fF n, ?_, ?_, n.2.1⟩
  · have := n.2.1
    rcases hk with c' | c' <;> rcases hq with e' | e' <;> subst c' <;> subst e' <;> omega
  · have := n.2.1
    rcases hk with c' | c' <;> rcases hq with e' | e' <;> subst c' <;> subst e' <;> omega
theorem pf_mul {E T : Nat} (F : UInt32) (hF : F = 1061158912 ∨ F = 1067450368) (h1 : 3 ≤ E) (h2 : E ≤ 240) (hT : T < 2 ^ 23) : ∃ E' T', FP.fmul (fF E T) F = fF E' T' ∧ E ≤ E' + 1 ∧ E' ≤ E + 2 ∧ T' < 2 ^ 23 := by
  have key : ∀ (c : Nat) (q : Int), FP.Core.decode FP.Core.b32 F.toNat = .fin false c q → 2 ^ 23 ≤ c → c ≤ 2 ^ 24 → (q = -24 ∨ q = -23) → ∃ E' T', FP.fmul (fF E T) F = fF E' T' ∧ E ≤ E' + 1 ∧ E' ≤ E + 2 ∧ T' < 2 ^ 23 := fun c q hd c1 c2 hq => by
    have e : FP.fmul (fF E T) F = UInt32.ofNat (FP.Core.encode FP.Core.b32 (FP.Core.round FP.Core.b32 (.fin false ((2 ^ 23 + T) * c) ((E : Int) - 150 + q)))) := by
      show UInt32.ofNat (FP.Core.mul FP.Core.b32 _ _) = _
      unfold FP.Core.mul
      rw [fF_d (by omega) (by omega) hT, hd]
      rfl
    rw [e]
    have lo : 2 ^ 46 ≤ (2 ^ 23 + T) * c := by
      rw [show 2 ^ 46 = 2 ^ 23 * 2 ^ 23 from rfl]
      exact Nat.mul_le_mul (by omega) c1
    have hi : (2 ^ 23 + T) * c < 2 ^ 48 := by
      have : (2 ^ 23 + T) * c ≤ (2 ^ 24 - 1) * 2 ^ 24 := Nat.mul_le_mul (by omega) c2
      omega
    by_cases z : (2 ^ 23 + T) * c < 2 ^ 47
    · exact pf_mulc (k := 46) h1 h2 hT c1 c2 (Or.inl rfl) lo z hq
    · exact pf_mulc (k := 47) h1 h2 hT c1 c2 (Or.inr rfl) (by omega) hi hq
  rcases hF with e | e
  · subst e
    exact key 12582912 (-24) (by decide) (by decide) (by decide) (Or.inl rfl)
  · subst e
    exact key 10485760 (-23) (by decide) (by decide) (by decide) (Or.inr rfl)
/-- a product of d factors -/
def PF (d : Nat) (p : UInt32) : Prop := ∃ E T, p = fF E T ∧ T < 2 ^ 23 ∧ 127 ≤ E + d ∧ E ≤ 127 + 2 * d
theorem PF_0 : PF 0 FP.fconst1 := ⟨127, 0, by decide, by decide, by decide, by decide⟩
theorem PF_nn {d : Nat} {p : UInt32} (h : PF d p) (hd : d ≤ 40) : nn32 p = true := by
  obtain ⟨E, T, e, hT, h1, h2⟩ := h
  subst e
  exact fF_nn (by omega) (by omega) hT
theorem PF_step {d : Nat} {p F : UInt32} (h : PF d p) (hd : d ≤ 40) (hF : F = 1061158912 ∨ F = 1067450368) : PF (d + 1) (FP.fmul p F) := by
  obtain ⟨E, T, e, hT, h1, h2⟩ := h
  subst e
  have g1 : 3 ≤ E := by omega
  have g2 : E ≤ 240 := by omega
  obtain ⟨E', T', e, k1, k2, k3⟩ := pf_mul F hF g1 g2 hT
  refine ⟨E', T', e, k3, ?_, ?_⟩
  · clear e hT k3; omega
  · clear e hT k3; omega
/-- a sum of at most M products -/
def SF (M : Nat) (s : UInt32) : Prop := s = FP.fconst0 ∨ ∃ E T, s = fF E T ∧ T < 2 ^ 23 ∧ 60 ≤ E ∧ E ≤ 190 ∧ (2 ^ 23 + T) * 2 ^ E ≤ M * 2 ^ 187
theorem SF_0 : SF 0 FP.fconst0 := Or.inl rfl
theorem SF_nn {M : Nat} {s : UInt32} (h : SF M s) : nn32 s = true := by
  rcases h with e | ⟨E, T, e, hT, h1, h2, h3⟩
  · subst e; decide
  · subst e
    exact fF_nn (by omega) (by omega) hT
theorem SF_of {M : Nat} {s : UInt32} (h : SF M s) : B_ofFloat s = some (J_Float_floatToIntBits s) := by
  rcases h with e | ⟨E, T, e, hT, h1, h2, h3⟩
  · subst e
    rw [fF_of0, fF_ib0]
  · subst e
    rw [fF_of (by omega) (by omega) hT, fF_ib (by omega) (by omega) hT]
theorem sf_bound {a b E F Z M : Nat} (h1 : a * 2 ^ E ≤ M * 2 ^ Z) (h2 : b * 2 ^ F ≤ 2 ^ Z) (g : Nat) (hE : g ≤ E) (hF : g ≤ F) : (a * 2 ^ (E - g) + b * 2 ^ (F - g)) * 2 ^ g ≤ (M + 1) * 2 ^ Z := by
  rw [Nat.add_mul, Nat.mul_assoc, Nat.mul_assoc, ← Nat.pow_add, ← Nat.pow_add, Nat.sub_add_cancel hE, Nat.sub_add_cancel hF, Nat.add_mul, Nat.one_mul]
  exact Nat.add_le_add h1 h2
theorem sf_round {C g M : Nat} (hC : 2 ^ 23 ≤ C) (hg : 60 ≤ g) (hM : M ≤ 2 ^ 20) (hb : C * 2 ^ g ≤ M * 2 ^ 187) : ∃ E T, UInt32.ofNat (FP.Core.encode FP.Core.b32 (FP.Core.round FP.Core.b32 (.fin false C ((g : Int) - 150)))) = fF E T ∧ T < 2 ^ 23 ∧ 60 ≤ E ∧ E ≤ 190 ∧ (2 ^ 23 + T) * 2 ^ E ≤ M * 2 ^ 187 := by
  have h0 : C ≠ 0 := by omega
  have k1 := Nat.log2_self_le h0
  have k2 : C < 2 ^ (C.log2 + 1) := Nat.lt_log2_self
  generalize C.log2 = k at k1 k2
  have k3 : 23 ≤ k := by
    refine Nat.le_of_not_lt fun hc => ?_
    have : 2 ^ (k + 1) ≤ 2 ^ 23 := Nat.pow_le_pow_right (by decide) (by omega)
    omega
  have k4 : k + g ≤ 207 := by
    refine Nat.le_of_not_lt fun hc => ?_
    have a1 : 2 ^ 208 ≤ 2 ^ (k + g) := Nat.pow_le_pow_right (by decide) (by omega)
    have a2 : 2 ^ k * 2 ^ g ≤ C * 2 ^ g := Nat.mul_le_mul_right _ k1
    rw [← Nat.pow_add] at a2
    have a3 : M * 2 ^ 187 ≤ 2 ^ 20 * 2 ^ 187 := Nat.mul_le_mul_right _ hM
    rw [← Nat.pow_add] at a3
    have a4 : (2 : Nat) ^ 208 ≤ 2 ^ (20 + 187) := Nat.le_trans a1 (Nat.le_trans a2 (Nat.le_trans hb a3))
    exact absurd a4 (by decide)
  obtain ⟨E', T', m, n, e, m1, m2, m3, _⟩ := fl_out k1 k2 (q := (g : Int) - 150) (by omega) (by omega)
  rw [show ((k : Int) + ((g : Int) - 150) - 23 + 149).toNat = k + g - 24 by omega] at e
  have n2 := n.2.1
  have bd : m ≤ M * 2 ^ (187 - (k + g - 23)) := by
    refine m3 _ ?_
    rw [show 23 - k = 0 by omega, Nat.pow_zero, Nat.mul_one, Nat.mul_assoc, ← Nat.pow_add]
    refine Nat.le_of_mul_le_mul_right ?_ (Nat.pow_pos (n := g) (show 0 < 2 by decide))
    rw [Nat.mul_assoc M, ← Nat.pow_add, show 187 - (k + g - 23) + (k - 23) + g = 187 by omega]
    exact hb
  have val : (2 ^ 23 + T') * 2 ^ E' = m * 2 ^ (k + g - 23) := by
    by_cases c : m = 2 ^ 24
    · have e1 : E' = k + g - 23 + 1 := by omega
      have e2 : T' = 0 := by omega
      rw [e1, e2, c, Nat.add_zero, show 2 ^ (k + g - 23 + 1) = 2 ^ (k + g - 23) * 2 from Nat.pow_succ ..]
      generalize 2 ^ (k + g - 23) = X
      omega
    · have e1 : E' = k + g - 23 := by omega
      have e2 : 2 ^ 23 + T' = m := by omega
      rw [e1, e2]
  refine ⟨E', T', fl_fF n, n2, by omega, by omega, ?_⟩
  rw [val]
  have := Nat.mul_le_mul_right (2 ^ (k + g - 23)) bd
  rw [Nat.mul_assoc, ← Nat.pow_add, show 187 - (k + g - 23) + (k + g - 23) = 187 by omega] at this
  exact this
theorem sf_pos (C : Nat) : FP.Core.sumSign false false (C : Int) = false := by
  unfold FP.Core.sumSign
  by_cases c : (C : Int) = 0
  · rw [if_pos c]; rfl
  · rw [if_neg c]
    exact decide_eq_false (by omega)
theorem sf_add0 {E T : Nat} (h1 : 60 ≤ E) (h2 : E ≤ 190) (hT : T < 2 ^ 23) : FP.fadd FP.fconst0 (fF E T) = fF E T := by
  show UInt32.ofNat (FP.Core.add FP.Core.b32 (FP.fconst0).toNat _) = _
  unfold FP.Core.add
  rw [fF_d (by omega) (by omega) hT, show (FP.fconst0 : UInt32).toNat = 0 by decide, fg_dec0 gB32]
  unfold FP.Core.exactSum
  dsimp only
  rw [b32q]
  have hm : min (-149 : Int) ((E : Int) - 150) = -149 := by omega
  have hs : FP.Core.sumUnits false 0 (-149 : Int) false (2 ^ 23 + T) ((E : Int) - 150) (-149) = (((2 ^ 23 + T) * 2 ^ (E - 1) : Nat) : Int) := by
    unfold FP.Core.sumUnits FP.Core.inUnits FP.Core.signed
    simp only [Bool.false_eq_true, if_false]
    rw [show ((E : Int) - 150 - -149).toNat = E - 1 by omega, Nat.zero_mul]
    omega
  rw [hm, hs, Int.natAbs_natCast, sf_pos]
  unfold fF
  congr 1
  refine fg_ex gB32 (k := E + 22) ?_ ?_ ?_ (by omega) (by omega) ?_
  · rw [show E + 22 = 23 + (E - 1) by omega, Nat.pow_add]
    exact Nat.mul_le_mul_right _ (by omega)
  · rw [show E + 22 + 1 = 24 + (E - 1) by omega, Nat.pow_add]
    exact Nat.mul_lt_mul_of_pos_right (by omega) (Nat.pow_pos (by decide))
  · omega
  · rw [show 23 - (E + 22) = 0 by omega, show E + 22 - 23 = E - 1 by omega, Nat.pow_zero, Nat.mul_one]
theorem sf_add {E T F U : Nat} (h1 : 60 ≤ E) (h2 : E ≤ 190) (hT : T < 2 ^ 23) (h3 : 60 ≤ F) (h4 : F ≤ 190) (hU : U < 2 ^ 23) : FP.fadd (fF E T) (fF F U) = UInt32.ofNat (FP.Core.encode FP.Core.b32 (FP.Core.round FP.Core.b32 (.fin false ((2 ^ 23 + T) * 2 ^ (E - min E F) + (2 ^ 23 + U) * 2 ^ (F - min E F)) ((min E F : Nat) - 150 : Int)))) := by
  show UInt32.ofNat (FP.Core.add FP.Core.b32 _ _) = _
  unfold FP.Core.add
  rw [fF_d (by omega) (by omega) hT, fF_d (by omega) (by omega) hU]
  unfold FP.Core.exactSum
  dsimp only
  have hm : min ((E : Int) - 150) ((F : Int) - 150) = ((min E F : Nat) : Int) - 150 := by omega
  have hs : FP.Core.sumUnits false (2 ^ 23 + T) ((E : Int) - 150) false (2 ^ 23 + U) ((F : Int) - 150) (((min E F : Nat) : Int) - 150) = (((2 ^ 23 + T) * 2 ^ (E - min E F) + (2 ^ 23 + U) * 2 ^ (F - min E F) : Nat) : Int) := by
    unfold FP.Core.sumUnits FP.Core.inUnits FP.Core.signed
    simp only [Bool.false_eq_true, if_false]
    rw [show ((E : Int) - 150 - (((min E F : Nat) : Int) - 150)).toNat = E - min E F by omega, show ((F : Int) - 150 - (((min E F : Nat) : Int) - 150)).toNat = F - min E F by omega]
    exact (Int.natCast_add _ _).symm
  rw [hm, hs, Int.natAbs_natCast]
  generalize (2 ^ 23 + T) * 2 ^ (E - min E F) + (2 ^ 23 + U) * 2 ^ (F - min E F) = C
  rw [sf_pos]
theorem SF_step {M d : Nat} {s p : UInt32} (h : SF M s) (hp : PF d p) (hd : d ≤ 18) (hM : M < 2 ^ 20) : SF (M + 1) (FP.fadd s p) := by
  obtain ⟨F, U, e, hU, f1, f2⟩ := hp
  subst e
  have pb : (2 ^ 23 + U) * 2 ^ F ≤ 2 ^ 187 := by
    have a1 : 2 ^ F ≤ 2 ^ 163 := Nat.pow_le_pow_right (by decide) (by omega)
    have a2 : (2 ^ 23 + U) * 2 ^ F ≤ 2 ^ 24 * 2 ^ 163 := Nat.mul_le_mul (by omega) a1
    rw [← Nat.pow_add] at a2
    exact a2
  rcases h with e | ⟨E, T, e, hT, h1, h2, h3⟩
  · subst e
    rw [sf_add0 (by omega) (by omega) hU]
    refine Or.inr ⟨F, U, rfl, hU, by omega, by omega, Nat.le_trans pb ?_⟩
    exact Nat.le_mul_of_pos_left _ (by omega)
  · subst e
    rw [sf_add h1 h2 hT (by omega) (by omega) hU]
    have key := sf_bound h3 pb (min E F) (Nat.min_le_left _ _) (Nat.min_le_right _ _)
    have lo : 2 ^ 23 ≤ (2 ^ 23 + T) * 2 ^ (E - min E F) + (2 ^ 23 + U) * 2 ^ (F - min E F) := by
      have : (2 ^ 23 + T) * 1 ≤ (2 ^ 23 + T) * 2 ^ (E - min E F) := Nat.mul_le_mul_left _ (Nat.pow_pos (by decide))
      omega
    exact Or.inr (sf_round lo (by omega) (by omega) key)
