/-! CENTRE: the answer -/
theorem hlFq_of {x : UInt32} (h : hlFq x = true) : nn32 x = true ∧ B_ofFloat x = some (J_Float_floatToIntBits x) := by
  unfold hlFq at h
  rw [Bool.and_eq_true, decide_eq_true_eq, decide_eq_true_eq] at h
  obtain ⟨h1, h2⟩ := h
  have e1 : 1 ≤ x.toNat / 2 ^ 23 := by omega
  have e2 : x.toNat / 2 ^ 23 ≤ 254 := by omega
  have e3 : x.toNat % 2 ^ 23 < 2 ^ 23 := Nat.mod_lt _ (by decide)
  have e4 : fl_N x (x.toNat / 2 ^ 23) (x.toNat % 2 ^ 23) := ⟨by omega, e3, e1, e2⟩
  refine ⟨fl_nn e4, ?_⟩
  rw [fl_fF e4, fF_of e1 e2 e3, fF_ib e1 e2 e3]
theorem ce_line {a : Int32} {k : Nat} (hk : k < 36) : (if a = (0:Int32) then (nI k / (6:Int32)) else (nI k - nI k / (6:Int32) * (6:Int32))) = nI (lF a k) := by
  unfold lF
  by_cases c : a = 0
  · rw [if_pos c, if_pos c, div6 hk]
  · rw [if_neg c, if_neg c, mod6 hk]
theorem ce_loop (a : Int32) (w : Int64) : ∃ n, cnt (b6 w) 36 ≤ n ∧ n ≤ 11 * 36 ∧ wh (X_centre_s32 a w) FU (FP.fconst0, (0:Int32)) = some (hlF n) ∧ wh (M_centre_s27 a w) FU (FP.fconst0, (0:Int32)) = some (hlF n) := by
  obtain ⟨r, h1, h2, n, e, n1, n2⟩ := wh_both (st1 := X_centre_s32 a w) (st2 := M_centre_s27 a w) (B := fun r => ∃ n, r = hlF n ∧ cnt (b6 w) 36 ≤ n ∧ n ≤ 11 * 36) (fun m s => ∃ k n, k + m = 36 ∧ s = (hlF n, nI k) ∧ cnt (b6 w) k ≤ n ∧ n ≤ 11 * k) (fun m s ⟨k, n, hk, e, n1, n2⟩ => by
    subst e
    rcases Nat.lt_or_ge k 36 with q | q
    · right
      have g : ¬ (36 : Int32) ≤ nI k := nI_ge (a := k) (b := 36) q (by decide)
      have cs : cnt (b6 w) (k + 1) = cnt (b6 w) k + (if b6 w k then 1 else 0) := rfl
      unfold X_centre_s32 M_centre_s27
      dsimp only
      rw [if_neg g, if_neg g, has_eq (by omega), holds_eq q]
      cases hb : b6 w k with
      | false =>
        rw [hb] at cs
        rw [if_pos (show bI false = 0 from rfl), if_pos (show bI false = 0 from rfl)]
        refine ⟨m - 1, _, by omega, rfl, rfl, k + 1, n, by omega, ?_, ?_, by omega⟩
        · rw [← nI_1]
        · rw [cs]; simpa using n1
      | true =>
        rw [hb] at cs
        have ll : lF a k < 6 := by
          unfold lF
          split <;> omega
        obtain ⟨a1, a2, a3⟩ := hlF_add n (by omega) (lF a k) ll
        rw [if_neg (show ¬ bI true = 0 by decide), if_neg (show ¬ bI true = 0 by decide), ce_line q, a1, grd_t a2, grd_t a3, grd_t a2, grd_t a3]
        refine ⟨m - 1, _, by omega, rfl, rfl, k + 1, n + (2 * lF a k + 1), by omega, ?_, ?_, by omega⟩
        · rw [← nI_1]
        · rw [cs, if_pos rfl]; omega
    · left
      have e : k = 36 := by omega
      subst e
      refine ⟨hlF n, ?_, ?_, n, rfl, n1, n2⟩
      · unfold X_centre_s32
        exact if_pos (show (36 : Int32) ≤ nI 36 by decide)
      · unfold M_centre_s27
        exact if_pos (show (36 : Int32) ≤ nI 36 by decide)) FU 36 (FP.fconst0, (0:Int32)) (by have := FU_big; omega) ⟨0, 0, rfl, rfl, Nat.le_refl 0, Nat.le_refl 0⟩
  subst e
  exact ⟨n, n1, n2, h1, h2⟩
theorem cnt_none {w : Int64} (h : R36 w) (hc : cnt (b6 w) 36 = 0) : w = 0 := by
  have z : ∀ n, cnt (b6 w) n = 0 → ∀ i, i < n → b6 w i = false := by
    intro n
    induction n with
    | zero => intro _ i hi; omega
    | succ n ih =>
      intro hn i hi
      have cs : cnt (b6 w) (n + 1) = cnt (b6 w) n + (if b6 w n then 1 else 0) := rfl
      rw [cs] at hn
      by_cases e : i = n
      · subst e
        cases hb : b6 w i with
        | false => rfl
        | true => rw [hb, if_pos rfl] at hn; omega
      · exact ih (by omega) i (by omega)
  refine b6_ext fun i hi => ?_
  rw [show b6 (0 : Int64) i = false from Nat.zero_testBit i]
  rcases Nat.lt_or_ge i 36 with q | q
  · exact z 36 hc i q
  · exact h i q
theorem cnt_zero0 (n : Nat) : cnt (b6 0) n = 0 := cnt_zero_all n (fun i _ => Nat.zero_testBit i)
theorem isBit_in (a : Int32) : (X_isBit a = 0 ∧ M_isIn a 0 1 = 0) ∨ (X_isBit a = 1 ∧ M_isIn a 0 1 = 1 ∧ (a = 0 ∨ a = 1)) := by
  by_cases c0 : a = 0
  · subst c0; exact Or.inr ⟨rfl, rfl, Or.inl rfl⟩
  by_cases c1 : a = 1
  · subst c1; exact Or.inr ⟨rfl, rfl, Or.inr rfl⟩
  left
  refine ⟨by unfold X_isBit; rw [if_neg c0, if_neg c1], ?_⟩
  have z : M_isIn a 0 1 = 0 ∨ M_isIn a 0 1 = 1 := by
    unfold M_isIn
    split
    · exact Or.inl rfl
    · split
      · exact Or.inl rfl
      · exact Or.inr rfl
  rcases z with z | z
  · exact z
  · obtain ⟨k, hk, e⟩ := nIc (n := 1) (by decide) z
    have : k = 0 ∨ k = 1 := by omega
    rcases this with e' | e'
    · subst e'; exact absurd e c0
    · subst e'; exact absurd e c1
theorem centre_eq (a : Int32) {w : Int64} (h : R36 w) : ∃ q, X_centre a w = some q ∧ M_centre a w = some q := by
  unfold X_centre M_centre
  rcases isBit_in a with ⟨e1, e2⟩ | ⟨e1, e2, _⟩
  · rw [if_pos e1, if_pos e2]
    exact ⟨_, rfl, rfl⟩
  · have i1 : ¬ X_isBit a = 0 := by rw [e1]; decide
    have i2 : ¬ M_isIn a 0 1 = 0 := by rw [e2]; decide
    rw [if_neg i1, if_neg i2, bitCount_36 h]
    by_cases c : w = 0
    · subst c
      rw [cnt_zero0, if_pos (show nI 0 = 0 from rfl), if_pos (show (0 : Int64) = 0 from rfl)]
      exact ⟨_, rfl, rfl⟩
    · have c0 : 0 < cnt (b6 w) 36 := Nat.pos_of_ne_zero (fun q => c (cnt_none h q))
      have c1 := cnt_le (b6 w) 36
      obtain ⟨n, n1, n2, l1, l2⟩ := ce_loop a w
      rw [if_neg (nI_ne0 c0 (by omega)), if_neg c, obE l1, obE l2, obE (cells_eq w)]
      obtain ⟨g1, g2⟩ := hlFq_of (hlF_div n (by omega) (cnt (b6 w) 36) (by omega) (by omega) c0)
      rw [grd_t g1, grd_t g1, obE g2]
      exact ⟨_, rfl, rfl⟩
