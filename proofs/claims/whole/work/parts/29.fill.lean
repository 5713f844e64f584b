/-! fill -/
def inB (r1 r2 c1 c2 i : Nat) : Bool := decide (i < 36 ∧ r1 ≤ i / 6 ∧ i / 6 < r2 ∧ c1 ≤ i % 6 ∧ i % 6 < c2)
/-- the bits of a block set to b -/
def isB (w w0 : Int64) (b : Bool) (p : Nat → Bool) : Prop := ∀ i, i < 64 → b6 w i = if p i then b else b6 w0 i
theorem div6 {k : Nat} (hk : k < 36) : nI k / (6:Int32) = nI (k / 6) := pk_div (by omega) (by decide) (by decide)
theorem mod6 {k : Nat} (hk : k < 36) : nI k - nI k / (6:Int32) * (6:Int32) = nI (k % 6) := pk_rem (by omega) (by decide) (by decide)
theorem six_mul (r c : Nat) : (6:Int32) * nI r + nI c = nI (6 * r + c) := by
  rw [show (6 : Int32) * nI r = nI (6 * r) from pk_mul 6 r, nI_add]
theorem mul_six (r c : Nat) : nI r * (6:Int32) + nI c = nI (6 * r + c) := by
  rw [show nI r * (6 : Int32) = nI (r * 6) from pk_mul r 6, nI_add, Nat.mul_comm]
/-- a row of cells, and all rows, of the reference -/
theorem filled_row {t : Nat} (ht : t < 36) (b : Bool) {r c1 : Nat} (hr : r < 6) (hc : c1 ≤ t % 6 + 1) (w : Int64) : ∃ w', wh (M_filled_s27 (nI t) (bI b) (nI r)) FU (w, nI c1) = some w' ∧ isB w' w b (inB r (r + 1) c1 (t % 6 + 1)) := by
  refine wh_tot (fun m s => ∃ j, j + m = t % 6 + 1 ∧ c1 ≤ j ∧ s.2 = nI j ∧ isB s.1 w b (inB r (r + 1) c1 j)) ?_ FU (t % 6 + 1 - c1) (w, nI c1) (by have := FU_big; omega) ⟨c1, by omega, Nat.le_refl _, rfl, ?_⟩
  · intro m s hI
    obtain ⟨j, hj, hcj, e, hb⟩ := hI
    obtain ⟨x, y⟩ := s
    dsimp only at e hb
    subst e
    unfold M_filled_s27
    dsimp only
    rw [mod6 ht]
    rcases Nat.lt_or_ge j (t % 6 + 1) with q | q
    · right
      rw [if_neg (nI_nlt (a := t % 6) (b := j) (by omega) (by omega)), six_mul, nI_1]
      refine ⟨m - 1, _, by omega, rfl, j + 1, by omega, by omega, rfl, fun i hi => ?_⟩
      dsimp only
      have eP : inB r (r + 1) c1 (j + 1) i = (inB r (r + 1) c1 j i || decide (i = 6 * r + j)) := by
        unfold inB
        rw [Bool.eq_iff_iff]
        simp only [decide_eq_true_eq, Bool.or_eq_true]
        omega
      rw [eP]
      cases b with
      | true =>
        rw [if_neg (show ¬ bI true = 0 by decide), b6_or, b6_bit (by omega) hi, hb i hi]
        cases inB r (r + 1) c1 j i <;> simp [Bool.or_comm]
      | false =>
        rw [if_pos (show bI false = 0 by decide), b6_and, b6_not _ hi, b6_bit (by omega) hi, hb i hi]
        cases inB r (r + 1) c1 j i
        · by_cases q2 : i = 6 * r + j <;> simp [q2]
        · simp
    · left
      have : j = t % 6 + 1 := by omega
      subst this
      rw [if_pos (nI_lt (by omega) (by omega))]
      exact ⟨x, rfl, hb⟩
  · intro i _
    have : inB r (r + 1) c1 c1 i = false := by
      unfold inB
      exact decide_eq_false (by omega)
    rw [this]
    rfl
theorem filled_eq {f t : Nat} (hf : f < 36) (ht : t < 36) (b : Bool) (h1 : f / 6 ≤ t / 6) (h2 : f % 6 ≤ t % 6) (w : Int64) : ∃ w', M_filled (nI f) (nI t) (bI b) w = some w' ∧ isB w' w b (inB (f / 6) (t / 6 + 1) (f % 6) (t % 6 + 1)) := by
  unfold M_filled
  rw [div6 hf]
  obtain ⟨w', e, h⟩ := wh_tot (st := M_filled_s12 (nI f) (nI t) (bI b)) (B := fun w' => isB w' w b (inB (f / 6) (t / 6 + 1) (f % 6) (t % 6 + 1))) (fun m s => ∃ j, j + m = t / 6 + 1 ∧ f / 6 ≤ j ∧ s.2 = nI j ∧ isB s.1 w b (inB (f / 6) j (f % 6) (t % 6 + 1))) (fun m s ⟨j, hj, hcj, e, hb⟩ => by
    obtain ⟨x, y⟩ := s
    dsimp only at e hb
    subst e
    unfold M_filled_s12
    dsimp only
    rw [div6 ht, mod6 hf]
    rcases Nat.lt_or_ge j (t / 6 + 1) with q | q
    · right
      obtain ⟨w2, e2, hb2⟩ := filled_row ht b (r := j) (c1 := f % 6) (by omega) (by omega) x
      rw [if_neg (nI_nlt (a := t / 6) (b := j) (by omega) (by omega)), e2, nI_1]
      refine ⟨m - 1, _, by omega, rfl, j + 1, by omega, by omega, rfl, fun i hi => ?_⟩
      dsimp only
      rw [hb2 i hi, hb i hi]
      have eP : inB (f / 6) (j + 1) (f % 6) (t % 6 + 1) i = (inB (f / 6) j (f % 6) (t % 6 + 1) i || inB j (j + 1) (f % 6) (t % 6 + 1) i) := by
        unfold inB
        rw [Bool.eq_iff_iff]
        simp only [decide_eq_true_eq, Bool.or_eq_true]
        omega
      rw [eP]
      cases inB (f / 6) j (f % 6) (t % 6 + 1) i <;> cases inB j (j + 1) (f % 6) (t % 6 + 1) i <;> rfl
    · left
      have : j = t / 6 + 1 := by omega
      subst this
      rw [if_pos (nI_lt (by omega) (by omega))]
      exact ⟨x, rfl, hb⟩) FU (t / 6 + 1 - f / 6) (w, nI (f / 6)) (by have := FU_big; omega) ⟨f / 6, by omega, Nat.le_refl _, rfl, fun i _ => by
    have : inB (f / 6) (f / 6) (f % 6) (t % 6 + 1) i = false := by
      unfold inB
      exact decide_eq_false (by omega)
    rw [this]
    rfl⟩
  exact ⟨w', wbind e, h⟩
/-- the class's block -/
theorem block_row {t : Nat} (ht : t < 36) {r c1 : Nat} (hr : r < 6) (hc : c1 < 6) (w : Int64) : ∃ w', wh (G_block_s46 (nI t) (nI r)) FU (w, nI c1) = some w' ∧ isB w' w true (inB r (r + 1) c1 (t % 6 + 1)) := by
  rcases Nat.lt_or_ge (t % 6) c1 with q0 | q0
  · have := wh_for (st := G_block_s46 (nI t) (nI r)) (r := w) (fun _ => (w, nI c1)) 0 (fun k hk => absurd hk (Nat.not_lt_zero _)) (by
      unfold G_block_s46
      dsimp only
      rw [mod6 ht, if_pos (nI_lt q0 (by omega))]) (by decide)
    refine ⟨w, this, fun i _ => ?_⟩
    have : inB r (r + 1) c1 (t % 6 + 1) i = false := by
      unfold inB
      exact decide_eq_false (by omega)
    rw [this]
    rfl
  refine wh_tot (fun m s => ∃ j, j + m = t % 6 + 1 ∧ c1 ≤ j ∧ s.2 = nI j ∧ isB s.1 w true (inB r (r + 1) c1 j)) ?_ FU (t % 6 + 1 - c1) (w, nI c1) (by have := FU_big; omega) ⟨c1, by omega, Nat.le_refl _, rfl, ?_⟩
  · intro m s hI
    obtain ⟨j, hj, hcj, e, hb⟩ := hI
    obtain ⟨x, y⟩ := s
    dsimp only at e hb
    subst e
    unfold G_block_s46
    dsimp only
    rw [mod6 ht]
    rcases Nat.lt_or_ge j (t % 6 + 1) with q | q
    · right
      rw [if_neg (nI_nlt (a := t % 6) (b := j) (by omega) (by omega)), if_neg (show ¬ (6 : Int32) ≤ nI j from nI_ge (a := j) (b := 6) (by omega) (by decide)), mul_six, nI_1]
      refine ⟨m - 1, _, by omega, rfl, j + 1, by omega, by omega, rfl, fun i hi => ?_⟩
      dsimp only
      have eP : inB r (r + 1) c1 (j + 1) i = (inB r (r + 1) c1 j i || decide (i = 6 * r + j)) := by
        unfold inB
        rw [Bool.eq_iff_iff]
        simp only [decide_eq_true_eq, Bool.or_eq_true]
        omega
      rw [eP, b6_or, b6_bit (by omega) hi, hb i hi]
      cases inB r (r + 1) c1 j i <;> simp [Bool.or_comm]
    · left
      have : j = t % 6 + 1 := by omega
      subst this
      rw [if_pos (nI_lt (by omega) (by omega))]
      exact ⟨x, rfl, hb⟩
  · intro i _
    have : inB r (r + 1) c1 c1 i = false := by
      unfold inB
      exact decide_eq_false (by omega)
    rw [this]
    rfl
theorem block_eq {f t : Nat} (hf : f < 36) (ht : t < 36) : ∃ w', G_block (nI f) (nI t) = some w' ∧ isB w' 0 true (inB (f / 6) (t / 6 + 1) (f % 6) (t % 6 + 1)) := by
  unfold G_block
  rw [show G_isCell (nI f) = 1 from (by decide : ∀ k, k < 36 → G_isCell (nI k) = 1) f hf, show G_isCell (nI t) = 1 from (by decide : ∀ k, k < 36 → G_isCell (nI k) = 1) t ht, if_neg (show ¬ (1 : Int32) = 0 by decide), if_neg (show ¬ (1 : Int32) = 0 by decide), div6 hf]
  rcases Nat.lt_or_ge (t / 6) (f / 6) with q0 | q0
  · have := wh_for (st := G_block_s24 (nI f) (nI t)) (r := 0) (fun _ => (0, nI (f / 6))) 0 (fun k hk => absurd hk (Nat.not_lt_zero _)) (by
      unfold G_block_s24
      dsimp only
      rw [div6 ht, if_pos (nI_lt q0 (by omega))]) (by decide)
    refine ⟨0, wbind this, fun i _ => ?_⟩
    have : inB (f / 6) (t / 6 + 1) (f % 6) (t % 6 + 1) i = false := by
      unfold inB
      exact decide_eq_false (by omega)
    rw [this]
    rfl
  obtain ⟨w', e, h⟩ := wh_tot (st := G_block_s24 (nI f) (nI t)) (B := fun w' => isB w' 0 true (inB (f / 6) (t / 6 + 1) (f % 6) (t % 6 + 1))) (fun m s => ∃ j, j + m = t / 6 + 1 ∧ f / 6 ≤ j ∧ s.2 = nI j ∧ isB s.1 0 true (inB (f / 6) j (f % 6) (t % 6 + 1))) (fun m s ⟨j, hj, hcj, e, hb⟩ => by
    obtain ⟨x, y⟩ := s
    dsimp only at e hb
    subst e
    unfold G_block_s24
    dsimp only
    rw [div6 ht, mod6 hf]
    rcases Nat.lt_or_ge j (t / 6 + 1) with q | q
    · right
      obtain ⟨w2, e2, hb2⟩ := block_row ht (r := j) (c1 := f % 6) (by omega) (by omega) x
      rw [if_neg (nI_nlt (a := t / 6) (b := j) (by omega) (by omega)), if_neg (show ¬ (6 : Int32) ≤ nI j from nI_ge (a := j) (b := 6) (by omega) (by decide)), e2, nI_1]
      refine ⟨m - 1, _, by omega, rfl, j + 1, by omega, by omega, rfl, fun i hi => ?_⟩
      dsimp only
      rw [hb2 i hi, hb i hi]
      have eP : inB (f / 6) (j + 1) (f % 6) (t % 6 + 1) i = (inB (f / 6) j (f % 6) (t % 6 + 1) i || inB j (j + 1) (f % 6) (t % 6 + 1) i) := by
        unfold inB
        rw [Bool.eq_iff_iff]
        simp only [decide_eq_true_eq, Bool.or_eq_true]
        omega
      rw [eP]
      cases inB (f / 6) j (f % 6) (t % 6 + 1) i <;> cases inB j (j + 1) (f % 6) (t % 6 + 1) i <;> rfl
    · left
      have : j = t / 6 + 1 := by omega
      subst this
      rw [if_pos (nI_lt (by omega) (by omega))]
      exact ⟨x, rfl, hb⟩) FU (t / 6 + 1 - f / 6) (0, nI (f / 6)) (by have := FU_big; omega) ⟨f / 6, by omega, Nat.le_refl _, rfl, fun i _ => by
    have : inB (f / 6) (f / 6) (f % 6) (t % 6 + 1) i = false := by
      unfold inB
      exact decide_eq_false (by omega)
    rw [this]
    rfl⟩
  exact ⟨w', wbind e, h⟩
/-- the class's set or cleared block is the reference's -/
theorem with_eq {w blk w' : Int64} {b : Bool} {p : Nat → Bool} (h1 : isB blk 0 true p) (h2 : isB w' w b p) : G_with w blk (bI b) = w' := by
  refine b6_ext (fun i hi => ?_)
  have e1 := h1 i hi
  rw [b6_0] at e1
  unfold G_with
  cases b with
  | true =>
    rw [if_neg (show ¬ bI true = 0 by decide), b6_or, e1, h2 i hi]
    cases p i <;> simp
  | false =>
    rw [if_pos (show bI false = 0 by decide), b6_and, b6_not _ hi, e1, h2 i hi]
    cases p i <;> simp
theorem R36_isB {w w' : Int64} {b : Bool} {r1 r2 c1 c2 : Nat} (h : R36 w) (h2 : isB w' w b (inB r1 r2 c1 c2)) : R36 w' := R36_ext (fun i i1 i2 => by
  rw [h2 i i2, h i i1]
  have : inB r1 r2 c1 c2 i = false := by
    unfold inB
    exact decide_eq_false (by omega)
  rw [this]
  rfl)
