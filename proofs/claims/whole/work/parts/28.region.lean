/-! the region changes: cell, fill, mirror -/
theorem b6_bit {k : Nat} (hk : k < 64) {i : Nat} (hi : i < 64) : b6 ((1:Int64) <<< ((nI k).toInt64 &&& 63)) i = decide (i = k) := by
  rw [b6_shl k hk 1 hi, b6_1]
  by_cases h : i = k
  · subst h; simp
  · by_cases h2 : k ≤ i
    · have : ¬ i - k = 0 := by omega
      simp [h, h2, this]
    · simp [h, h2]
theorem b6_not (x : Int64) {i : Nat} (hi : i < 64) : b6 (x ^^^ (-1)) i = !b6 x i := by
  rw [b6_xor, b6_m1 i hi]
  cases b6 x i <;> rfl
theorem R36_ext {w : Int64} (h : ∀ i, 36 ≤ i → i < 64 → b6 w i = false) : R36 w := fun i hi => by
  rcases Nat.lt_or_ge i 64 with q | q
  · exact h i hi q
  · exact b6_big q
section RGN
variable {rg mrg : Int64} {ld ps pl ss es gs : Int32} {mt pw so sq eo eq go gq ms ms' : Nat → Int32}
theorem clK_ne {k j : Nat} (h0 : j ≠ 0) (h : j < 6 ∨ 6 + k ≤ j) : clK ms k j = ms j := by
  unfold clK
  rw [if_neg h0, if_neg (by omega)]
theorem M_becomes_eq (w : Int64) : M_becomes w mrg ms = some (w, if w = mrg then ms else clK ms 36) := by
  unfold M_becomes
  by_cases h : w = mrg
  · rw [if_pos h, if_pos h]; rfl
  · rw [if_neg h, if_neg h, M_clears_eq]; rfl
theorem S_become_eq (w : Int64) : S_become w rg ld = some (w, if w = rg then ld else 0) := by
  unfold S_become
  by_cases h : w = rg
  · rw [if_pos h, if_pos h, h]; rfl
  · rw [if_neg h, if_neg h]; rfl
theorem St_become (w : Int64) (hw : R36 w) (h : St rg ld mt ps pl pw ss so sq es eo eq gs go gq mrg ms) : St w (if w = rg then ld else 0) mt ps pl pw ss so sq es eo eq gs go gq w (if w = mrg then ms else clK ms 36) := by
  have e := h.1.1
  subst e
  by_cases c : w = mrg
  · rw [if_pos c, if_pos c, c]
    exact h
  · rw [if_neg c, if_neg c]
    refine St_tile h ⟨rfl, hw⟩ (Or.inl ⟨rfl, rfl, fun c hc => ?_⟩) (fun j q1 q2 => clK_ne q1 q2)
    unfold clK
    rw [if_neg (by omega), if_pos (by omega)]
theorem bitNe {w : Int64} {k : Nat} (hk : k < 64) (h : b6 w k = false) : ¬ w ^^^ ((1:Int64) <<< ((nI k).toInt64 &&& 63)) = w := fun q => by
  have := congrArg (fun x => b6 x k) q
  simp only [b6_xor, b6_bit hk hk, h] at this
  simp at this
theorem bitNe1 {w : Int64} {k : Nat} (hk : k < 64) (h : b6 w k = true) : ¬ w ^^^ ((1:Int64) <<< ((nI k).toInt64 &&& 63)) = w := fun q => by
  have := congrArg (fun x => b6 x k) q
  simp only [b6_xor, b6_bit hk hk, h] at this
  simp at this
theorem R36_xor {w : Int64} (hw : R36 w) {k : Nat} (hk : k < 36) : R36 (w ^^^ ((1:Int64) <<< ((nI k).toInt64 &&& 63))) := R36_ext (fun i h1 h2 => by
  rw [b6_xor, hw i h1, b6_bit (by omega) h2]
  have : ¬ i = k := by omega
  simp [this])
theorem p_cell (a b : Int32) (h : St rg ld mt ps pl pw ss so sq es eo eq gs go gq mrg ms) : ∃ q, X_cell a b rg ld = some q ∧ ∃ q', M_cell a b mrg ms = some q' ∧ q'.1 = q.1 ∧ St q.2.1 q.2.2 mt ps pl pw ss so sq es eo eq gs go gq q'.2.1 q'.2.2 := by
  have e := h.1.1
  have hw := h.1.2
  subst e
  unfold X_cell M_cell M_isCell G_isCell X_isBit
  rcases tri a (m := 35) (m1 := 36) (n := 35) rfl rfl (by decide) with ⟨x1, x2, x3⟩ | ⟨x1, x2, x3, x4, x5, x6, x7⟩ | ⟨k, hk, ek, x1, x2, x3, x4, x5, x6, x7⟩
  · rw [if_pos x1, if_pos x3]
    exact ⟨_, rfl, _, rfl, rfl, h⟩
  · rw [if_neg x1, if_pos x5, if_pos x7]
    exact ⟨_, rfl, _, rfl, rfl, h⟩
  rw [if_neg x1, if_neg x5, x7, if_neg (show ¬ (1 : Int32) = 0 by decide), if_neg (show ¬ (1 : Int32) = 0 by decide)]
  rcases tri b (m := 1) (m1 := 2) (n := 1) rfl rfl (by decide) with ⟨y1, y2, y3⟩ | ⟨y1, y2, y3, y4, y5, y6, y7⟩ | ⟨j, hj, ej, y1, y2, y3, y4, y5, y6, y7⟩
  · rw [if_neg (show ¬ b = 0 from fun q => y2 (by rw [q]; decide)), if_neg (show ¬ b = 1 from fun q => y2 (by rw [q]; decide)), if_pos rfl, if_pos y3]
    exact ⟨_, rfl, _, rfl, rfl, h⟩
  · rw [if_neg (show ¬ b = 0 from fun q => y3 (by rw [q]; decide)), if_neg (show ¬ b = 1 from fun q => y3 (by rw [q]; decide)), if_pos rfl, if_pos y7]
    exact ⟨_, rfl, _, rfl, rfl, h⟩
  rw [y7, if_neg (show ¬ (1 : Int32) = 0 by decide), ek, has_eq (by omega), bI_bI, holds_eq (by omega), bit_bI]
  have eb : ¬ (if b = (0:Int32) then (1:Int32) else if b = 1 then 1 else 0) = 0 := by
    rcases (show j = 0 ∨ j = 1 by omega) with q | q <;> subst q <;> rw [ej] <;> decide
  rw [if_neg eb, M_becomes_eq]
  have fin : ∀ w, R36 w → G_with mrg ((1:Int64) <<< ((nI k).toInt64 &&& 63)) (if b = 1 then 1 else 0) = w → (bI (b6 mrg k) = b ∧ w = mrg ∨ ¬ bI (b6 mrg k) = b ∧ w = mrg ^^^ ((1:Int64) <<< ((nI k).toInt64 &&& 63))) → ∃ q, (Option.bind (S_become (G_with mrg ((1:Int64) <<< ((nI k).toInt64 &&& 63)) (if b = 1 then 1 else 0)) mrg ld) (fun q4 => some (bI (b6 mrg k), q4.1, q4.2))) = some q ∧ ∃ q', (if bI (b6 mrg k) = b then (M_cell_j52 (bI (b6 mrg k)) mrg ms) else (Option.bind (some (mrg ^^^ ((1:Int64) <<< ((nI k).toInt64 &&& 63)), if mrg ^^^ ((1:Int64) <<< ((nI k).toInt64 &&& 63)) = mrg then ms else clK ms 36)) (fun q5 => M_cell_j52 (bI (b6 mrg k)) q5.1 q5.2))) = some q' ∧ q'.1 = q.1 ∧ St q.2.1 q.2.2 mt ps pl pw ss so sq es eo eq gs go gq q'.2.1 q'.2.2 := by
    intro w hR hG hc
    rw [hG, S_become_eq]
    have hS := St_become w hR h
    rcases hc with ⟨c, e⟩ | ⟨c, e⟩
    · rw [if_pos c]
      refine ⟨_, rfl, _, rfl, rfl, ?_⟩
      subst e
      rw [if_pos rfl] at hS ⊢
      rw [if_pos rfl] at hS
      exact hS
    · rw [if_neg c]
      refine ⟨_, rfl, _, rfl, rfl, ?_⟩
      subst e
      exact hS
  rcases (show j = 0 ∨ j = 1 by omega) with q | q <;> subst q <;> subst ej
  · refine fin _ ?_ rfl ?_
    · refine R36_ext (fun i h1 h2 => ?_)
      unfold G_with
      rw [if_neg (show ¬ nI 0 = 1 by decide), if_pos rfl, b6_and, hw i h1, Bool.false_and]
    · cases hb : b6 mrg k with
      | false =>
        left
        refine ⟨rfl, b6_ext (fun i hi => ?_)⟩
        unfold G_with
        rw [if_neg (show ¬ nI 0 = 1 by decide), if_pos rfl, b6_and, b6_not _ hi, b6_bit (by omega) hi]
        by_cases q : i = k
        · subst q; simp [hb]
        · simp [q]
      | true =>
        right
        refine ⟨by decide, b6_ext (fun i hi => ?_)⟩
        unfold G_with
        rw [if_neg (show ¬ nI 0 = 1 by decide), if_pos rfl, b6_and, b6_not _ hi, b6_xor, b6_bit (by omega) hi]
        by_cases q : i = k
        · subst q; simp [hb]
        · simp [q]
  · refine fin _ ?_ rfl ?_
    · refine R36_ext (fun i h1 h2 => ?_)
      unfold G_with
      rw [if_pos (show nI 1 = 1 by decide), if_neg (show ¬ (1 : Int32) = 0 by decide), b6_or, hw i h1, b6_bit (by omega) h2]
      have : ¬ i = k := by omega
      simp [this]
    · cases hb : b6 mrg k with
      | true =>
        left
        refine ⟨rfl, b6_ext (fun i hi => ?_)⟩
        unfold G_with
        rw [if_pos (show nI 1 = 1 by decide), if_neg (show ¬ (1 : Int32) = 0 by decide), b6_or, b6_bit (by omega) hi]
        by_cases q : i = k
        · subst q; simp [hb]
        · simp [q]
      | false =>
        right
        refine ⟨by decide, b6_ext (fun i hi => ?_)⟩
        unfold G_with
        rw [if_pos (show nI 1 = 1 by decide), if_neg (show ¬ (1 : Int32) = 0 by decide), b6_or, b6_xor, b6_bit (by omega) hi]
        by_cases q : i = k
        · subst q; simp [hb]
        · simp [q]
end RGN
theorem mir_ix : ∀ k, k < 36 → (((nI k / (6:Int32)) * (6:Int32) + (6:Int32)) - (1:Int32)) - (nI k - nI k / (6:Int32) * (6:Int32)) = nI (k / 6 * 6 + 5 - k % 6) := by decide +kernel
theorem mirror_eq (w : Int64) : ∃ r, G_mirror w = some r ∧ M_mirrored w = some r ∧ R36 r := by
  unfold G_mirror M_mirrored
  obtain ⟨r, h1, h2, h3⟩ := wh_both (st1 := G_mirror_s5 w) (st2 := M_mirrored_s4 w) (B := R36) (fun m s => ∃ k, k + m = 36 ∧ s.2 = nI k ∧ R36 s.1) (fun m s ⟨k, hk, e, hr⟩ => by
    obtain ⟨x, y⟩ := s
    dsimp only at e hr
    subst e
    rcases Nat.lt_or_ge k 36 with q | q
    · right
      have g : ¬ (36 : Int32) ≤ nI k := nI_ge (a := k) (b := 36) q (by decide)
      refine ⟨m - 1, (if b6 w k then x ||| ((1:Int64) <<< ((nI (k / 6 * 6 + 5 - k % 6)).toInt64 &&& 63)) else x, nI (k + 1)), by omega, ?_, ?_, k + 1, by omega, rfl, ?_⟩
      · unfold G_mirror_s5
        dsimp only
        rw [if_neg g, holds_eq q, mir_ix k q, nI_1]
        cases b6 w k <;> rfl
      · unfold M_mirrored_s4
        dsimp only
        rw [if_neg g, has_eq (by omega), mir_ix k q, nI_1]
        cases b6 w k with
        | false =>
          show some (Sum.inl (x ||| 0, _)) = _
          rw [Int64.or_zero]
          rfl
        | true => rfl
      · refine R36_ext (fun i i1 i2 => ?_)
        show b6 (if b6 w k then _ else x) i = false
        cases b6 w k with
        | false => exact hr i i1
        | true =>
          show b6 (x ||| _) i = false
          rw [b6_or, hr i i1, b6_bit (by omega) i2]
          have : ¬ i = k / 6 * 6 + 5 - k % 6 := by omega
          simp [this]
    · have : k = 36 := by omega
      subst this
      left
      refine ⟨x, ?_, ?_, hr⟩
      · unfold G_mirror_s5
        dsimp only
        rw [if_pos (by decide)]
      · unfold M_mirrored_s4
        dsimp only
        rw [if_pos (by decide)]) FU 36 (0, 0) (by have := FU_big; omega) ⟨0, rfl, rfl, fun i _ => b6_0 i⟩
  exact ⟨r, wbind h1, wbind h2, h3⟩
