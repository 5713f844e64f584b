/-! TILINGS: LEAST and GREATEST laid down, from heights that differ by 1 or 3 over a side -/
def cu (c : Nat) : Nat := 7 * (c / 6) + c % 6
def i3 (z : Int) : Bool := decide (z = 3 ∨ z = -3)
def spR (w : Int64) (H : Nat → Int) (c : Nat) : Bool := decide (c % 6 < 5) && (b6 w c && b6 w (c + 1)) && i3 (H (cu c + 8) - H (cu c + 1))
def spB (w : Int64) (H : Nat → Int) (c : Nat) : Bool := decide (c < 30) && (b6 w c && b6 w (c + 6)) && i3 (H (cu c + 8) - H (cu c + 7))
theorem i3_t {z : Int} : i3 z = true ↔ z = 3 ∨ z = -3 := by unfold i3; exact decide_eq_true_iff
theorem spR_t {w : Int64} {H : Nat → Int} {c : Nat} : spR w H c = true ↔ c % 6 < 5 ∧ b6 w c = true ∧ b6 w (c + 1) = true ∧ (H (cu c + 8) - H (cu c + 1) = 3 ∨ H (cu c + 8) - H (cu c + 1) = -3) := by
  unfold spR
  rw [Bool.and_eq_true, Bool.and_eq_true, Bool.and_eq_true, i3_t, decide_eq_true_eq, and_assoc, and_assoc]
theorem spB_t {w : Int64} {H : Nat → Int} {c : Nat} : spB w H c = true ↔ c < 30 ∧ b6 w c = true ∧ b6 w (c + 6) = true ∧ (H (cu c + 8) - H (cu c + 7) = 3 ∨ H (cu c + 8) - H (cu c + 7) = -3) := by
  unfold spB
  rw [Bool.and_eq_true, Bool.and_eq_true, Bool.and_eq_true, i3_t, decide_eq_true_eq, and_assoc, and_assoc]
theorem fr_cell {w : Int64} {c : Nat} (hc : c < 36) : fr w (8 * (c / 6 + 1) + (c % 6 + 1)) = b6 w c ∧ tg_u (8 * (c / 6 + 1) + (c % 6 + 1)) = cu c := by
  constructor
  · unfold fr
    rw [decide_eq_true (by omega), Bool.true_and]
    congr 1
    omega
  · unfold tg_u cu
    omega
/-- round a cell: three sides 1, one side 3 -/
theorem ring4 {w : Int64} {H : Nat → Int} (hH : upZ w H) {c : Nat} (hc : c < 36) (hb : b6 w c = true) :
    ((H (cu c + 1) = H (cu c) + 1 ∨ H (cu c + 1) = H (cu c) - 3) ∧ (H (cu c + 8) = H (cu c + 1) + 1 ∨ H (cu c + 8) = H (cu c + 1) - 3) ∧ (H (cu c + 7) = H (cu c + 8) + 1 ∨ H (cu c + 7) = H (cu c + 8) - 3) ∧ (H (cu c) = H (cu c + 7) + 1 ∨ H (cu c) = H (cu c + 7) - 3)) ∨
    ((H (cu c) = H (cu c + 1) + 1 ∨ H (cu c) = H (cu c + 1) - 3) ∧ (H (cu c + 1) = H (cu c + 8) + 1 ∨ H (cu c + 1) = H (cu c + 8) - 3) ∧ (H (cu c + 8) = H (cu c + 7) + 1 ∨ H (cu c + 8) = H (cu c + 7) - 3) ∧ (H (cu c + 7) = H (cu c) + 1 ∨ H (cu c + 7) = H (cu c) - 3)) := by
  obtain ⟨e1, e2⟩ := fr_cell (w := w) hc
  rw [hb] at e1
  obtain ⟨h8, r0, r1, r2, r3, l1, l2, l3, l0⟩ := ring_tbl (tg_in (fr_Fr w) e1)
  rw [e2] at h8 r0 r1 r2 r3 l1 l2 l3 l0
  have up : ∀ v k, v < 49 → k < 4 → tg_G (fr w) 0 v k = true → H (tg_nx v k) = H v + 1 ∨ H (tg_nx v k) = H v - 3 := fun v k hv hk h => hH v k hv hk (by rw [tg_G0 _ hk] at h; exact h)
  cases hbl : tg_b (8 * (c / 6 + 1) + (c % 6 + 1)) with
  | false =>
    left
    have u0 := up (cu c) 0 (by omega) (by decide) (tg_U_r (by omega) (by decide) (by rw [r0]; exact e1) (by rw [r0]; exact hbl))
    have u1 := up (cu c + 1) 1 (by omega) (by decide) (tg_U_r (by omega) (by decide) (by rw [r1]; exact e1) (by rw [r1]; exact hbl))
    have u2 := up (cu c + 8) 2 (by omega) (by decide) (tg_U_r (by omega) (by decide) (by rw [r2]; exact e1) (by rw [r2]; exact hbl))
    have u3 := up (cu c + 7) 3 (by omega) (by decide) (tg_U_r (by omega) (by decide) (by rw [r3]; exact e1) (by rw [r3]; exact hbl))
    rw [tg_nx0] at u0
    rw [tg_nx1] at u1
    rw [tg_nx2, show cu c + 8 - 1 = cu c + 7 by omega] at u2
    rw [tg_nx3, Nat.add_sub_cancel] at u3
    exact ⟨u0, u1, u2, u3⟩
  | true =>
    right
    have u0 := up (cu c + 1) 2 (by omega) (by decide) (tg_U_l (by decide) (by rw [l1]; exact e1) (by rw [l1]; exact hbl))
    have u1 := up (cu c + 8) 3 (by omega) (by decide) (tg_U_l (by decide) (by rw [l2]; exact e1) (by rw [l2]; exact hbl))
    have u2 := up (cu c + 7) 0 (by omega) (by decide) (tg_U_l (by decide) (by rw [l3]; exact e1) (by rw [l3]; exact hbl))
    have u3 := up (cu c) 1 (by omega) (by decide) (tg_U_l (by decide) (by rw [l0]; exact e1) (by rw [l0]; exact hbl))
    rw [tg_nx2, Nat.add_sub_cancel] at u0
    rw [tg_nx3, show cu c + 8 - 7 = cu c + 1 by omega] at u1
    rw [tg_nx0] at u2
    rw [tg_nx1] at u3
    exact ⟨u0, u1, u2, u3⟩
/-- at most one of the sides of a cell -/
theorem sp_excl {w : Int64} {H : Nat → Int} (hH : upZ w H) {c : Nat} (hc : c < 36) : ¬ (spR w H c = true ∧ spB w H c = true) ∧ ¬ (spR w H c = true ∧ (0 < c % 6 ∧ spR w H (c - 1) = true)) ∧ ¬ (spR w H c = true ∧ (6 ≤ c ∧ spB w H (c - 6) = true)) ∧ ¬ (spB w H c = true ∧ (0 < c % 6 ∧ spR w H (c - 1) = true)) ∧ ¬ (spB w H c = true ∧ (6 ≤ c ∧ spB w H (c - 6) = true)) ∧ ¬ ((0 < c % 6 ∧ spR w H (c - 1) = true) ∧ (6 ≤ c ∧ spB w H (c - 6) = true)) := by
  have eL : 0 < c % 6 → spR w H (c - 1) = true → b6 w c = true ∧ (H (cu c + 7) - H (cu c) = 3 ∨ H (cu c + 7) - H (cu c) = -3) := fun h0 h => by
    obtain ⟨_, _, a, b⟩ := spR_t.mp h
    rw [show c - 1 + 1 = c by omega] at a
    rw [show cu (c - 1) + 8 = cu c + 7 by unfold cu; omega, show cu (c - 1) + 1 = cu c by unfold cu; omega] at b
    exact ⟨a, b⟩
  have eA : 6 ≤ c → spB w H (c - 6) = true → b6 w c = true ∧ (H (cu c + 1) - H (cu c) = 3 ∨ H (cu c + 1) - H (cu c) = -3) := fun h0 h => by
    obtain ⟨_, _, a, b⟩ := spB_t.mp h
    rw [show c - 6 + 6 = c by omega] at a
    rw [show cu (c - 6) + 8 = cu c + 1 by unfold cu; omega, show cu (c - 6) + 7 = cu c by unfold cu; omega] at b
    exact ⟨a, b⟩
  refine ⟨fun ⟨a, b⟩ => ?_, fun ⟨a, b0, b⟩ => ?_, fun ⟨a, b0, b⟩ => ?_, fun ⟨a, b0, b⟩ => ?_, fun ⟨a, b0, b⟩ => ?_, fun ⟨⟨a0, a⟩, b0, b⟩ => ?_⟩
  · obtain ⟨_, a1, _, a2⟩ := spR_t.mp a
    obtain ⟨_, _, _, b2⟩ := spB_t.mp b
    have := ring4 hH hc a1
    omega
  · obtain ⟨_, a1, _, a2⟩ := spR_t.mp a
    obtain ⟨_, b2⟩ := eL b0 b
    have := ring4 hH hc a1
    omega
  · obtain ⟨_, a1, _, a2⟩ := spR_t.mp a
    obtain ⟨_, b2⟩ := eA b0 b
    have := ring4 hH hc a1
    omega
  · obtain ⟨_, a1, _, a2⟩ := spB_t.mp a
    obtain ⟨_, b2⟩ := eL b0 b
    have := ring4 hH hc a1
    omega
  · obtain ⟨_, a1, _, a2⟩ := spB_t.mp a
    obtain ⟨_, b2⟩ := eA b0 b
    have := ring4 hH hc a1
    omega
  · obtain ⟨a1, a2⟩ := eL a0 a
    obtain ⟨_, b2⟩ := eA b0 b
    have := ring4 hH hc a1
    omega
/-- the mates when the cells below k are done -/
def lm (R B : Nat → Bool) (k x : Nat) : Int32 := if R x = true ∧ x < k then nI (x + 1) else if B x = true ∧ x < k then nI (x + 6) else if 0 < x % 6 ∧ R (x - 1) = true ∧ x - 1 < k then nI (x - 1) else if 6 ≤ x ∧ B (x - 6) = true ∧ x - 6 < k then nI (x - 6) else -5
theorem lm_none {R B : Nat → Bool} {k : Nat} (hR : R k = false) (hB : B k = false) (x : Nat) : lm R B (k + 1) x = lm R B k x := by
  have e1 : (R x = true ∧ x < k + 1) ↔ (R x = true ∧ x < k) := ⟨fun ⟨a, b⟩ => ⟨a, by
    by_cases c : x = k
    · rw [c, hR] at a; cases a
    · omega⟩, fun ⟨a, b⟩ => ⟨a, by omega⟩⟩
  have e2 : (B x = true ∧ x < k + 1) ↔ (B x = true ∧ x < k) := ⟨fun ⟨a, b⟩ => ⟨a, by
    by_cases c : x = k
    · rw [c, hB] at a; cases a
    · omega⟩, fun ⟨a, b⟩ => ⟨a, by omega⟩⟩
  have e3 : (0 < x % 6 ∧ R (x - 1) = true ∧ x - 1 < k + 1) ↔ (0 < x % 6 ∧ R (x - 1) = true ∧ x - 1 < k) := ⟨fun ⟨z, a, b⟩ => ⟨z, a, by
    by_cases c : x - 1 = k
    · rw [c, hR] at a; cases a
    · omega⟩, fun ⟨z, a, b⟩ => ⟨z, a, by omega⟩⟩
  have e4 : (6 ≤ x ∧ B (x - 6) = true ∧ x - 6 < k + 1) ↔ (6 ≤ x ∧ B (x - 6) = true ∧ x - 6 < k) := ⟨fun ⟨z, a, b⟩ => ⟨z, a, by
    by_cases c : x - 6 = k
    · rw [c, hB] at a; cases a
    · omega⟩, fun ⟨z, a, b⟩ => ⟨z, a, by omega⟩⟩
  unfold lm
  simp only [e1, e2, e3, e4]
theorem lm_R {R B : Nat → Bool} {k : Nat} (hR : R k = true) (hB : B k = false) (h5 : k % 6 < 5) (x : Nat) : lm R B (k + 1) x = if x = k + 1 then nI k else if x = k then nI (k + 1) else lm R B k x := by
  by_cases c1 : x = k + 1
  · subst c1
    rw [if_pos rfl]
    unfold lm
    rw [if_neg (by omega), if_neg (by omega), if_pos ⟨by omega, by rw [Nat.add_sub_cancel]; exact hR, by omega⟩, Nat.add_sub_cancel]
  rw [if_neg c1]
  by_cases c2 : x = k
  · subst c2
    rw [if_pos rfl]
    unfold lm
    rw [if_pos ⟨hR, by omega⟩]
  rw [if_neg c2]
  have e1 : (R x = true ∧ x < k + 1) ↔ (R x = true ∧ x < k) := ⟨fun ⟨a, b⟩ => ⟨a, by omega⟩, fun ⟨a, b⟩ => ⟨a, by omega⟩⟩
  have e2 : (B x = true ∧ x < k + 1) ↔ (B x = true ∧ x < k) := ⟨fun ⟨a, b⟩ => ⟨a, by omega⟩, fun ⟨a, b⟩ => ⟨a, by omega⟩⟩
  have e3 : (0 < x % 6 ∧ R (x - 1) = true ∧ x - 1 < k + 1) ↔ (0 < x % 6 ∧ R (x - 1) = true ∧ x - 1 < k) := ⟨fun ⟨z, a, b⟩ => ⟨z, a, by omega⟩, fun ⟨z, a, b⟩ => ⟨z, a, by omega⟩⟩
  have e4 : (6 ≤ x ∧ B (x - 6) = true ∧ x - 6 < k + 1) ↔ (6 ≤ x ∧ B (x - 6) = true ∧ x - 6 < k) := ⟨fun ⟨z, a, b⟩ => ⟨z, a, by
    by_cases c : x - 6 = k
    · rw [c, hB] at a; cases a
    · omega⟩, fun ⟨z, a, b⟩ => ⟨z, a, by omega⟩⟩
  unfold lm
  simp only [e1, e2, e3, e4]
theorem lm_B {R B : Nat → Bool} {k : Nat} (hR : R k = false) (hB : B k = true) (hk5 : R (k + 5) = true → (k + 5) % 6 < 5) (x : Nat) : lm R B (k + 1) x = if x = k + 6 then nI k else if x = k then nI (k + 6) else lm R B k x := by
  by_cases c1 : x = k + 6
  · subst c1
    rw [if_pos rfl]
    unfold lm
    rw [if_neg (by omega), if_neg (by omega), if_neg (by omega), if_pos ⟨by omega, by rw [Nat.add_sub_cancel]; exact hB, by omega⟩, Nat.add_sub_cancel]
  rw [if_neg c1]
  by_cases c2 : x = k
  · subst c2
    rw [if_pos rfl]
    unfold lm
    rw [if_neg (by rw [hR]; simp), if_pos ⟨hB, by omega⟩]
  rw [if_neg c2]
  have e1 : (R x = true ∧ x < k + 1) ↔ (R x = true ∧ x < k) := ⟨fun ⟨a, b⟩ => ⟨a, by omega⟩, fun ⟨a, b⟩ => ⟨a, by omega⟩⟩
  have e2 : (B x = true ∧ x < k + 1) ↔ (B x = true ∧ x < k) := ⟨fun ⟨a, b⟩ => ⟨a, by omega⟩, fun ⟨a, b⟩ => ⟨a, by omega⟩⟩
  have e3 : (0 < x % 6 ∧ R (x - 1) = true ∧ x - 1 < k + 1) ↔ (0 < x % 6 ∧ R (x - 1) = true ∧ x - 1 < k) := ⟨fun ⟨z, a, b⟩ => ⟨z, a, by
    by_cases c : x - 1 = k
    · rw [c, hR] at a; cases a
    · omega⟩, fun ⟨z, a, b⟩ => ⟨z, a, by omega⟩⟩
  have e4 : (6 ≤ x ∧ B (x - 6) = true ∧ x - 6 < k + 1) ↔ (6 ≤ x ∧ B (x - 6) = true ∧ x - 6 < k) := ⟨fun ⟨z, a, b⟩ => ⟨z, a, by omega⟩, fun ⟨z, a, b⟩ => ⟨z, a, by omega⟩⟩
  unfold lm
  simp only [e1, e2, e3, e4]
/-- levels in an array -/
def lvOK (w : Int64) (H : Nat → Int) (lv : Nat → Int32) : Prop := ∀ v, v < 49 → tg_of (fr w) v = true → lv v = iZ (H v) ∧ -200 ≤ H v ∧ H v ≤ 200
theorem cell_of {w : Int64} {c : Nat} (hc : c < 36) (hb : b6 w c = true) : cu c + 8 < 49 ∧ tg_of (fr w) (cu c) = true ∧ tg_of (fr w) (cu c + 1) = true ∧ tg_of (fr w) (cu c + 7) = true ∧ tg_of (fr w) (cu c + 8) = true := by
  obtain ⟨e1, e2⟩ := fr_cell (w := w) hc
  rw [hb] at e1
  obtain ⟨h8, r0, r1, r2, r3, l1, l2, l3, l0⟩ := ring_tbl (tg_in (fr_Fr w) e1)
  rw [e2] at h8 r0 r1 r2 r3
  refine ⟨h8, A_of (w := 0) (by decide) ?_, A_of (w := 1) (by decide) ?_, A_of (w := 3) (by decide) ?_, A_of (w := 2) (by decide) ?_⟩
  · unfold tg_A; rw [r0, e1, Bool.or_true]
  · unfold tg_A; rw [r1, e1, Bool.or_true]
  · unfold tg_A; rw [r3, e1, Bool.or_true]
  · unfold tg_A; rw [r2, e1, Bool.or_true]
theorem abs3 {a b : Int} (ha : -200 ≤ a ∧ a ≤ 200) (hb : -200 ≤ b ∧ b ≤ 200) : (if J_Math_abs (iZ a - iZ b) = 3 then (1:Int32) else 0) = bI (i3 (a - b)) := by
  rw [iZ_sub]
  unfold J_Math_abs
  have s1 : sm (a - b) := by unfold sm; omega
  have s2 : sm (-(a - b)) := by unfold sm; omega
  have s3 : sm 3 := by unfold sm; omega
  have s0 : sm 0 := by unfold sm; omega
  have h3 : (3:Int32) = iZ 3 := rfl
  have h0 : (0:Int32) = iZ 0 := rfl
  by_cases c : 0 ≤ a - b
  · rw [if_pos (show (0:Int32) ≤ iZ (a - b) by rw [h0]; exact (iZ_le s0 s1).mpr c), h3]
    by_cases d : a - b = 3
    · rw [if_pos (by rw [d]), i3_t.mpr (Or.inl d)]; rfl
    · rw [if_neg (fun q => d ((iZ_eq s1 s3).mp q)), show i3 (a - b) = false by unfold i3; exact decide_eq_false (by omega)]; rfl
  · rw [if_neg (show ¬ (0:Int32) ≤ iZ (a - b) by rw [h0]; exact fun q => c ((iZ_le s0 s1).mp q)), h3, iZ_neg]
    by_cases d : a - b = -3
    · rw [if_pos (by rw [d]; rfl), i3_t.mpr (Or.inr d)]; rfl
    · rw [if_neg (fun q => by have := (iZ_eq s2 s3).mp q; omega), show i3 (a - b) = false by unfold i3; exact decide_eq_false (by omega)]; rfl
theorem off3 {a b : Int} (ha : -200 ≤ a ∧ a ≤ 200) (hb : -200 ≤ b ∧ b ≤ 200) : M_isTwo_j90 (iZ a - iZ b) = some (bI (i3 (b - a))) := by
  rw [iZ_sub]
  unfold M_isTwo_j90
  have s1 : sm (a - b) := by unfold sm; omega
  have s3 : sm 3 := by unfold sm; omega
  have s4 : sm (-3) := by unfold sm; omega
  have h3 : (3:Int32) = iZ 3 := rfl
  have h4 : (-3:Int32) = iZ (-3) := rfl
  rw [h4, h3]
  by_cases d : a - b = 3
  · rw [if_pos (by rw [d]), i3_t.mpr (Or.inr (by omega))]; rfl
  · rw [if_neg (fun q => d ((iZ_eq s1 s3).mp q))]
    by_cases d2 : a - b = -3
    · rw [if_pos (by rw [d2]), i3_t.mpr (Or.inl (by omega))]; rfl
    · rw [if_neg (fun q => d2 ((iZ_eq s1 s4).mp q)), show i3 (b - a) = false by unfold i3; exact decide_eq_false (by omega)]; rfl
theorem lay_tbl : ∀ c, c < 36 → G_cellAt (nI c / (6:Int32)) ((nI c - nI c / (6:Int32) * (6:Int32)) + (1:Int32)) = (if c % 6 < 5 then nI (c + 1) else -1) ∧ G_cellAt ((nI c / (6:Int32)) + (1:Int32)) (nI c - nI c / (6:Int32) * (6:Int32)) = (if c < 30 then nI (c + 6) else -1) ∧ G_vertexAt ((nI c / (6:Int32)) + (1:Int32)) ((nI c - nI c / (6:Int32) * (6:Int32)) + (1:Int32)) = nI (cu c + 8) ∧ nI (cu c + 8) - (7:Int32) = nI (cu c + 1) ∧ nI (cu c + 8) - (1:Int32) = nI (cu c + 7) := by decide +kernel
theorem join_eq {a b : Nat} (ha : a < 36) (hb : b < 36) (f : Nat → Int32) : S_join (nI a) (nI b) f = some (upd (upd f a (nI b)) b (nI a)) := by
  unfold S_join S_join_j28
  rw [show G_isCell (nI a) = 1 from (by decide : ∀ k, k < 36 → G_isCell (nI k) = 1) a ha, show G_isCell (nI b) = 1 from (by decide : ∀ k, k < 36 → G_isCell (nI k) = 1) b hb, if_neg (show ¬ (1 : Int32) = 0 by decide), if_neg (show ¬ (1 : Int32) = 0 by decide), grd_t (gi_nI ha (by decide)), grd_t (gi_nI hb (by decide)), nI_clamp (by omega), nI_clamp (by omega)]
section LAY
variable {w : Int64} {H : Nat → Int} {lv : Nat → Int32}
theorem split_eq {v3 : Int32} {owh olo ohi ora : Nat → Int32} (hlv : ∀ v, v < 49 → O_level (nI v) v3 owh olo ohi ora = some (lv v)) (hL : lvOK w H lv) {a b : Nat} (ha : a < 49) (hb : b < 49) (oa : tg_of (fr w) a = true) (ob : tg_of (fr w) b = true) : O_isSplit (nI a) (nI b) v3 owh olo ohi ora = some (bI (i3 (H a - H b))) := by
  unfold O_isSplit
  obtain ⟨e1, b1⟩ := hL a ha oa
  obtain ⟨e2, b2⟩ := hL b hb ob
  rw [hlv a ha, wbind rfl, hlv b hb, wbind rfl, e1, e2, abs3 b1 b2]
theorem inside_eq {a b : Nat} (ha : a < 36) (hb : b < 36) (rg : Int64) : S_isInside (nI a) (nI b) rg = bI (b6 rg a && b6 rg b) := by
  unfold S_isInside
  rw [holds_eq ha, holds_eq hb, bI_if, bI_if]
  cases b6 rg a <;> cases b6 rg b <;> rfl
theorem inside_m1 {a : Nat} (ha : a < 36) (rg : Int64) : S_isInside (nI a) (-1) rg = 0 := by
  unfold S_isInside
  rw [holds_eq ha, holds_m1, bI_if]
  cases b6 rg a <;> rfl
theorem xlay_B {v3 : Int32} {owh olo ohi ora : Nat → Int32} (hlv : ∀ v, v < 49 → O_level (nI v) v3 owh olo ohi ora = some (lv v)) (hL : lvOK w H lv) {c : Nat} (hc : c < 36) (f : Nat → Int32) : S_layDown_j133 v3 (nI c) (nI (cu c + 8)) (if c < 30 then nI (c + 6) else -1) f w owh olo ohi ora = some (Sum.inl (nI (c + 1), if spB w H c then upd (upd f c (nI (c + 6))) (c + 6) (nI c) else f)) := by
  obtain ⟨_, _, _, _, t5⟩ := lay_tbl c hc
  unfold S_layDown_j133 S_layDown_j166
  by_cases c30 : c < 30
  · rw [if_pos c30, inside_eq hc (by omega), bI_if, t5, nI_1]
    unfold spB
    rw [decide_eq_true c30, Bool.true_and]
    cases hin : (b6 w c && b6 w (c + 6)) with
    | false => rfl
    | true =>
      have h1 : b6 w c = true := by
        rw [Bool.and_eq_true] at hin; exact hin.1
      obtain ⟨z8, z0, z1, z7, z9⟩ := cell_of hc h1
      rw [if_pos rfl, split_eq hlv hL (by omega) (by omega) z9 z7, wbind rfl, bI_if, Bool.true_and, join_eq hc (by omega), wbind rfl]
      cases i3 (H (cu c + 8) - H (cu c + 7)) <;> rfl
  · rw [if_neg c30, inside_m1 hc, if_pos rfl, nI_1]
    unfold spB
    rw [decide_eq_false c30]; rfl
theorem xlay_step {v3 : Int32} {owh olo ohi ora : Nat → Int32} (hlv : ∀ v, v < 49 → O_level (nI v) v3 owh olo ohi ora = some (lv v)) (hL : lvOK w H lv) {c : Nat} (hc : c < 36) (f : Nat → Int32) : ∃ g, g = (if spR w H c then upd (upd f c (nI (c + 1))) (c + 1) (nI c) else f) ∧ S_layDown_s39 v3 w owh olo ohi ora (nI c, f) = some (Sum.inl (nI (c + 1), if spB w H c then upd (upd g c (nI (c + 6))) (c + 6) (nI c) else g)) := by
  obtain ⟨t1, t2, t3, t4, _⟩ := lay_tbl c hc
  refine ⟨_, rfl, ?_⟩
  unfold S_layDown_s39
  dsimp only
  rw [if_neg (show ¬ (36 : Int32) ≤ nI c from nI_ge (a := c) (b := 36) hc (by decide)), t1, t2, t3, t4]
  by_cases c5 : c % 6 < 5
  · rw [if_pos c5, inside_eq hc (by omega), bI_if, xlay_B hlv hL hc]
    cases hin : (b6 w c && b6 w (c + 1)) with
    | false =>
      have : spR w H c = false := by unfold spR; rw [hin, Bool.and_false, Bool.false_and]
      rw [this]; rfl
    | true =>
      have h1 : b6 w c = true := by
        rw [Bool.and_eq_true] at hin; exact hin.1
      obtain ⟨z8, z0, z1, z7, z9⟩ := cell_of hc h1
      have : spR w H c = i3 (H (cu c + 8) - H (cu c + 1)) := by unfold spR; rw [hin, decide_eq_true c5]; rfl
      rw [if_pos rfl, split_eq hlv hL (by omega) (by omega) z9 z1, wbind rfl, bI_if, this, join_eq hc (by omega), wbind rfl, xlay_B hlv hL hc]
      cases i3 (H (cu c + 8) - H (cu c + 1)) <;> rfl
  · rw [if_neg c5, inside_m1 hc, if_pos rfl, xlay_B hlv hL hc]
    have : spR w H c = false := by unfold spR; rw [decide_eq_false c5]; rfl
    rw [this]; rfl
theorem xlay_all {v3 : Int32} {owh olo ohi ora : Nat → Int32} (hlv : ∀ v, v < 49 → O_level (nI v) v3 owh olo ohi ora = some (lv v)) (hL : lvOK w H lv) (hH : upZ w H) (nmt : Nat → Int32) : ∃ f, wh (S_layDown_s39 v3 w owh olo ohi ora) FU ((0:Int32), filI (-5) nmt 36) = some f ∧ ∀ x, x < 36 → f x = lm (spR w H) (spB w H) 36 x := by
  refine wh_tot (st := S_layDown_s39 v3 w owh olo ohi ora) (B := fun f => ∀ x, x < 36 → f x = lm (spR w H) (spB w H) 36 x)
    (fun m s => ∃ k, k + m = 36 ∧ s.1 = nI k ∧ ∀ x, x < 36 → s.2 x = lm (spR w H) (spB w H) k x) ?_ FU 36 ((0:Int32), filI (-5) nmt 36) (by have := FU_big; omega) ⟨0, rfl, rfl, fun x hx => by
      show filI (-5) nmt 36 x = _
      unfold filI lm
      rw [if_pos hx, if_neg (by omega), if_neg (by omega), if_neg (by omega), if_neg (by omega)]⟩
  rintro m ⟨y, f⟩ ⟨k, hk, e1, h1⟩
  dsimp only at e1 h1
  subst e1
  rcases Nat.lt_or_ge k 36 with c | c
  · right
    obtain ⟨g, eg, es⟩ := xlay_step hlv hL c f
    refine ⟨m - 1, _, by omega, es, k + 1, by omega, rfl, fun x hx => ?_⟩
    dsimp only
    have ex := (sp_excl hH c).1
    cases hR : spR w H k with
    | false =>
      rw [hR] at eg
      cases hB : spB w H k with
      | false =>
        rw [lm_none hR hB, eg]
        exact h1 x hx
      | true =>
        rw [lm_B hR hB (fun q => (spR_t.mp q).1), eg]
        show upd (upd f k _) (k + 6) _ x = _
        rw [upd_at, upd_at, h1 x hx]
    | true =>
      have hB : spB w H k = false := by
        cases e : spB w H k with
        | false => rfl
        | true => exact absurd ⟨hR, e⟩ ex
      rw [hR] at eg
      rw [hB, lm_R hR hB (spR_t.mp hR).1, eg]
      show upd (upd f k _) (k + 1) _ x = _
      rw [upd_at, upd_at, h1 x hx]
  · left
    have : k = 36 := by omega
    subst this
    refine ⟨f, ?_, h1⟩
    unfold S_layDown_s39
    dsimp only
    rw [if_pos (by decide)]
/-! the reference's -/
theorem mtwo_tbl : ∀ d, d < 36 → ((7:Int32) * (nI d / (6:Int32))) + (nI d - nI d / (6:Int32) * (6:Int32)) = nI (cu d) := by decide +kernel
theorem mtwo_eq {v3 : Int32} {glo ghi : Nat → Int32} (hlv : (v3 = 0 ∧ lv = glo) ∨ (¬ v3 = 0 ∧ lv = ghi)) (hL : lvOK w H lv) {c : Nat} (hc : c < 36) : (c % 6 < 5 → M_isTwo (nI c) (nI (c + 1)) v3 w glo ghi = some (bI (spR w H c))) ∧ (c < 30 → M_isTwo (nI c) (nI (c + 6)) v3 w glo ghi = some (bI (spB w H c))) := by
  have gen : ∀ d x : Nat, d < 36 → x < 49 → cu d < 49 → (if nI d = nI c + 1 then nI (cu d) + 7 else nI (cu d) + 1) = nI x → tg_of (fr w) (cu d) = true → tg_of (fr w) x = true → b6 w c = true → b6 w d = true → M_isTwo (nI c) (nI d) v3 w glo ghi = some (bI (i3 (H x - H (cu d)))) := fun d x hd hx hcd ex o1 o2 h1 h2 => by
    obtain ⟨y1, y2⟩ := hL (cu d) hcd o1
    obtain ⟨y3, y4⟩ := hL x hx o2
    unfold M_isTwo
    rw [has_eq (by omega), has_eq (by omega), h1, h2, if_neg (show ¬ bI true = 0 by decide), if_neg (show ¬ bI true = 0 by decide), mtwo_tbl d hd, ex]
    rcases hlv with ⟨e, el⟩ | ⟨e, el⟩
    · rw [if_pos e, grd_t (gi_nI hcd (by decide)), grd_t (gi_nI hx (by decide)), nI_clamp (by omega), nI_clamp (by omega), ← el, y1, y3, off3 y2 y4]
    · rw [if_neg e, grd_t (gi_nI hcd (by decide)), grd_t (gi_nI hx (by decide)), nI_clamp (by omega), nI_clamp (by omega), ← el, y1, y3, off3 y2 y4]
  have no : ∀ d : Nat, d < 64 → (b6 w c && b6 w d) = false → M_isTwo (nI c) (nI d) v3 w glo ghi = some 0 := fun d hd h => by
    unfold M_isTwo M_isTwo_j16
    rw [has_eq (by omega), has_eq hd, bI_if, bI_if]
    cases h1 : b6 w c with
    | false => rfl
    | true =>
      rw [h1, Bool.true_and] at h
      rw [h]; rfl
  constructor
  · intro c5
    cases hin : (b6 w c && b6 w (c + 1)) with
    | false =>
      have : spR w H c = false := by unfold spR; rw [hin, Bool.and_false, Bool.false_and]
      rw [no (c + 1) (by omega) hin, this]; rfl
    | true =>
      have h2 := (Bool.and_eq_true _ _).mp hin
      obtain ⟨z8, z0, z1, z7, z9⟩ := cell_of hc h2.1
      have ec : cu (c + 1) = cu c + 1 := by unfold cu; omega
      have : spR w H c = i3 (H (cu c + 8) - H (cu c + 1)) := by unfold spR; rw [hin, decide_eq_true c5]; rfl
      rw [gen (c + 1) (cu c + 8) (by omega) (by omega) (by omega) (by rw [nI_1, if_pos rfl, ec]; show nI (cu c + 1) + nI 7 = _; rw [nI_add]) (by rw [ec]; exact z1) z9 h2.1 h2.2, this, ec]
  · intro c30
    cases hin : (b6 w c && b6 w (c + 6)) with
    | false =>
      have : spB w H c = false := by unfold spB; rw [hin, Bool.and_false, Bool.false_and]
      rw [no (c + 6) (by omega) hin, this]; rfl
    | true =>
      have h2 := (Bool.and_eq_true _ _).mp hin
      obtain ⟨z8, z0, z1, z7, z9⟩ := cell_of hc h2.1
      have ec : cu (c + 6) = cu c + 7 := by unfold cu; omega
      have : spB w H c = i3 (H (cu c + 8) - H (cu c + 7)) := by unfold spB; rw [hin, decide_eq_true c30]; rfl
      rw [gen (c + 6) (cu c + 8) (by omega) (by omega) (by omega) (by rw [nI_1, if_neg (fun q => by have := (nI_eq (by omega) (by omega)).mp q; omega), ec]; exact nI_1 _) (by rw [ec]; exact z7) z9 h2.1 h2.2, this, ec]
theorem mlay_72 {c d : Nat} (hc : c < 36) (hd : d < 36) (f : Nat → Int32) : M_lays_j72 (nI c) (nI d) f = some (Sum.inl (nI (c + 1), upd (upd f (6 + c) (nI d)) (6 + d) (nI c))) := by
  unfold M_lays_j72 M_lays_j101
  rw [if_neg (nI_ne_m1 d (by omega)), show (6:Int32) + nI c = nI (6 + c) from nI_add 6 c, show (6:Int32) + nI d = nI (6 + d) from nI_add 6 d, grd_t (gi_nI (by omega) (by decide)), grd_t (gi_nI (by omega) (by decide)), nI_clamp (by omega), nI_clamp (by omega), nI_1]
theorem mlay_step {v3 : Int32} {glo ghi : Nat → Int32} (hlv : (v3 = 0 ∧ lv = glo) ∨ (¬ v3 = 0 ∧ lv = ghi)) (hL : lvOK w H lv) {c : Nat} (hc : c < 36) (f : Nat → Int32) : M_lays_s13 v3 w glo ghi (nI c, f) = some (Sum.inl (nI (c + 1), if spR w H c then upd (upd f (6 + c) (nI (c + 1))) (6 + (c + 1)) (nI c) else if spB w H c then upd (upd f (6 + c) (nI (c + 6))) (6 + (c + 6)) (nI c) else f)) := by
  obtain ⟨m1, m2⟩ := mtwo_eq (v3 := v3) (glo := glo) (ghi := ghi) hlv hL hc
  have none : M_lays_j72 (nI c) (-1) f = some (Sum.inl (nI (c + 1), f)) := by
    unfold M_lays_j72 M_lays_j101
    rw [if_pos rfl, nI_1]
  have j45 : M_lays_j45 v3 (nI c) f w glo ghi = some (Sum.inl (nI (c + 1), if spB w H c then upd (upd f (6 + c) (nI (c + 6))) (6 + (c + 6)) (nI c) else f)) := by
    unfold M_lays_j45 M_lays_j71
    by_cases c30 : c < 30
    · rw [if_neg (show ¬ (30 : Int32) ≤ nI c from nI_ge (a := c) (b := 30) c30 (by decide)), show nI c + (6:Int32) = nI (c + 6) from nI_add c 6, m2 c30, wbind rfl, bI_if]
      cases spB w H c with
      | false => exact none
      | true => exact mlay_72 hc (by omega) f
    · have : spB w H c = false := by unfold spB; rw [decide_eq_false c30]; rfl
      rw [if_pos (show (30 : Int32) ≤ nI c from nI_le (a := 30) (by omega) (by omega)), none, this]; rfl
  unfold M_lays_s13
  dsimp only
  rw [if_neg (show ¬ (36 : Int32) ≤ nI c from nI_ge (a := c) (b := 36) hc (by decide)), mod6 hc]
  by_cases c5 : c % 6 < 5
  · rw [if_neg (show ¬ (5 : Int32) ≤ nI (c % 6) from nI_ge (a := c % 6) (b := 5) c5 (by decide)), nI_1, m1 c5, wbind rfl, bI_if, j45]
    cases spR w H c with
    | false => rfl
    | true => exact mlay_72 hc (by omega) f
  · have : spR w H c = false := by unfold spR; rw [decide_eq_false c5]; rfl
    rw [if_pos (show (5 : Int32) ≤ nI (c % 6) from nI_le (a := 5) (by omega) (by omega)), j45, this]; rfl
theorem mlay_all {v3 : Int32} {glo ghi : Nat → Int32} (hlv : (v3 = 0 ∧ lv = glo) ∨ (¬ v3 = 0 ∧ lv = ghi)) (hL : lvOK w H lv) (hH : upZ w H) (ms : Nat → Int32) : ∃ f, M_lays v3 w ms glo ghi = some f ∧ f 0 = 1 ∧ (∀ x, x < 36 → f (6 + x) = lm (spR w H) (spB w H) 36 x) ∧ ∀ j, j ≠ 0 → (j < 6 ∨ 42 ≤ j) → f j = ms j := by
  unfold M_lays
  rw [M_clears_eq, wbind rfl, grd_t (by decide)]
  have := wh_tot (st := M_lays_s13 v3 w glo ghi) (B := fun f => f 0 = 1 ∧ (∀ x, x < 36 → f (6 + x) = lm (spR w H) (spB w H) 36 x) ∧ ∀ j, j ≠ 0 → (j < 6 ∨ 42 ≤ j) → f j = ms j)
    (fun m s => ∃ k, k + m = 36 ∧ s.1 = nI k ∧ s.2 0 = 1 ∧ (∀ x, x < 36 → s.2 (6 + x) = lm (spR w H) (spB w H) k x) ∧ ∀ j, j ≠ 0 → (j < 6 ∨ 42 ≤ j) → s.2 j = ms j) ?_ FU 36 ((0:Int32), upd (clK ms 36) (0:Int32).toNatClampNeg (1:Int32)) (by have := FU_big; omega) ⟨0, rfl, rfl, upd_eq (clK ms 36) 0 1, fun x hx => by
      show upd (clK ms 36) 0 1 (6 + x) = _
      rw [upd_ne _ _ (by omega)]
      unfold clK lm
      rw [if_neg (by omega), if_pos (by omega), if_neg (by omega), if_neg (by omega), if_neg (by omega), if_neg (by omega)], fun j j0 j1 => by
      show upd (clK ms 36) 0 1 j = _
      rw [upd_ne _ _ j0, clK_ne j0 (by omega)]⟩
  · obtain ⟨f, e, h⟩ := this
    exact ⟨f, wbind e, h⟩
  rintro m ⟨y, f⟩ ⟨k, hk, e1, h0, h1, h2⟩
  dsimp only at e1 h0 h1 h2
  subst e1
  rcases Nat.lt_or_ge k 36 with c | c
  · right
    refine ⟨m - 1, _, by omega, mlay_step hlv hL c f, k + 1, by omega, rfl, ?_⟩
    dsimp only
    have ex := (sp_excl hH c).1
    cases hR : spR w H k with
    | false =>
      cases hB : spB w H k with
      | false =>
        refine ⟨h0, fun x hx => ?_, h2⟩
        rw [lm_none hR hB]
        exact h1 x hx
      | true =>
        have k30 := (spB_t.mp hB).1
        refine ⟨?_, fun x hx => ?_, fun j j0 j1 => ?_⟩
        · show upd (upd f (6 + k) (nI (k + 6))) (6 + (k + 6)) (nI k) 0 = 1
          rw [upd_ne _ _ (by omega), upd_ne _ _ (by omega), h0]
        · rw [lm_B hR hB (fun q => (spR_t.mp q).1)]
          show upd (upd f (6 + k) (nI (k + 6))) (6 + (k + 6)) (nI k) (6 + x) = _
          rw [upd_at, upd_at, h1 x hx]
          simp only [show (6 + x = 6 + (k + 6)) ↔ (x = k + 6) by omega, show (6 + x = 6 + k) ↔ (x = k) by omega]
        · show upd (upd f (6 + k) (nI (k + 6))) (6 + (k + 6)) (nI k) j = _
          rw [upd_ne _ _ (by omega), upd_ne _ _ (by omega)]
          exact h2 j j0 j1
    | true =>
      have hB : spB w H k = false := by
        cases e : spB w H k with
        | false => rfl
        | true => exact absurd ⟨hR, e⟩ ex
      have k5 := (spR_t.mp hR).1
      refine ⟨?_, fun x hx => ?_, fun j j0 j1 => ?_⟩
      · show upd (upd f (6 + k) (nI (k + 1))) (6 + (k + 1)) (nI k) 0 = 1
        rw [upd_ne _ _ (by omega), upd_ne _ _ (by omega), h0]
      · rw [lm_R hR hB k5]
        show upd (upd f (6 + k) (nI (k + 1))) (6 + (k + 1)) (nI k) (6 + x) = _
        rw [upd_at, upd_at, h1 x hx]
        simp only [show (6 + x = 6 + (k + 1)) ↔ (x = k + 1) by omega, show (6 + x = 6 + k) ↔ (x = k) by omega]
      · show upd (upd f (6 + k) (nI (k + 1))) (6 + (k + 1)) (nI k) j = _
        rw [upd_ne _ _ (by omega), upd_ne _ _ (by omega)]
        exact h2 j j0 j1
  · left
    have : k = 36 := by omega
    subst this
    refine ⟨f, ?_, h0, h1, h2⟩
    unfold M_lays_s13
    dsimp only
    rw [if_pos (by decide)]
end LAY
