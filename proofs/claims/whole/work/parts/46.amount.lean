/-! how many cells, black ones, edges -/
theorem cnt_and1 {f g : Nat → Bool} : ∀ n, (∀ i, i < n → f i = g i) → cnt f n = cnt g n := fun n h => cnt_congr n h
theorem cnt_zero_all {f : Nat → Bool} : ∀ n, (∀ i, i < n → f i = false) → cnt f n = 0
  | 0, _ => rfl
  | n + 1, h => by
    show cnt f n + (if f n then 1 else 0) = 0
    rw [cnt_zero_all n (fun i hi => h i (by omega)), h n (by omega)]
    rfl
theorem cells_am {w : Int64} (h : R36 w) : M_cells w = some (G_amount w 0) := by
  unfold G_amount
  rw [if_pos rfl, cells_eq, bitCount_36 h]
theorem R36_and {w : Int64} (h : R36 w) (x : Int64) : R36 (w &&& x) := fun k hk => by rw [b6_and, h k hk, Bool.false_and]
theorem blacks_am {w : Int64} (h : R36 w) : M_blacks w = some (G_amount w 1) := by
  unfold G_amount
  rw [if_neg (show ¬ (1:Int32) = 0 by decide), if_pos rfl, blacks_eq, bitCount_36 (R36_and h _)]
  congr 2
  refine cnt_congr 36 (fun i hi => ?_)
  rw [b6_and, black_bits i (by omega), decide_eq_true hi, Bool.true_and]
def nL (w : Int64) (c : Nat) : Bool := b6 w c && (decide (0 < c % 6) && b6 w (c - 1))
def nR (w : Int64) (c : Nat) : Bool := b6 w c && (decide (c % 6 < 5) && b6 w (c + 1))
def nU (w : Int64) (c : Nat) : Bool := b6 w c && (decide (6 ≤ c) && b6 w (c - 6))
def nD (w : Int64) (c : Nat) : Bool := b6 w c && (decide (c < 30) && b6 w (c + 6))
theorem nLR (w : Int64) : cnt (nR w) 36 = cnt (nL w) 36 := by
  have e1 : cnt (nR w) 36 = cnt (nR w) 35 := by
    show cnt (nR w) 35 + (if nR w 35 then 1 else 0) = _
    have : nR w 35 = false := by unfold nR; rw [decide_eq_false (by omega), Bool.false_and, Bool.and_false]
    rw [this]; rfl
  have e2 := cnt_add (nL w) 1 35
  have e3 : cnt (nL w) 1 = 0 := by
    show 0 + (if nL w 0 then 1 else 0) = 0
    have : nL w 0 = false := by unfold nL; rw [decide_eq_false (by omega), Bool.false_and, Bool.and_false]
    rw [this]; rfl
  rw [e1, show 36 = 1 + 35 from rfl, e2, e3, Nat.zero_add]
  refine cnt_congr 35 (fun i hi => ?_)
  unfold nR nL
  rw [show 1 + i - 1 = i by omega, Nat.add_comm 1 i]
  by_cases c : i % 6 < 5
  · rw [decide_eq_true c, decide_eq_true (show 0 < (i + 1) % 6 by omega), Bool.true_and, Bool.true_and, Bool.and_comm]
  · rw [decide_eq_false c, decide_eq_false (show ¬ 0 < (i + 1) % 6 by omega), Bool.false_and, Bool.and_false, Bool.false_and, Bool.and_false]
theorem nUD (w : Int64) : cnt (nD w) 36 = cnt (nU w) 36 := by
  have e0 := cnt_add (nD w) 30 6
  have e1 : cnt (fun i => nD w (30 + i)) 6 = 0 := cnt_zero_all 6 (fun i hi => by
    show nD w (30 + i) = false
    unfold nD; rw [decide_eq_false (by omega), Bool.false_and, Bool.and_false])
  have e2 := cnt_add (nU w) 6 30
  have e3 : cnt (nU w) 6 = 0 := cnt_zero_all 6 (fun i hi => by
    unfold nU; rw [decide_eq_false (by omega), Bool.false_and, Bool.and_false])
  rw [show 36 = 30 + 6 from rfl, e0, e1, Nat.add_zero, show 30 + 6 = 6 + 30 from rfl, e2, e3, Nat.zero_add]
  refine cnt_congr 30 (fun i hi => ?_)
  unfold nD nU
  rw [show 6 + i - 6 = i by omega, Nat.add_comm 6 i, decide_eq_true hi, decide_eq_true (show 6 ≤ i + 6 by omega), Bool.true_and, Bool.true_and, Bool.and_comm]
theorem last_bits : ∀ i, i < 64 → b6 33814345695 i = (decide (i < 36) && decide (i % 6 < 5)) := by decide +kernel
theorem beside_eq {w : Int64} (h : R36 w) : J_Long_bitCount ((w &&& ((w.toUInt64 >>> ((1:Int32).toInt64.toUInt64 &&& Int64.toUInt64 63)).toInt64)) &&& (33814345695:Int64)) = nI (cnt (nR w) 36) := by
  rw [bitCount_36 (fun k hk => by rw [b6_and, b6_and, h k hk]; rfl)]
  congr 1
  refine cnt_congr 36 (fun i hi => ?_)
  rw [b6_and, b6_and, show (1 : Int32) = nI 1 from rfl, b6_ushr 1 (by decide), last_bits i (by omega), decide_eq_true hi, Bool.true_and, Nat.add_comm 1 i]
  unfold nR
  rw [Bool.and_assoc, Bool.and_comm (b6 w (i + 1))]
theorem below_eq {w : Int64} (h : R36 w) : J_Long_bitCount (w &&& ((w.toUInt64 >>> ((6:Int32).toInt64.toUInt64 &&& Int64.toUInt64 63)).toInt64)) = nI (cnt (nD w) 36) := by
  rw [bitCount_36 (fun k hk => by rw [b6_and, h k hk]; rfl)]
  congr 1
  refine cnt_congr 36 (fun i hi => ?_)
  rw [b6_and, show (6 : Int32) = nI 6 from rfl, b6_ushr 6 (by decide), Nat.add_comm 6 i]
  unfold nD
  by_cases c : i < 30
  · rw [decide_eq_true c, Bool.true_and]
  · rw [decide_eq_false c, h (i + 6) (by omega)]; rfl
theorem ed_tbl : ∀ c, c < 36 → (nI c / (6:Int32)) - (1:Int32) = rwI (8 * (c / 6) + c % 6 + 1) ∧ (nI c - nI c / (6:Int32) * (6:Int32)) = clI (8 * (c / 6) + c % 6 + 1) ∧ (nI c / (6:Int32)) + (1:Int32) = rwI (8 * (c / 6) + c % 6 + 17) ∧ (nI c - nI c / (6:Int32) * (6:Int32)) = clI (8 * (c / 6) + c % 6 + 17) ∧ (nI c / (6:Int32)) = rwI (8 * (c / 6) + c % 6 + 8) ∧ (nI c - nI c / (6:Int32) * (6:Int32)) - (1:Int32) = clI (8 * (c / 6) + c % 6 + 8) ∧ (nI c / (6:Int32)) = rwI (8 * (c / 6) + c % 6 + 10) ∧ (nI c - nI c / (6:Int32) * (6:Int32)) + (1:Int32) = clI (8 * (c / 6) + c % 6 + 10) := by decide +kernel
theorem ed_fr (w : Int64) {c : Nat} (hc : c < 36) : fr w (8 * (c / 6) + c % 6 + 1) = (decide (6 ≤ c) && b6 w (c - 6)) ∧ fr w (8 * (c / 6) + c % 6 + 17) = (decide (c < 30) && b6 w (c + 6)) ∧ fr w (8 * (c / 6) + c % 6 + 8) = (decide (0 < c % 6) && b6 w (c - 1)) ∧ fr w (8 * (c / 6) + c % 6 + 10) = (decide (c % 6 < 5) && b6 w (c + 1)) := by
  refine ⟨?_, ?_, ?_, ?_⟩
  · unfold fr
    by_cases d : 6 ≤ c
    · rw [decide_eq_true d, decide_eq_true (by omega), show 6 * ((8 * (c / 6) + c % 6 + 1) / 8 - 1) + ((8 * (c / 6) + c % 6 + 1) % 8 - 1) = c - 6 by omega]
    · rw [decide_eq_false d, decide_eq_false (by omega), Bool.false_and, Bool.false_and]
  · unfold fr
    by_cases d : c < 30
    · rw [decide_eq_true d, decide_eq_true (by omega), show 6 * ((8 * (c / 6) + c % 6 + 17) / 8 - 1) + ((8 * (c / 6) + c % 6 + 17) % 8 - 1) = c + 6 by omega]
    · rw [decide_eq_false d, decide_eq_false (by omega), Bool.false_and, Bool.false_and]
  · unfold fr
    by_cases d : 0 < c % 6
    · rw [decide_eq_true d, decide_eq_true (by omega), show 6 * ((8 * (c / 6) + c % 6 + 8) / 8 - 1) + ((8 * (c / 6) + c % 6 + 8) % 8 - 1) = c - 1 by omega]
    · rw [decide_eq_false d, decide_eq_false (by omega), Bool.false_and, Bool.false_and]
  · unfold fr
    by_cases d : c % 6 < 5
    · rw [decide_eq_true d, decide_eq_true (by omega), show 6 * ((8 * (c / 6) + c % 6 + 10) / 8 - 1) + ((8 * (c / 6) + c % 6 + 10) % 8 - 1) = c + 1 by omega]
    · rw [decide_eq_false d, decide_eq_false (by omega), Bool.false_and, Bool.false_and]
theorem b01 (b : Bool) : (if bI b = (0:Int32) then (1:Int32) else 0) = nI (if b then 0 else 1) := by cases b <;> rfl
/-- 4 for each cell, less its neighbours -/
def edN (w : Int64) (k : Nat) : Nat := 4 * cnt (b6 w) k - (cnt (nL w) k + cnt (nR w) k + cnt (nU w) k + cnt (nD w) k)
theorem ed_le (w : Int64) (k : Nat) : cnt (nL w) k ≤ cnt (b6 w) k ∧ cnt (nR w) k ≤ cnt (b6 w) k ∧ cnt (nU w) k ≤ cnt (b6 w) k ∧ cnt (nD w) k ≤ cnt (b6 w) k := by
  refine ⟨cnt_mono k (fun i _ h => ?_), cnt_mono k (fun i _ h => ?_), cnt_mono k (fun i _ h => ?_), cnt_mono k (fun i _ h => ?_)⟩
  · unfold nL at h; rw [Bool.and_eq_true] at h; exact h.1
  · unfold nR at h; rw [Bool.and_eq_true] at h; exact h.1
  · unfold nU at h; rw [Bool.and_eq_true] at h; exact h.1
  · unfold nD at h; rw [Bool.and_eq_true] at h; exact h.1
theorem ed_step (w : Int64) (k : Nat) : edN w (k + 1) = edN w k + (if b6 w k then (if (decide (6 ≤ k) && b6 w (k - 6)) then 0 else 1) + (if (decide (k < 30) && b6 w (k + 6)) then 0 else 1) + (if (decide (0 < k % 6) && b6 w (k - 1)) then 0 else 1) + (if (decide (k % 6 < 5) && b6 w (k + 1)) then 0 else 1) else 0) := by
  obtain ⟨l1, l2, l3, l4⟩ := ed_le w k
  unfold edN
  show 4 * (cnt (b6 w) k + (if b6 w k then 1 else 0)) - ((cnt (nL w) k + (if nL w k then 1 else 0)) + (cnt (nR w) k + (if nR w k then 1 else 0)) + (cnt (nU w) k + (if nU w k then 1 else 0)) + (cnt (nD w) k + (if nD w k then 1 else 0))) = _
  unfold nL nR nU nD at *
  cases b6 w k with
  | false => simp
  | true =>
    simp only [Bool.true_and, if_true]
    cases (decide (0 < k % 6) && b6 w (k - 1)) <;> cases (decide (k % 6 < 5) && b6 w (k + 1)) <;> cases (decide (6 ≤ k) && b6 w (k - 6)) <;> cases (decide (k < 30) && b6 w (k + 6)) <;> simp <;> omega
theorem edges_eq (w : Int64) : M_edges w = some (nI (edN w 36)) := by
  unfold M_edges
  have h := wh_for (st := M_edges_s4 w) (r := nI (edN w 36)) (fun k => (nI (edN w k), nI k)) 36 (fun k hk => by
      obtain ⟨t1, t2, t3, t4, t5, t6, t7, t8⟩ := ed_tbl k hk
      obtain ⟨f1, f2, f3, f4⟩ := ed_fr w hk
      have a1 : M_hasAt ((nI k / (6:Int32)) - (1:Int32)) (nI k - nI k / (6:Int32) * (6:Int32)) w = bI (decide (6 ≤ k) && b6 w (k - 6)) := by
        rw [← f1, ← hasAt_eq (by omega) w, ← t1, ← t2]
      have a2 : M_hasAt ((nI k / (6:Int32)) + (1:Int32)) (nI k - nI k / (6:Int32) * (6:Int32)) w = bI (decide (k < 30) && b6 w (k + 6)) := by
        rw [← f2, ← hasAt_eq (by omega) w, ← t3, ← t4]
      have a3 : M_hasAt (nI k / (6:Int32)) ((nI k - nI k / (6:Int32) * (6:Int32)) - (1:Int32)) w = bI (decide (0 < k % 6) && b6 w (k - 1)) := by
        rw [← f3, ← hasAt_eq (by omega) w, ← t5, ← t6]
      have a4 : M_hasAt (nI k / (6:Int32)) ((nI k - nI k / (6:Int32) * (6:Int32)) + (1:Int32)) w = bI (decide (k % 6 < 5) && b6 w (k + 1)) := by
        rw [← f4, ← hasAt_eq (by omega) w, ← t7, ← t8]
      unfold M_edges_s4 M_edges_j106
      dsimp only
      rw [if_neg (show ¬ (36 : Int32) ≤ nI k from nI_ge (a := k) (b := 36) hk (by decide)), has_eq (by omega), bI_if, a1, a2, a3, a4, b01, b01, b01, b01, nI_add, nI_add, nI_add, nI_add, nI_1, ed_step]
      cases b6 w k with
      | false => rfl
      | true => rfl) (by
      unfold M_edges_s4
      dsimp only
      rw [if_pos (by decide)]) (by decide)
  exact wbind h
theorem edges_am {w : Int64} (h : R36 w) : M_edges w = some (G_amount w 2) := by
  unfold G_amount
  rw [if_neg (show ¬ (2:Int32) = 0 by decide), if_neg (show ¬ (2:Int32) = 1 by decide), edges_eq, bitCount_36 h, beside_eq h, below_eq h, nI_add, show (4:Int32) * nI (cnt (b6 w) 36) = nI (4 * cnt (b6 w) 36) from pk_mul 4 _, show (2:Int32) * nI (cnt (nR w) 36 + cnt (nD w) 36) = nI (2 * (cnt (nR w) 36 + cnt (nD w) 36)) from pk_mul 2 _]
  obtain ⟨l1, l2, l3, l4⟩ := ed_le w 36
  have e1 := nLR w
  have e2 := nUD w
  have c := cnt_le (b6 w) 36
  congr 1
  rw [iZ_nI, iZ_nI, iZ_nI, iZ_sub]
  congr 1
  unfold edN
  omega
/-- told, of a region: what it is -/
theorem amount_M {w : Int64} (h : R36 w) {k : Nat} (hk : k ≤ 2) : (k = 0 → M_cells w = some (G_amount w (nI k))) ∧ (k = 1 → M_blacks w = some (G_amount w (nI k))) ∧ (k = 2 → M_edges w = some (G_amount w (nI k))) :=
  ⟨fun e => by subst e; exact cells_am h, fun e => by subst e; exact blacks_am h, fun e => by subst e; exact edges_am h⟩
