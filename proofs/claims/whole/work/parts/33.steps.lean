/-! STEPS: the sides of a step, up steps, steps of the edge; what findSteps finds -/
def tg_b (p : Nat) : Bool := decide ((p / 8 + p % 8) % 2 = 0)
def sgI (b : Bool) : Int32 := if b then 1 else -1
def ceI (p : Nat) : Int32 := if 1 ≤ p / 8 ∧ p / 8 ≤ 6 ∧ 1 ≤ p % 8 ∧ p % 8 ≤ 6 then nI (6 * (p / 8 - 1) + (p % 8 - 1)) else -1
def oI (b : Bool) (v : Nat) : Int32 := if b then nI v else -1
theorem st_tbl : ∀ v, v < 49 → ∀ w, w < 4 → G_rise (nI v) (nI w) = sgI (tg_b (tg_lp v w)) ∧ M_heightOf (nI v) (nI w) = sgI (tg_b (tg_lp v w)) ∧ G_leftOf (nI v) (nI w) = ceI (tg_lp v w) ∧ G_rightOf (nI v) (nI w) = ceI (tg_rp v w) := by decide +kernel
theorem st_tbl2 : ∀ v, v < 49 → ∀ w, w < 4 → M_leftRow (nI v) (nI w) = rwI (tg_lp v w) ∧ M_leftColumn (nI v) (nI w) = clI (tg_lp v w) ∧ M_rightRow (nI v) (nI w) = rwI (tg_rp v w) ∧ M_rightColumn (nI v) (nI w) = clI (tg_rp v w) := by decide +kernel
theorem st_tbl3 : ∀ v, v < 49 → ∀ w, w < 4 → M_onBy (nI v) (nI w) = oI (tg_vd v w) (tg_nx v w) ∧ G_next (nI v) (nI w) = oI (tg_vd v w) (tg_nx v w) ∧ (tg_vd v w = true → nI v + G_stride (nI w) = nI (tg_nx v w)) := by decide +kernel
theorem holds_ce {p : Nat} (w : Int64) : G_holds w (ceI p) = bI (fr w p) := by
  unfold ceI fr
  by_cases c : 1 ≤ p / 8 ∧ p / 8 ≤ 6 ∧ 1 ≤ p % 8 ∧ p % 8 ≤ 6
  · rw [if_pos c, decide_eq_true c, Bool.true_and, holds_eq (by omega)]
  · rw [if_neg c, decide_eq_false c, Bool.false_and, holds_m1]; rfl
theorem hasL_eq {v w : Nat} (hv : v < 49) (hw : w < 4) (rg : Int64) : M_hasLeft (nI v) (nI w) rg = bI (fr rg (tg_lp v w)) := by
  obtain ⟨a, b, _, _⟩ := st_tbl2 v hv w hw
  unfold M_hasLeft
  rw [a, b, hasAt_eq (rp_64 hv hw).2]
theorem hasR_eq {v w : Nat} (hv : v < 49) (hw : w < 4) (rg : Int64) : M_hasRight (nI v) (nI w) rg = bI (fr rg (tg_rp v w)) := by
  obtain ⟨_, _, a, b⟩ := st_tbl2 v hv w hw
  unfold M_hasRight
  rw [a, b, hasAt_eq (rp_64 hv hw).1]
/-- a step by a cell of the region, up; down -/
def tg_A (F : Nat → Bool) (v w : Nat) : Bool := F (tg_lp v w) || F (tg_rp v w)
def tg_U (F : Nat → Bool) (v w : Nat) : Bool := tg_b (tg_lp v w) && tg_A F v w
def tg_D (F : Nat → Bool) (v w : Nat) : Bool := !tg_b (tg_lp v w) && tg_A F v w
def tg_of (F : Nat → Bool) (v : Nat) : Bool := F (tg_q v) || F (tg_q v + 1) || F (tg_q v + 8) || F (tg_q v + 9)
theorem of_tbl : ∀ v, v < 49 → (nI v / (7:Int32)) - (1:Int32) = rwI (tg_q v) ∧ (nI v - nI v / (7:Int32) * (7:Int32)) - (1:Int32) = clI (tg_q v) ∧ (nI v / (7:Int32)) - (1:Int32) = rwI (tg_q v + 1) ∧ (nI v - nI v / (7:Int32) * (7:Int32)) = clI (tg_q v + 1) ∧ (nI v / (7:Int32)) = rwI (tg_q v + 8) ∧ (nI v - nI v / (7:Int32) * (7:Int32)) - (1:Int32) = clI (tg_q v + 8) ∧ (nI v / (7:Int32)) = rwI (tg_q v + 9) ∧ (nI v - nI v / (7:Int32) * (7:Int32)) = clI (tg_q v + 9) ∧ tg_q v + 9 < 64 := by decide +kernel
theorem isOf_eq {v : Nat} (hv : v < 49) (w : Int64) : M_isOf (nI v) w = bI (tg_of (fr w) v) := by
  obtain ⟨a1, a2, a3, a4, a5, a6, a7, a8, a9⟩ := of_tbl v hv
  have e1 : M_hasAt ((nI v / (7:Int32)) - (1:Int32)) ((nI v - nI v / (7:Int32) * (7:Int32)) - (1:Int32)) w = bI (fr w (tg_q v)) := by rw [a1, a2]; exact hasAt_eq (by omega) w
  have e2 : M_hasAt ((nI v / (7:Int32)) - (1:Int32)) (nI v - nI v / (7:Int32) * (7:Int32)) w = bI (fr w (tg_q v + 1)) := by rw [a3, a4]; exact hasAt_eq (by omega) w
  have e3 : M_hasAt (nI v / (7:Int32)) ((nI v - nI v / (7:Int32) * (7:Int32)) - (1:Int32)) w = bI (fr w (tg_q v + 8)) := by rw [a6, a5]; exact hasAt_eq (by omega) w
  have e4 : M_hasAt (nI v / (7:Int32)) (nI v - nI v / (7:Int32) * (7:Int32)) w = bI (fr w (tg_q v + 9)) := by
    have : M_hasAt (rwI (tg_q v + 9)) (clI (tg_q v + 9)) w = bI (fr w (tg_q v + 9)) := hasAt_eq (by omega) w
    rw [← a7, ← a8] at this
    exact this
  unfold M_isOf tg_of
  rw [e1, e2, e3, e4, bI_if, bI_if, bI_if, bI_if]
  cases fr w (tg_q v) <;> cases fr w (tg_q v + 1) <;> cases fr w (tg_q v + 8) <;> cases fr w (tg_q v + 9) <;> rfl
/-! bits of an int -/
def b5 (x : Int32) (k : Nat) : Bool := x.toBitVec.getLsbD k
theorem b5_or (x y : Int32) (i : Nat) : b5 (x ||| y) i = (b5 x i || b5 y i) := by unfold b5; rw [Int32.toBitVec_or, BitVec.getLsbD_or]
theorem b5_0 (i : Nat) : b5 0 i = false := BitVec.getLsbD_zero
theorem b5_bit : ∀ n, n < 32 → ∀ i, i < 32 → b5 ((1:Int32) <<< (nI n &&& 31)) i = decide (i = n) := by decide +kernel
theorem s5_u : ∀ n, n < 32 → (((nI n).toUInt32 &&& Int32.toUInt32 31).toBitVec % 32).toNat = n := by decide +kernel
theorem b5_ushr (n : Nat) (hn : n < 32) (x : Int32) (i : Nat) : b5 ((x.toUInt32 >>> ((nI n).toUInt32 &&& Int32.toUInt32 31)).toInt32) i = b5 x (n + i) := by
  unfold b5
  rw [UInt32.toBitVec_toInt32, UInt32.toBitVec_shiftRight, BitVec.ushiftRight_eq', s5_u n hn, BitVec.getLsbD_ushiftRight]
  rfl
theorem b5_and (x y : Int32) (i : Nat) : b5 (x &&& y) i = (b5 x i && b5 y i) := by unfold b5; rw [Int32.toBitVec_and, BitVec.getLsbD_and]
theorem b5_ext {x y : Int32} (h : ∀ i, i < 32 → b5 x i = b5 y i) : x = y := Int32.toBitVec_inj.mp (BitVec.eq_of_getLsbD_eq (fun i hi => h i hi))
theorem b5_1 : ∀ i, i < 32 → b5 1 i = decide (i = 0) := by decide +kernel
theorem isAmong_eq {x : Int32} {w s : Nat} (h : w + s < 32) : O_isAmong x (nI w) (nI s) = bI (b5 x (w + s)) := by
  unfold O_isAmong
  rw [nI_add]
  have e : ((x.toUInt32 >>> ((nI (w + s)).toUInt32 &&& Int32.toUInt32 31)).toInt32 &&& 1 = 0) ↔ b5 x (w + s) = false := by
    constructor
    · intro q
      have q1 := congrArg (fun y => b5 y 0) q
      rw [b5_and, b5_ushr _ h, b5_0, b5_1 0 (by decide)] at q1
      simpa using q1
    · intro q
      apply b5_ext
      intro i hi
      rw [b5_and, b5_ushr _ h, b5_0, b5_1 i hi]
      by_cases c : i = 0
      · subst c; rw [Nat.add_zero, q]; rfl
      · rw [decide_eq_false c, Bool.and_false]
  cases c : b5 x (w + s) with
  | false => rw [if_pos (e.mpr c)]; rfl
  | true => rw [if_neg (fun q => by rw [e.mp q] at c; cases c)]; rfl
/-- the ways from a vertex as bits -/
def tg_s (F : Nat → Bool) (v i : Nat) : Bool := if i < 4 then tg_U F v i else if i < 8 then tg_D F v (i - 4) else if i < 12 then tg_E F v (i - 8) else false
theorem tg_s_step (F : Nat → Bool) (v : Nat) {k i : Nat} (hk : k < 4) : (decide (i % 4 < k + 1) && tg_s F v i) = ((decide (i % 4 < k) && tg_s F v i) || ((decide (i = k) && tg_U F v k) || (decide (i = k + 4) && tg_D F v k) || (decide (i = k + 8) && tg_E F v k))) := by
  by_cases c1 : i % 4 < k
  · rw [decide_eq_true c1, decide_eq_true (show i % 4 < k + 1 by omega), decide_eq_false (show ¬ i = k by omega), decide_eq_false (show ¬ i = k + 4 by omega), decide_eq_false (show ¬ i = k + 8 by omega)]
    simp
  · rw [decide_eq_false c1]
    by_cases c2 : i % 4 = k
    · rw [decide_eq_true (show i % 4 < k + 1 by omega), Bool.true_and, Bool.false_and, Bool.false_or]
      unfold tg_s
      by_cases d1 : i < 4
      · have : i = k := by omega
        subst this
        rw [if_pos d1, decide_eq_true rfl, decide_eq_false (show ¬ i = i + 4 by omega), decide_eq_false (show ¬ i = i + 8 by omega)]; simp
      · rw [if_neg d1]
        by_cases d2 : i < 8
        · have : i = k + 4 := by omega
          subst this
          rw [if_pos d2, decide_eq_true rfl, decide_eq_false (show ¬ k + 4 = k by omega), decide_eq_false (show ¬ k + 4 = k + 8 by omega)]; simp
        · rw [if_neg d2]
          by_cases d3 : i < 12
          · have : i = k + 8 := by omega
            subst this
            rw [if_pos d3, decide_eq_true rfl, decide_eq_false (show ¬ k + 8 = k by omega), decide_eq_false (show ¬ k + 8 = k + 4 by omega)]; simp
          · rw [if_neg d3, decide_eq_false (show ¬ i = k by omega), decide_eq_false (show ¬ i = k + 4 by omega), decide_eq_false (show ¬ i = k + 8 by omega)]; rfl
    · rw [decide_eq_false (show ¬ i % 4 < k + 1 by omega), decide_eq_false (show ¬ i = k by omega), decide_eq_false (show ¬ i = k + 4 by omega), decide_eq_false (show ¬ i = k + 8 by omega)]; rfl
/-- what is found -/
def tg_okS (F : Nat → Bool) (v : Nat) (x : Int32) : Prop := ∀ i, i < 32 → b5 x i = tg_s F v i
def tg_an (F : Nat → Bool) (v k : Nat) : Bool := (decide (0 < k) && tg_A F v 0) || (decide (1 < k) && tg_A F v 1) || (decide (2 < k) && tg_A F v 2) || (decide (3 < k) && tg_A F v 3)
theorem tg_an_s (F : Nat → Bool) (v : Nat) {k : Nat} (hk : k < 4) : tg_an F v (k + 1) = (tg_an F v k || tg_A F v k) := by
  rcases w4 hk with q | q | q | q <;> subst q <;> unfold tg_an
  · cases tg_A F v 0 <;> simp
  · cases tg_A F v 0 <;> cases tg_A F v 1 <;> simp
  · cases tg_A F v 0 <;> cases tg_A F v 1 <;> cases tg_A F v 2 <;> simp
  · cases tg_A F v 0 <;> cases tg_A F v 1 <;> cases tg_A F v 2 <;> cases tg_A F v 3 <;> simp
theorem tg_an_of (F : Nat → Bool) (v : Nat) : tg_an F v 4 = tg_of F v := by
  have e : tg_an F v 4 = (tg_A F v 0 || tg_A F v 1 || tg_A F v 2 || tg_A F v 3) := rfl
  rw [e]
  show ((F (tg_q v + 1) || F (tg_q v + 9)) || (F (tg_q v + 9) || F (tg_q v + 8)) || (F (tg_q v + 8) || F (tg_q v + 0)) || (F (tg_q v + 0) || F (tg_q v + 1))) = (F (tg_q v) || F (tg_q v + 1) || F (tg_q v + 8) || F (tg_q v + 9))
  rw [Nat.add_zero]
  cases F (tg_q v) <;> cases F (tg_q v + 1) <;> cases F (tg_q v + 8) <;> cases F (tg_q v + 9) <;> rfl
theorem fs_step {F : Nat → Bool} {v k : Nat} {x : Int32} (hk : k < 4) (hx : ∀ i, i < 32 → b5 x i = (decide (i % 4 < k) && tg_s F v i)) {y : Int32} (hy : ∀ i, i < 32 → b5 y i = (b5 x i || ((decide (i = k) && tg_U F v k) || (decide (i = k + 4) && tg_D F v k) || (decide (i = k + 8) && tg_E F v k)))) : ∀ i, i < 32 → b5 y i = (decide (i % 4 < k + 1) && tg_s F v i) := fun i hi => by
  rw [hy i hi, hx i hi, tg_s_step F v hk]
theorem upd_upd (f : Nat → Int32) (k : Nat) (x y : Int32) : upd (upd f k x) k y = upd f k y := by
  funext j
  rw [upd_at, upd_at, upd_at]
  split <;> rfl
theorem fs_in {w : Int64} {v : Nat} (hv : v < 49) : ∀ (n k : Nat) (oc : Int64) (x : Int32) (ost : Nat → Int32), n + k = 4 → (∀ i, i < 32 → b5 x i = (decide (i % 4 < k) && tg_s (fr w) v i)) → ∀ N, n < N → ∃ oc' x', wh (O_findSteps_s22 (nI v) w) N (nI k, oc, upd ost v x) = some (oc', upd ost v x') ∧ tg_okS (fr w) v x' ∧ (∀ i, i < 64 → b6 oc' i = (b6 oc i || (decide (i = v) && ((decide (k ≤ 0) && tg_A (fr w) v 0) || (decide (k ≤ 1) && tg_A (fr w) v 1) || (decide (k ≤ 2) && tg_A (fr w) v 2) || (decide (k ≤ 3) && tg_A (fr w) v 3))))) := by
  intro n
  induction n with
  | zero =>
    intro k oc x ost hk hx N hN
    have : k = 4 := by omega
    subst this
    refine ⟨oc, x, ?_, fun i hi => ?_, fun i hi => by simp⟩
    · rw [show N = (N - 1) + 1 by omega]
      refine wh_inr ?_
      unfold O_findSteps_s22
      dsimp only
      rw [if_pos (by decide)]
    · rw [hx i hi, decide_eq_true (show i % 4 < 4 by omega), Bool.true_and]
  | succ n ih =>
    intro k oc x ost hk hx N hN
    have hk4 : k < 4 := by omega
    obtain ⟨t1, _, t3, t4⟩ := st_tbl v hv k hk4
    have g4 : ¬ (4 : Int32) ≤ nI k := nI_ge (a := k) (b := 4) hk4 (by decide)
    have gv : gi (nI v) 49 = true := gi_nI hv (by decide)
    have cv : (nI v).toNatClampNeg = v := nI_clamp (by omega)
    have hb6 : ∀ i, i < 64 → b6 ((1:Int64) <<< ((nI v).toInt64 &&& 63)) i = decide (i = v) := fun i hi => b6_bit (by omega) hi
    have hA : ∀ i, ((decide (k ≤ 0) && tg_A (fr w) v 0) || (decide (k ≤ 1) && tg_A (fr w) v 1) || (decide (k ≤ 2) && tg_A (fr w) v 2) || (decide (k ≤ 3) && tg_A (fr w) v 3)) = (tg_A (fr w) v k || ((decide (k + 1 ≤ 0) && tg_A (fr w) v 0) || (decide (k + 1 ≤ 1) && tg_A (fr w) v 1) || (decide (k + 1 ≤ 2) && tg_A (fr w) v 2) || (decide (k + 1 ≤ 3) && tg_A (fr w) v 3))) := fun (_ : Nat) => by
      rcases w4 hk4 with q | q | q | q <;> subst q
      · cases tg_A (fr w) v 0 <;> simp
      · cases tg_A (fr w) v 1 <;> simp
      · cases tg_A (fr w) v 2 <;> simp
      · cases tg_A (fr w) v 3 <;> simp
    have go : ∀ (oc1 : Int64) (y : Int32), O_findSteps_s22 (nI v) w (nI k, oc, upd ost v x) = some (Sum.inl (nI (k + 1), oc1, upd ost v y)) → (∀ i, i < 64 → b6 oc1 i = (b6 oc i || (decide (i = v) && tg_A (fr w) v k))) → (∀ i, i < 32 → b5 y i = (b5 x i || ((decide (i = k) && tg_U (fr w) v k) || (decide (i = k + 4) && tg_D (fr w) v k) || (decide (i = k + 8) && tg_E (fr w) v k)))) → ∃ oc' x', wh (O_findSteps_s22 (nI v) w) N (nI k, oc, upd ost v x) = some (oc', upd ost v x') ∧ tg_okS (fr w) v x' ∧ (∀ i, i < 64 → b6 oc' i = (b6 oc i || (decide (i = v) && ((decide (k ≤ 0) && tg_A (fr w) v 0) || (decide (k ≤ 1) && tg_A (fr w) v 1) || (decide (k ≤ 2) && tg_A (fr w) v 2) || (decide (k ≤ 3) && tg_A (fr w) v 3))))) := fun oc1 y e1 e2 e3 => by
      rw [show N = (N - 1) + 1 by omega, wh_inl e1]
      obtain ⟨oc', x', z1, z2, z3⟩ := ih (k + 1) oc1 y ost (by omega) (fs_step hk4 hx e3) (N - 1) (by omega)
      refine ⟨oc', x', z1, z2, fun i hi => ?_⟩
      rw [z3 i hi, e2 i hi, hA i]
      cases b6 oc i <;> cases decide (i = v) <;> cases tg_A (fr w) v k <;> simp
    have hu : ∀ j, j < 32 → ∀ i, i < 32 → b5 ((1:Int32) <<< (nI j &&& 31)) i = decide (i = j) := fun j hj i hi => b5_bit j hj i hi
    have j105 : ∀ (oc1 : Int64) (y : Int32), O_findSteps_j105 (nI v) (nI k) (bI (fr w (tg_lp v k))) (bI (fr w (tg_rp v k))) oc1 (upd ost v y) = some (Sum.inl (nI (k + 1), oc1, upd ost v (if tg_E (fr w) v k then y ||| ((1:Int32) <<< (nI (k + 8) &&& 31)) else y))) := fun oc1 y => by
      unfold O_findSteps_j105 O_findSteps_j133
      rw [bI_if, bI_if, gv, grd_t rfl, grd_t rfl, cv, upd_eq, upd_upd, nI_1, show nI k + (8:Int32) = nI (k + 8) from nI_add k 8]
      unfold tg_E
      cases fr w (tg_rp v k) <;> cases fr w (tg_lp v k) <;> rfl
    have st : O_findSteps_s22 (nI v) w (nI k, oc, upd ost v x) = if tg_A (fr w) v k then some (Sum.inl (nI (k + 1), oc ||| ((1:Int64) <<< ((nI v).toInt64 &&& 63)), upd ost v (if tg_E (fr w) v k then (x ||| ((1:Int32) <<< (nI (if tg_b (tg_lp v k) then k else k + 4) &&& 31))) ||| ((1:Int32) <<< (nI (k + 8) &&& 31)) else x ||| ((1:Int32) <<< (nI (if tg_b (tg_lp v k) then k else k + 4) &&& 31))))) else some (Sum.inl (nI (k + 1), oc, upd ost v (if tg_E (fr w) v k then x ||| ((1:Int32) <<< (nI (k + 8) &&& 31)) else x))) := by
      unfold O_findSteps_s22
      dsimp only
      rw [if_neg g4, t3, t4, holds_ce, holds_ce, bI_if, bI_if]
      unfold O_findSteps_j63
      rw [t1, gv, grd_t rfl, grd_t rfl, cv, upd_eq, upd_upd, j105, j105]
      have er : (if sgI (tg_b (tg_lp v k)) ≤ (0:Int32) then nI k + (4:Int32) else nI k) = nI (if tg_b (tg_lp v k) then k else k + 4) := by
        rw [show nI k + (4:Int32) = nI (k + 4) from nI_add k 4]
        cases tg_b (tg_lp v k) <;> rfl
      rw [er]
      unfold tg_A
      cases fr w (tg_lp v k) <;> cases fr w (tg_rp v k) <;> rfl
    cases hAk : tg_A (fr w) v k with
    | false =>
      have hE : tg_E (fr w) v k = false := by
        unfold tg_A at hAk
        unfold tg_E
        cases e1 : fr w (tg_rp v k) with
        | false => rfl
        | true => rw [e1, Bool.or_true] at hAk; cases hAk
      refine go _ _ (by rw [st, hAk, hE]; rfl) (fun i hi => by rw [hAk, Bool.and_false, Bool.or_false]) (fun i hi => ?_)
      unfold tg_U tg_D
      rw [hAk, hE]
      simp
    | true =>
      refine go _ _ (by rw [st, hAk, if_pos rfl]) (fun i hi => by rw [b6_or, hb6 i hi, hAk, Bool.and_true]) (fun i hi => ?_)
      unfold tg_U tg_D
      rw [hAk]
      cases hE : tg_E (fr w) v k <;> cases hb : tg_b (tg_lp v k)
      · simp only [Bool.false_eq_true, if_false]
        rw [b5_or, hu (k + 4) (by omega) i hi]
        simp
      · simp only [Bool.false_eq_true, if_false, if_true]
        rw [b5_or, hu k (by omega) i hi]
        simp
      · simp only [Bool.false_eq_true, if_false, if_true]
        rw [b5_or, b5_or, hu (k + 4) (by omega) i hi, hu (k + 8) (by omega) i hi]
        simp [Bool.or_assoc]
      · simp only [if_true]
        rw [b5_or, b5_or, hu k (by omega) i hi, hu (k + 8) (by omega) i hi]
        simp [Bool.or_assoc]
theorem findSteps_eq (w : Int64) (ost : Nat → Int32) : ∃ oc st, O_findSteps w ost = some (oc, st) ∧ (∀ v, v < 49 → tg_okS (fr w) v (st v)) ∧ (∀ i, i < 64 → b6 oc i = (decide (i < 49) && tg_of (fr w) i)) := by
  unfold O_findSteps
  have := wh_tot (st := O_findSteps_s7 w) (B := fun r => (∀ v, v < 49 → tg_okS (fr w) v (r.2 v)) ∧ (∀ i, i < 64 → b6 r.1 i = (decide (i < 49) && tg_of (fr w) i)))
    (fun m s => ∃ k, k + m = 49 ∧ s.1 = nI k ∧ (∀ v, v < k → tg_okS (fr w) v (s.2.2 v)) ∧ (∀ i, i < 64 → b6 s.2.1 i = (decide (i < k) && tg_of (fr w) i))) ?_ FU 49 ((0:Int32), (0:Int64), ost) (by have := FU_big; omega) ⟨0, rfl, rfl, fun v hv => absurd hv (Nat.not_lt_zero _), fun i hi => by rw [b6_0]; simp⟩
  · obtain ⟨⟨oc, st⟩, e, h1, h2⟩ := this
    exact ⟨oc, st, wbind e, h1, h2⟩
  · rintro m ⟨y, oc, st⟩ ⟨k, hk, e1, h1, h2⟩
    dsimp only at e1 h1 h2
    subst e1
    unfold O_findSteps_s7
    dsimp only
    rcases Nat.lt_or_ge k 49 with q | q
    · right
      obtain ⟨oc', x', z1, z2, z3⟩ := fs_in (w := w) q 4 0 oc 0 st rfl (fun i hi => by rw [b5_0]; simp) FU (by have := FU_big; omega)
      have z1 : wh (O_findSteps_s22 (nI k) w) FU ((0:Int32), oc, upd st k 0) = some (oc', upd st k x') := z1
      rw [if_neg (show ¬ (49 : Int32) ≤ nI k from nI_ge (a := k) (b := 49) q (by decide)), grd_t (gi_nI q (by decide)), nI_clamp (by omega), z1, wbind rfl, nI_1]
      refine ⟨m - 1, _, by omega, rfl, k + 1, by omega, rfl, fun v hv => ?_, fun i hi => ?_⟩
      · dsimp only
        rw [upd_at]
        by_cases c : v = k
        · rw [if_pos c, c]; exact z2
        · rw [if_neg c]; exact h1 v (by omega)
      · dsimp only
        rw [z3 i hi, h2 i hi]
        have e4 : ((decide (0 ≤ 0) && tg_A (fr w) k 0) || (decide (0 ≤ 1) && tg_A (fr w) k 1) || (decide (0 ≤ 2) && tg_A (fr w) k 2) || (decide (0 ≤ 3) && tg_A (fr w) k 3)) = tg_of (fr w) k := tg_an_of (fr w) k
        rw [e4]
        by_cases c : i = k
        · subst c
          rw [decide_eq_false (Nat.lt_irrefl _), decide_eq_true rfl, decide_eq_true (Nat.lt_succ_self _)]; simp
        · rw [decide_eq_false c]
          have : (i < k + 1) ↔ (i < k) := by omega
          simp [this]
    · left
      have : k = 49 := by omega
      subst this
      rw [if_pos (by decide)]
      exact ⟨_, rfl, h1, h2⟩
