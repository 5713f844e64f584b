/-! WHETHER IT HANGS TOGETHER: the class's and the reference's way -/
def fr (w : Int64) (p : Nat) : Bool := decide (1 ≤ p / 8 ∧ p / 8 ≤ 6 ∧ 1 ≤ p % 8 ∧ p % 8 ≤ 6) && b6 w (6 * (p / 8 - 1) + (p % 8 - 1))
theorem fr_Fr (w : Int64) : tg_Fr (fr w) := fun p h => by
  unfold fr
  rw [decide_eq_false (by omega), Bool.false_and]
theorem Cn_congr {P Q : Nat → Bool} (e : ∀ p, p < 64 → P p = Q p) (h : tg_Cn P) : tg_Cn Q := fun f hf p q hp hq h1 h2 => h f (fun a b ha hb hab x y => hf a b ha hb hab (by rw [← e a ha]; exact x) (by rw [← e b hb]; exact y)) p q hp hq (by rw [e p hp]; exact h1) (by rw [e q hq]; exact h2)
theorem cnt_mono {f g : Nat → Bool} : ∀ n, (∀ i, i < n → f i = true → g i = true) → cnt f n ≤ cnt g n
  | 0, _ => Nat.le_refl _
  | n + 1, h => by
    have ih := cnt_mono n (fun i hi => h i (by omega))
    have hn := h n (by omega)
    show cnt f n + (if f n then 1 else 0) ≤ cnt g n + (if g n then 1 else 0)
    cases e : f n with
    | false => simp; omega
    | true => rw [hn e]; simp; omega
theorem cnt_lt {f g : Nat → Bool} : ∀ n, (∀ i, i < n → f i = true → g i = true) → (∃ i, i < n ∧ f i = false ∧ g i = true) → cnt f n < cnt g n
  | 0, _, ⟨_, h, _⟩ => absurd h (Nat.not_lt_zero _)
  | n + 1, h, ⟨k, hk, k1, k2⟩ => by
    have hn := h n (by omega)
    show cnt f n + (if f n then 1 else 0) < cnt g n + (if g n then 1 else 0)
    rcases Nat.lt_or_ge k n with c | c
    · have ih := cnt_lt n (fun i hi => h i (by omega)) ⟨k, c, k1, k2⟩
      cases e : f n with
      | false => simp; omega
      | true => rw [hn e]; simp; omega
    · have e : k = n := by omega
      subst e
      have ih := cnt_mono k (fun i hi => h i (by omega))
      rw [k1, k2]; simp; omega
theorem cnt_add1 {f g : Nat → Bool} {k : Nat} (hf : f k = false) (hg : ∀ i, g i = (f i || decide (i = k))) : ∀ n, cnt g n = cnt f n + (if k < n then 1 else 0)
  | 0 => rfl
  | n + 1 => by
    have ih := cnt_add1 hf hg n
    show cnt g n + (if g n then 1 else 0) = cnt f n + (if f n then 1 else 0) + _
    rw [ih, hg n]
    by_cases q : n = k
    · subst q
      rw [hf, if_neg (Nat.lt_irrefl _), if_pos (Nat.lt_succ_self _)]
      simp
    · have e : (k < n + 1) ↔ (k < n) := by omega
      rw [decide_eq_false q, Bool.or_false]
      simp only [e]
      omega
/-- the lowest bit -/
theorem low_bit {w : Int64} {l : Nat} (hl : l < 64) (h1 : b6 w l = true) (h2 : ∀ i, i < l → b6 w i = false) {i : Nat} (hi : i < 64) : b6 (w &&& -w) i = decide (i = l) := by
  rw [b6_and]
  have e : b6 (-w) i = (b6 w i ^^ decide (∃ j, j < i ∧ b6 w j = true)) := by
    unfold b6
    rw [Int64.toBitVec_neg, BitVec.getLsbD_neg]
    rw [decide_eq_true hi, Bool.true_and]
  rw [e]
  rcases Nat.lt_or_ge i l with c | c
  · rw [h2 i c, decide_eq_false (show ¬ i = l by omega), Bool.false_and]
  · by_cases q : i = l
    · subst q
      rw [h1, decide_eq_false (show ¬ ∃ j, j < i ∧ b6 w j = true from fun ⟨j, j1, j2⟩ => by rw [h2 j j1] at j2; cases j2), decide_eq_true rfl]
      rfl
    · rw [decide_eq_true (show ∃ j, j < i ∧ b6 w j = true from ⟨l, by omega, h1⟩), decide_eq_false q]
      cases b6 w i <;> rfl
theorem low_0 : (0 : Int64) &&& -0 = 0 := by decide +kernel
theorem b6_none {w : Int64} (h : ∀ i, i < 64 → b6 w i = false) : w = 0 := b6_ext (fun i hi => by rw [h i hi, b6_0])
theorem b6_least (w : Int64) (h : ¬ w = 0) : ∃ l, l < 64 ∧ b6 w l = true ∧ ∀ i, i < l → b6 w i = false := by
  have h1 : ∃ l, l < 64 ∧ b6 w l = true := by
    by_cases c : ∃ l, l < 64 ∧ b6 w l = true
    · exact c
    · refine absurd (b6_none fun i hi => ?_) h
      cases e : b6 w i with
      | false => rfl
      | true => exact absurd ⟨i, hi, e⟩ c
  obtain ⟨l, ⟨hl, hb⟩, hm⟩ := tg_least (P := fun l => l < 64 ∧ b6 w l = true) h1
  refine ⟨l, hl, hb, fun i hi => ?_⟩
  cases e : b6 w i with
  | false => rfl
  | true => exact absurd ⟨by omega, e⟩ (hm i hi)
theorem cnt_dec {l : Nat} : ∀ n, l ≤ n → cnt (fun i => decide (i < l)) n = l
  | 0, h => by simp [cnt]; omega
  | n + 1, h => by
    show cnt (fun i => decide (i < l)) n + (if decide (n < l) then 1 else 0) = l
    by_cases q : l ≤ n
    · rw [cnt_dec n q, decide_eq_false (by omega)]; rfl
    · have e : l = n + 1 := by omega
      subst e
      rw [cnt_congr (g := fun i => decide (i < n)) n (fun i hi => by rw [decide_eq_true (show i < n + 1 by omega), decide_eq_true hi]), cnt_dec n (Nat.le_refl n), decide_eq_true (Nat.lt_succ_self n)]
      rfl
/-- the least cell -/
theorem low_count {w : Int64} {l : Nat} (hl : l < 64) (h1 : b6 w l = true) (h2 : ∀ i, i < l → b6 w i = false) : J_Long_bitCount ((w &&& -w) - 1) = nI l := by
  have e : (w &&& -w) = (1 : Int64) <<< ((nI l).toInt64 &&& 63) := b6_ext (fun i hi => by rw [low_bit hl h1 h2 hi, b6_bit hl hi])
  have e2 : ((w &&& -w) - 1).toBitVec.toNat = 2 ^ l - 1 := by
    have q1 : U (w &&& -w) = 2 ^ l := by
      rw [e]
      unfold U
      rw [Int64.toBitVec_shiftLeft, BitVec.shiftLeft_eq', s6_l l hl]
      rw [BitVec.toNat_shiftLeft]
      show (1 : Nat) <<< l % 2 ^ 64 = 2 ^ l
      rw [Nat.one_shiftLeft, Nat.mod_eq_of_lt (Nat.pow_lt_pow_right (by decide) hl)]
    have q2 := U_sub (w &&& -w) 1
    rw [q1, show U 1 = 1 from rfl] at q2
    have q3 : 2 ^ l < 2 ^ 64 := Nat.pow_lt_pow_right (by decide) hl
    have q4 : 0 < 2 ^ l := Nat.pow_pos (by decide)
    show U ((w &&& -w) - 1) = _
    rw [q2]
    omega
  rw [bitCount_eq]
  congr 1
  rw [cnt_congr (g := fun i => decide (i < l)) 64 (fun i hi => by
    show ((w &&& -w) - 1).toBitVec.getLsbD i = _
    rw [← BitVec.testBit_toNat, e2, Nat.testBit_two_pow_sub_one])]
  exact cnt_dec 64 (by omega)
/-! the class's -/
def hs_n (v r : Int64) : Int64 := (((r ||| (((r <<< ((1:Int32).toInt64 &&& 63)) &&& (-72340172838076674:Int64)) ||| (((r.toUInt64 >>> ((1:Int32).toInt64.toUInt64 &&& Int64.toUInt64 63)).toInt64) &&& (9187201950435737471:Int64)))) ||| (r <<< ((8:Int32).toInt64 &&& 63))) ||| ((r.toUInt64 >>> ((8:Int32).toInt64.toUInt64 &&& Int64.toUInt64 63)).toInt64)) &&& v
theorem hs_c1 : ∀ i, i < 64 → b6 (-72340172838076674) i = !decide (i % 8 = 0) := by decide +kernel
theorem hs_c2 : ∀ i, i < 64 → b6 9187201950435737471 i = !decide (i % 8 = 7) := by decide +kernel
theorem hs_b (v r : Int64) {i : Nat} (hi : i < 64) : b6 (hs_n v r) i = ((((b6 r i || ((decide (1 ≤ i) && b6 r (i - 1)) && !decide (i % 8 = 0) || b6 r (1 + i) && !decide (i % 8 = 7))) || (decide (8 ≤ i) && b6 r (i - 8))) || b6 r (8 + i)) && b6 v i) := by
  unfold hs_n
  rw [b6_and, b6_or, b6_or, b6_or, b6_or, b6_and, b6_and, show (1 : Int32) = nI 1 from rfl, show (8 : Int32) = nI 8 from rfl, b6_shl 1 (by decide) r hi, b6_shl 8 (by decide) r hi, b6_ushr 1 (by decide), b6_ushr 8 (by decide), hs_c1 i hi, hs_c2 i hi]
theorem hs_iff (v r : Int64) {i : Nat} (hi : i < 64) : b6 (hs_n v r) i = true ↔ b6 v i = true ∧ (b6 r i = true ∨ ∃ j, j < 64 ∧ tg_ad j i ∧ b6 r j = true) := by
  rw [hs_b v r hi]
  simp only [Bool.and_eq_true, Bool.or_eq_true, decide_eq_true_eq, Bool.not_eq_true', decide_eq_false_iff_not]
  constructor
  · rintro ⟨(((h | (h | h)) | h) | h), hv⟩
    · exact ⟨hv, Or.inl h⟩
    · exact ⟨hv, Or.inr ⟨i - 1, by omega, by unfold tg_ad; omega, h.1.2⟩⟩
    · by_cases c : 1 + i < 64
      · exact ⟨hv, Or.inr ⟨1 + i, c, by unfold tg_ad; omega, h.1⟩⟩
      · rw [b6_big (by omega)] at h; cases h.1
    · exact ⟨hv, Or.inr ⟨i - 8, by omega, by unfold tg_ad; omega, h.2⟩⟩
    · by_cases c : 8 + i < 64
      · exact ⟨hv, Or.inr ⟨8 + i, c, by unfold tg_ad; omega, h⟩⟩
      · rw [b6_big (by omega)] at h; cases h
  · rintro ⟨hv, h | ⟨j, hj, ha, h⟩⟩
    · exact ⟨Or.inl (Or.inl (Or.inl h)), hv⟩
    · refine ⟨?_, hv⟩
      unfold tg_ad at ha
      rcases ha with ⟨a, b⟩ | ⟨a, b⟩ | a | a
      · refine Or.inl (Or.inl (Or.inr (Or.inl ⟨⟨by omega, ?_⟩, by omega⟩)))
        rw [show i - 1 = j by omega]; exact h
      · refine Or.inl (Or.inl (Or.inr (Or.inr ⟨?_, by omega⟩)))
        rw [show 1 + i = j by omega]; exact h
      · refine Or.inl (Or.inr ⟨by omega, ?_⟩)
        rw [show i - 8 = j by omega]; exact h
      · refine Or.inr ?_
        rw [show 8 + i = j by omega]; exact h
def hs_r (v : Int64) : Nat → Int64
  | 0 => v &&& -v
  | k + 1 => hs_n v (hs_r v k)
theorem hang_run (v : Int64) : G_hangsTogether v = some (if hs_r v 64 = v then 1 else 0) := by
  unfold G_hangsTogether
  have h := wh_for (st := G_hangsTogether_s8 v) (r := hs_r v 64) (fun k => (hs_r v k, nI k)) 64 (fun k hk => by
      unfold G_hangsTogether_s8
      dsimp only
      rw [if_neg (show ¬ (64 : Int32) ≤ nI k from nI_ge (a := k) (b := 64) hk (by decide)), nI_1]
      rfl) (by
      unfold G_hangsTogether_s8
      dsimp only
      rw [if_pos (by decide)]) (by decide)
  exact wbind h
theorem hs_sub (v : Int64) : ∀ k i, i < 64 → b6 (hs_r v k) i = true → b6 v i = true
  | 0, i, _, h => by
    have h : b6 (v &&& -v) i = true := h
    rw [b6_and, Bool.and_eq_true] at h
    exact h.1
  | k + 1, i, hi, h => ((hs_iff v (hs_r v k) hi).mp h).1
theorem hs_up (v : Int64) (k i : Nat) (hi : i < 64) (h : b6 (hs_r v k) i = true) : b6 (hs_r v (k + 1)) i = true := (hs_iff v _ hi).mpr ⟨hs_sub v k i hi h, Or.inl h⟩
theorem hs_stop (v : Int64) {l : Nat} (hl : l < 64) (h1 : b6 v l = true) (h2 : ∀ i, i < l → b6 v i = false) : hs_r v 65 = hs_r v 64 := by
  have key : ∀ k, (∃ j, j < k ∧ hs_r v (j + 1) = hs_r v j) ∨ k + 1 ≤ cnt (b6 (hs_r v k)) 64 := fun k => by
    induction k with
    | zero =>
      right
      have := cnt_lt (f := fun _ => false) (g := b6 (hs_r v 0)) 64 (fun i _ h => by cases h) ⟨l, hl, rfl, by
        show b6 (v &&& -v) l = true
        rw [low_bit hl h1 h2 hl]
        exact decide_eq_true rfl⟩
      omega
    | succ k ih =>
      rcases ih with ⟨j, j1, j2⟩ | ih
      · exact Or.inl ⟨j, by omega, j2⟩
      · by_cases c : hs_r v (k + 1) = hs_r v k
        · exact Or.inl ⟨k, by omega, c⟩
        · right
          have : ∃ i, i < 64 ∧ b6 (hs_r v k) i = false ∧ b6 (hs_r v (k + 1)) i = true := by
            by_cases c2 : ∃ i, i < 64 ∧ b6 (hs_r v k) i = false ∧ b6 (hs_r v (k + 1)) i = true
            · exact c2
            · refine absurd (b6_ext fun i hi => ?_) c
              cases e : b6 (hs_r v k) i with
              | true => exact hs_up v k i hi e
              | false =>
                cases e2 : b6 (hs_r v (k + 1)) i with
                | false => rfl
                | true => exact absurd ⟨i, hi, e, e2⟩ c2
          have := cnt_lt 64 (fun i hi => hs_up v k i hi) this
          omega
  rcases key 64 with ⟨j, j1, j2⟩ | h
  · have st : ∀ m, hs_r v (j + m) = hs_r v j := fun m => by
      induction m with
      | zero => rfl
      | succ m ih =>
        show hs_n v (hs_r v (j + m)) = _
        rw [ih]
        exact j2
    rw [show 65 = j + (65 - j) by omega, show 64 = j + (64 - j) by omega, st, st]
  · have := cnt_le (b6 (hs_r v 64)) 64
    omega
/-- the class's way finds whether it hangs together -/
theorem hang_eq (v : Int64) : hs_r v 64 = v ↔ tg_Cn (b6 v) := by
  by_cases hz : v = 0
  · subst hz
    have e : ∀ k, hs_r 0 k = 0 := fun k => b6_none fun i hi => by
      cases e : b6 (hs_r 0 k) i with
      | false => rfl
      | true =>
        have := hs_sub 0 k i hi e
        rw [b6_0] at this
        cases this
    rw [e]
    exact ⟨fun _ f _ p q hp hq h1 h2 => (by rw [b6_0] at h1; cases h1), fun _ => rfl⟩
  obtain ⟨l, hl, h1, h2⟩ := b6_least v hz
  have h0 : b6 (hs_r v 0) l = true := by
    show b6 (v &&& -v) l = true
    rw [low_bit hl h1 h2 hl]
    exact decide_eq_true rfl
  have hin : ∀ k, b6 (hs_r v k) l = true := fun k => by
    induction k with
    | zero => exact h0
    | succ k ih => exact hs_up v k l hl ih
  constructor
  · intro e f hf p q hp hq hp1 hq1
    have key : ∀ k i, i < 64 → b6 (hs_r v k) i = true → f i = f l := fun k => by
      induction k with
      | zero =>
        intro i hi h
        have h : b6 (v &&& -v) i = true := h
        rw [low_bit hl h1 h2 hi] at h
        rw [of_decide_eq_true h]
      | succ k ih =>
        intro i hi h
        rcases ((hs_iff v _ hi).mp h) with ⟨hv, h | ⟨j, hj, ha, h⟩⟩
        · exact ih i hi h
        · rw [← ih j hj h]
          exact (hf j i hj hi ha (hs_sub v k j hj h) hv).symm
    rw [← e] at hp1 hq1
    rw [key 64 p hp hp1, key 64 q hq hq1]
  · intro hC
    have hst := hs_stop v hl h1 h2
    refine b6_ext fun i hi => ?_
    cases e : b6 v i with
    | false =>
      cases e2 : b6 (hs_r v 64) i with
      | false => rfl
      | true =>
        rw [hs_sub v 64 i hi e2] at e
        cases e
    | true =>
      have := hC (b6 (hs_r v 64)) (fun p q hp hq ha k1 k2 => by
        have one : ∀ p q, p < 64 → q < 64 → tg_ad p q → b6 v q = true → b6 (hs_r v 64) p = true → b6 (hs_r v 64) q = true := fun p q hp hq ha k2 k => by
          rw [← hst]
          exact (hs_iff v _ hq).mpr ⟨k2, Or.inr ⟨p, hp, ha, k⟩⟩
        have ha' : tg_ad q p := by unfold tg_ad at ha ⊢; omega
        rw [Bool.eq_iff_iff]
        exact ⟨one p q hp hq ha k2, one q p hq hp ha' k1⟩) i l hi hl e h1
      rw [this, hin]
theorem frame_run (w : Int64) : ∃ x, wh (G_isSimple_s5 w) FU ((0:Int64), (0:Int32)) = some x ∧ ∀ i, i < 64 → b6 x i = fr w i := by
  refine wh_tot (fun m s => ∃ k, k + m = 6 ∧ s.2 = nI k ∧ ∀ i, i < 64 → b6 s.1 i = (decide (i / 8 ≤ k) && fr w i)) ?_ FU 6 ((0:Int64), (0:Int32)) (by have := FU_big; omega) ⟨0, by omega, rfl, ?_⟩
  · intro m s hI
    obtain ⟨k, hk, e, hb⟩ := hI
    obtain ⟨x, y⟩ := s
    dsimp only at e hb
    subst e
    unfold G_isSimple_s5
    dsimp only
    rcases Nat.lt_or_ge k 6 with q | q
    · right
      rw [if_neg (show ¬ (6 : Int32) ≤ nI k from nI_ge (a := k) (b := 6) q (by decide)), nI_1, show nI k * (6 : Int32) = nI (k * 6) from pk_mul k 6, show nI (k + 1) * (8 : Int32) = nI ((k + 1) * 8) from pk_mul (k + 1) 8, nI_1]
      refine ⟨m - 1, _, by omega, rfl, k + 1, by omega, rfl, fun i hi => ?_⟩
      dsimp only
      rw [b6_or, b6_shl _ (by omega) _ hi, b6_and, b6_ushr _ (by omega), hb i hi]
      have c63 : b6 63 (i - ((k + 1) * 8 + 1)) = decide (i - ((k + 1) * 8 + 1) < 6) := (by decide +kernel : ∀ i, i < 64 → b6 63 i = decide (i < 6)) _ (by omega)
      rw [c63]
      unfold fr
      by_cases c1 : i / 8 ≤ k
      · rw [decide_eq_true c1, decide_eq_true (show i / 8 ≤ k + 1 by omega), decide_eq_false (show ¬ ((k + 1) * 8 + 1 ≤ i) by omega)]
        simp
      · rw [decide_eq_false c1]
        by_cases c2 : i / 8 ≤ k + 1
        · rw [decide_eq_true c2]
          by_cases c3 : 1 ≤ i % 8 ∧ i % 8 ≤ 6
          · rw [decide_eq_true (show (k + 1) * 8 + 1 ≤ i by omega), decide_eq_true (show i - ((k + 1) * 8 + 1) < 6 by omega), decide_eq_true (show 1 ≤ i / 8 ∧ i / 8 ≤ 6 ∧ 1 ≤ i % 8 ∧ i % 8 ≤ 6 by omega), show k * 6 + (i - ((k + 1) * 8 + 1)) = 6 * (i / 8 - 1) + (i % 8 - 1) by omega]
            simp
          · rw [decide_eq_false (show ¬ (1 ≤ i / 8 ∧ i / 8 ≤ 6 ∧ 1 ≤ i % 8 ∧ i % 8 ≤ 6) by omega)]
            by_cases c4 : (k + 1) * 8 + 1 ≤ i
            · rw [decide_eq_false (show ¬ i - ((k + 1) * 8 + 1) < 6 by omega)]
              simp
            · rw [decide_eq_false c4]
              simp
        · rw [decide_eq_false c2, decide_eq_false (show ¬ i - ((k + 1) * 8 + 1) < 6 by omega)]
          simp
    · left
      have : k = 6 := by omega
      subst this
      rw [if_pos (by decide)]
      refine ⟨x, rfl, fun i hi => ?_⟩
      rw [hb i hi]
      by_cases c1 : i / 8 ≤ 6
      · rw [decide_eq_true c1, Bool.true_and]
      · rw [decide_eq_false c1, Bool.false_and]
        unfold fr
        rw [decide_eq_false (by omega), Bool.false_and]
  · intro i hi
    rw [b6_0]
    unfold fr
    by_cases c : i / 8 ≤ 0
    · rw [decide_eq_false (show ¬ (1 ≤ i / 8 ∧ i / 8 ≤ 6 ∧ 1 ≤ i % 8 ∧ i % 8 ≤ 6) by omega)]; simp
    · rw [decide_eq_false c, Bool.false_and]
noncomputable def smp (w : Int64) : Bool := @decide (tg_Smp (fr w)) (Classical.propDecidable _)
theorem smp_t {w : Int64} (h : smp w = true) : tg_Smp (fr w) := @of_decide_eq_true _ (Classical.propDecidable _) h
theorem smp_of {w : Int64} (h : tg_Smp (fr w)) : smp w = true := @decide_eq_true _ (Classical.propDecidable _) h
theorem smp_iff {w : Int64} {b : Bool} (h : b = true ↔ tg_Smp (fr w)) : b = smp w := by
  rw [Bool.eq_iff_iff]
  exact ⟨fun q => smp_of (h.mp q), fun q => h.mpr (smp_t q)⟩
theorem G_isSimple_eq (w : Int64) : G_isSimple w = some (bI (smp w)) := by
  unfold G_isSimple
  obtain ⟨x, e, hb⟩ := frame_run w
  rw [wbind e]
  have hn : ∀ i, i < 64 → b6 (x ^^^ (-1)) i = !fr w i := fun i hi => by rw [b6_not x hi, hb i hi]
  by_cases c0 : x = 0
  · rw [if_pos c0]
    have : smp w = false := (smp_iff ⟨fun q => (by cases q), fun q => by
      obtain ⟨⟨p, hp, h⟩, _⟩ := q
      rw [← hb p hp, c0, b6_0] at h
      cases h⟩).symm
    rw [this]; rfl
  rw [if_neg c0, hang_run, wbind rfl]
  have c1 : tg_Cn (b6 x) ↔ tg_Cn (fr w) := ⟨Cn_congr hb, Cn_congr (fun p hp => (hb p hp).symm)⟩
  have c2 : tg_Cn (b6 (x ^^^ (-1))) ↔ tg_Cn (fun p => !fr w p) := ⟨Cn_congr hn, Cn_congr (fun p hp => (hn p hp).symm)⟩
  have hp : ∃ p, p < 64 ∧ fr w p = true := by
    obtain ⟨l, hl, h1, _⟩ := b6_least x c0
    exact ⟨l, hl, by rw [← hb l hl]; exact h1⟩
  by_cases d1 : hs_r x 64 = x
  · rw [if_pos d1, if_neg (show ¬ (1 : Int32) = 0 by decide), hang_run, wbind rfl]
    by_cases d2 : hs_r (x ^^^ (-1)) 64 = x ^^^ (-1)
    · rw [if_pos d2, smp_of ⟨hp, c1.mp ((hang_eq x).mp d1), c2.mp ((hang_eq _).mp d2)⟩]; rfl
    · rw [if_neg d2]
      have : smp w = false := (smp_iff ⟨fun q => (by cases q), fun q => absurd ((hang_eq _).mpr (c2.mpr q.2.2)) d2⟩).symm
      rw [this]; rfl
  · rw [if_neg d1, if_pos rfl]
    have : smp w = false := (smp_iff ⟨fun q => (by cases q), fun q => absurd ((hang_eq _).mpr (c1.mpr q.2.1)) d1⟩).symm
    rw [this]; rfl
