/-! STONES: how many, the first, the weight, the odds -/
theorem kindc (a : Int32) : (N_isKind a = 0 ∧ M_isKind a = 0) ∨ ∃ k, k < 3 ∧ a = nI k ∧ N_isKind a = 1 ∧ M_isKind a = 1 := by
  rcases triv a (n := 2) (by decide) with ⟨y1, y3⟩ | ⟨y4, y7, y1, y5⟩ | ⟨k, hk, ek, y7⟩
  · left
    unfold N_isKind M_isKind
    rw [if_pos y1]
    exact ⟨rfl, y3⟩
  · left
    unfold N_isKind M_isKind
    rw [if_neg y1, if_pos (show (2:Int32) < a from y4)]
    exact ⟨rfl, y7⟩
  · exact Or.inr ⟨k, by omega, ek, by rw [ek]; exact (by decide : ∀ k, k < 3 → N_isKind (nI k) = 1) k (by omega), y7⟩
/-! the greatest common divisor -/
theorem gcd_st {a b m : Nat} (h : b ≤ a) (h0 : ¬ b = 0) (hb : (a + b) * 2 ^ (m + 1) < 3 ^ (m + 1)) : (b + a % b) * 2 ^ m < 3 ^ m := by
  have h1 : a % b < b := Nat.mod_lt _ (by omega)
  have h2 : b + a % b ≤ a := by
    have := Nat.div_add_mod a b
    have q : 1 ≤ a / b := (Nat.le_div_iff_mul_le (by omega)).mpr (by omega)
    have : b * 1 ≤ b * (a / b) := Nat.mul_le_mul_left b q
    omega
  have h3 : 3 * (b + a % b) ≤ 2 * (a + b) := by omega
  have h4 := Nat.mul_le_mul_right (2 ^ m) h3
  rw [Nat.mul_assoc, Nat.mul_assoc] at h4
  rw [Nat.pow_succ, Nat.pow_succ, ← Nat.mul_assoc] at hb
  omega
theorem gcd_sw (a b : Nat) : Nat.gcd b (a % b) = Nat.gcd a b := by
  rw [Nat.gcd_comm a b, Nat.gcd_rec b a, Nat.gcd_comm]
theorem xgcd : ∀ (m a b i fuel : Nat), b ≤ a → a < 2 ^ 31 → (a + b) * 2 ^ m < 3 ^ m → i + m < 100 → m < fuel → wh X_commonDivisor_s7 fuel (nI a, nI b, nI i) = some (nI (Nat.gcd a b))
  | 0, a, b, i, fuel, h, ha, hb, hi, hf => by
    obtain ⟨F, rfl⟩ : ∃ F, fuel = F + 1 := ⟨fuel - 1, by omega⟩
    have e : b = 0 := by omega
    subst e
    rw [Nat.gcd_zero_right]
    refine wh_inr ?_
    unfold X_commonDivisor_s7
    dsimp only
    rw [if_neg (show ¬ (100:Int32) ≤ nI i from nI_ge (a := i) (b := 100) (by omega) (by decide)), if_pos (show nI 0 = 0 from rfl)]
  | m + 1, a, b, i, fuel, h, ha, hb, hi, hf => by
    obtain ⟨F, rfl⟩ : ∃ F, fuel = F + 1 := ⟨fuel - 1, by omega⟩
    by_cases e : b = 0
    · subst e
      rw [Nat.gcd_zero_right]
      refine wh_inr ?_
      unfold X_commonDivisor_s7
      dsimp only
      rw [if_neg (show ¬ (100:Int32) ≤ nI i from nI_ge (a := i) (b := 100) (by omega) (by decide)), if_pos (show nI 0 = 0 from rfl)]
    · have n0 : ¬ nI b = 0 := nI_ne0 (by omega) (by omega)
      have E : X_commonDivisor_s7 (nI a, nI b, nI i) = some (Sum.inl (nI b, nI (a % b), nI (i + 1))) := by
        unfold X_commonDivisor_s7
        dsimp only
        rw [if_neg (show ¬ (100:Int32) ≤ nI i from nI_ge (a := i) (b := 100) (by omega) (by decide)), if_neg n0, grd_t (decide_eq_true n0), pk_rem ha (by omega) (by omega), nI_1]
      rw [wh_inl E, xgcd m b (a % b) (i + 1) F (Nat.le_of_lt (Nat.mod_lt _ (by omega))) (by omega) (gcd_st h e hb) (by omega) (by omega), gcd_sw]
theorem lI_toInt {n : Nat} (h : n < 2 ^ 63) : (lI n).toInt = (n : Int) := by
  unfold lI
  exact Int64.toInt_ofNat_of_lt h
theorem lI_div {a b : Nat} (ha : a < 2 ^ 31) (h0 : 0 < b) (hb : b < 2 ^ 31) : lI a / lI b = lI (a / b) := by
  have h1 : a / b ≤ a := Nat.div_le_self a b
  apply Int64.toInt_inj.mp
  rw [Int64.toInt_div_of_ne_right _ _ (fun h => by
    have := congrArg Int64.toInt h
    rw [lI_toInt (by omega)] at this
    have e : (-1 : Int64).toInt = -1 := by decide
    omega), lI_toInt (by omega), lI_toInt (by omega), lI_toInt (by omega), Int.tdiv_eq_ediv_of_nonneg (by omega)]
  exact (Int.natCast_ediv a b).symm
theorem lI_rem {a b : Nat} (ha : a < 2 ^ 31) (h0 : 0 < b) (hb : b < 2 ^ 31) : lI a - lI a / lI b * lI b = lI (a % b) := by
  rw [lI_div ha h0 hb]
  have e : lI (a / b) * lI b = lI (a / b * b) := (Int64.ofNat_mul _ _).symm
  have e2 : lI a = lI (a % b) + lI (a / b * b) := by
    show _ = Int64.ofNat _ + Int64.ofNat _
    rw [← Int64.ofNat_add]
    show Int64.ofNat a = _
    congr 1
    have := Nat.div_add_mod a b
    rw [Nat.mul_comm] at this
    omega
  rw [e, e2]
  exact Int64.add_sub_cancel _ _
theorem mgcd : ∀ (m a b : Nat), b ≤ a → a < 2 ^ 31 → (a + b) * 2 ^ m < 3 ^ m → M_common (m + 1) (lI a) (lI b) = some (lI (Nat.gcd a b))
  | 0, a, b, h, ha, hb => by
    have e : b = 0 := by omega
    subst e
    rw [Nat.gcd_zero_right]
    show (if lI 0 = 0 then _ else _) = _
    rw [if_pos (show lI 0 = 0 from rfl)]
    rfl
  | m + 1, a, b, h, ha, hb => by
    by_cases e : b = 0
    · subst e
      rw [Nat.gcd_zero_right]
      show (if lI 0 = 0 then _ else _) = _
      rw [if_pos (show lI 0 = 0 from rfl)]
      rfl
    · have n0 : ¬ lI b = 0 := fun q => e ((lI_0 (by omega)).mp q)
      show (if lI b = 0 then _ else _) = _
      rw [if_neg n0, grd_t (decide_eq_true n0), lI_rem ha (by omega) (by omega), mgcd m b (a % b) (Nat.le_of_lt (Nat.mod_lt _ (by omega))) (by omega) (gcd_st h e hb), wbind rfl, gcd_sw]
      rfl
theorem mgcd40 {a b : Nat} (h : b ≤ a) (ha : a ≤ 786430) (h0 : ¬ a = 0) : M_common 40 (lI b) (lI a) = some (lI (Nat.gcd a b)) := by
  have n0 : ¬ lI a = 0 := fun q => h0 ((lI_0 (by omega)).mp q)
  show (if lI a = 0 then _ else _) = _
  rw [if_neg n0, grd_t (decide_eq_true n0), lI_rem (by omega) (by omega) (by omega)]
  have key : (a + b % a) * 2 ^ 38 < 3 ^ 38 := by
    have h1 : b % a ≤ b := Nat.mod_le b a
    have h2 : (a + b % a) * 2 ^ 38 ≤ 1572860 * 2 ^ 38 := Nat.mul_le_mul_right _ (by omega)
    exact Nat.lt_of_le_of_lt h2 (by decide)
  rw [mgcd 38 a (b % a) (Nat.le_of_lt (Nat.mod_lt _ (by omega))) (by omega) key, wbind rfl, gcd_sw, Nat.gcd_comm]
  rfl
section COV
variable {rg : Int64} {skd sdp sfd : Int32} {sop : Nat → Int64} {str : Nat → Int32} {spr : Nat → UInt32} {cco cct : Int64} {cac caf : Int32} {cwe : UInt32} {cfo cff : Nat → Int32}
theorem p_coverings (hR : R36 rg) (a : Int32) : ∃ q, X_coverings a rg skd sdp sfd sop str spr = some q ∧ ∃ q', M_coverings a rg cco cct cac caf cwe cfo cff = some q' ∧ q'.1 = q.1 := by
  unfold X_coverings M_coverings
  rcases kindc a with ⟨k1, k2⟩ | ⟨k, hk, ek, k1, k2⟩
  · rw [k1, k2, if_pos rfl, if_pos rfl]
    exact ⟨_, rfl, _, rfl, rfl⟩
  subst ek
  have hl := en_le hk hR (fun _ => -5) FP.fconst1
  rw [k1, k2, if_neg (show ¬ (1:Int32) = 0 by decide), if_neg (show ¬ (1:Int32) = 0 by decide), N_start_eq, wbind rfl]
  dsimp only
  obtain ⟨r, r1, r2⟩ := xcov (en 20 k rg (fun _ => -5) FP.fconst1) 0 0 0 _ _ _ FU (PD_start hk hR sop str spr) (by omega) (by have := FU_big; omega)
  have r1 : wh (X_coverings_s28 (nI k)) FU ((0:Int32), (0:Int32), (0:Int32), (0:Int32), vp_updL sop 0 rg, upd str 0 (-1), vf_upd spr 0 FP.fconst1) = some r := r1
  rw [r1, wbind rfl]
  obtain ⟨cfo', cff', g1, g2, g3⟩ := goes_eq hk hR (cac := -1) (caf := 0) (Or.inl rfl) (by decide) cfo cff
  rw [g1, wbind rfl]
  refine ⟨_, rfl, _, rfl, ?_⟩
  dsimp only
  rw [r2, Nat.zero_add]
  exact Int64.toInt32_ofNat'
theorem p_firsts (hR : R36 rg) (a b : Int32) : ∃ q, X_firsts a b rg skd sdp sfd sop str spr = some q ∧ ∃ q', M_firsts a b rg cco cct cac caf cwe cfo cff = some q' ∧ q'.1 = q.1 := by
  unfold X_firsts M_firsts
  rcases kindc a with ⟨k1, k2⟩ | ⟨k, hk, ek, k1, k2⟩
  · rw [k1, k2, if_pos rfl, if_pos rfl]
    exact ⟨_, rfl, _, rfl, rfl⟩
  subst ek
  rw [k1, k2, if_neg (show ¬ (1:Int32) = 0 by decide), if_neg (show ¬ (1:Int32) = 0 by decide)]
  rcases cellc b with ⟨b1, b2⟩ | ⟨x, hx, eb, b1, b2⟩
  · rw [b1, b2, if_pos rfl, if_pos rfl]
    exact ⟨_, rfl, _, rfl, rfl⟩
  subst eb
  rw [b1, b2, if_neg (show ¬ (1:Int32) = 0 by decide), if_neg (show ¬ (1:Int32) = 0 by decide), N_start_eq, wbind rfl]
  dsimp only
  obtain ⟨cfo', cff', g1, g2, g3⟩ := goes_eq hk hR (cac := -1) (caf := 0) (Or.inl rfl) (by decide) cfo cff
  rw [g1, wbind rfl, grd_t (gi_nI hx (by decide))]
  dsimp only
  have hp := PD_start hk hR sop str spr
  have g2 := g2 x hx
  rw [nI_clamp (by omega), g2]
  cases hL : en 20 k rg (fun _ => -5) FP.fconst1 with
  | nil =>
    rw [hL] at hp
    obtain ⟨q, q1, q2⟩ := adv_nil hp
    rw [q1, wbind rfl, if_pos q2]
    exact ⟨_, rfl, _, rfl, rfl⟩
  | cons l L =>
    rw [hL] at hp
    obtain ⟨d, xo, xt, xp, q1, q2, q3, q4⟩ := adv_cons hp
    rw [q1, wbind rfl]
    dsimp only
    rw [if_neg (show ¬ (1:Int32) = 0 by decide), show N_formOver (nI x) (nI d) xo xt = some (l.1 x) from q3.2.2 x hx, wbind rfl]
    exact ⟨_, rfl, _, rfl, rfl⟩
theorem p_weight (hR : R36 rg) (a : Int32) : ∃ q, X_weight a rg skd sdp sfd sop str spr = some q ∧ ∃ q', M_weight a rg cco cct cac caf cwe cfo cff = some q' ∧ q'.1 = q.1 := by
  unfold X_weight M_weight
  rcases kindc a with ⟨k1, k2⟩ | ⟨k, hk, ek, k1, k2⟩
  · rw [k1, k2, if_pos rfl, if_pos rfl]
    exact ⟨_, rfl, _, rfl, rfl⟩
  subst ek
  have hl := en_le hk hR (fun _ => -5) FP.fconst1
  rw [k1, k2, if_neg (show ¬ (1:Int32) = 0 by decide), if_neg (show ¬ (1:Int32) = 0 by decide), N_start_eq, wbind rfl]
  dsimp only
  obtain ⟨r, r1, r2, r3⟩ := xwei (en 20 k rg (fun _ => -5) FP.fconst1) 0 FP.fconst0 0 0 _ _ _ FU (PD_start hk hR sop str spr) SF_0 (by omega) (by have := FU_big; omega)
  have r1 : wh (X_weight_s28 (nI k)) FU (FP.fconst0, (0:Int32), (0:Int32), (0:Int32), vp_updL sop 0 rg, upd str 0 (-1), vf_upd spr 0 FP.fconst1) = some r := r1
  rw [r1, wbind rfl, r2, SF_of r3, wbind rfl]
  obtain ⟨cfo', cff', g1, g2, g3⟩ := goes_eq hk hR (cac := -1) (caf := 0) (Or.inl rfl) (by decide) cfo cff
  rw [g1, wbind rfl]
  exact ⟨_, rfl, _, rfl, rfl⟩
theorem gcd_0 {a b : Nat} (h : b ≤ a) : Nat.gcd a b = 0 ↔ a = 0 := by
  constructor
  · intro q
    exact (Nat.eq_zero_of_gcd_eq_zero_left q)
  · intro q
    subst q
    have : b = 0 := by omega
    subst this
    rfl
theorem nI_64 {n : Nat} (h : n < 2 ^ 31) : (nI n).toInt64 = lI n := by
  apply Int64.toInt_inj.mp
  rw [Int32.toInt_toInt64, nI_toInt h, lI_toInt (by omega)]
theorem p_odds (hR : R36 rg) (a b e p : Int32) : ∃ q, X_odds a b e p rg skd sdp sfd sop str spr = some q ∧ ∃ q', M_odds a b e p rg cco cct cac caf cwe cfo cff = some q' ∧ q'.1 = q.1 := by
  unfold X_odds M_odds
  rcases kindc a with ⟨k1, k2⟩ | ⟨k, hk, ek, k1, k2⟩
  · rw [k1, k2, if_pos rfl, if_pos rfl]
    exact ⟨_, rfl, _, rfl, rfl⟩
  subst ek
  rw [k1, k2, if_neg (show ¬ (1:Int32) = 0 by decide), if_neg (show ¬ (1:Int32) = 0 by decide)]
  rcases cellc b with ⟨b1, b2⟩ | ⟨x, hx, eb, b1, b2⟩
  · rw [b1, b2, if_pos rfl, if_pos rfl]
    exact ⟨_, rfl, _, rfl, rfl⟩
  subst eb
  rw [b1, b2, if_neg (show ¬ (1:Int32) = 0 by decide), if_neg (show ¬ (1:Int32) = 0 by decide)]
  have f4 := fN_le k
  rw [mforms_eq hk, forms_eq hk, show nI (fN k) - (1:Int32) = nI (fN k - 1) from (by decide : ∀ k, k < 3 → nI (fN k) - (1:Int32) = nI (fN k - 1)) k hk]
  rcases triv e (n := fN k - 1) (by omega) with ⟨y1, y3⟩ | ⟨y4, y7, y1, y5⟩ | ⟨f, hf, ef, y7⟩
  · rw [if_pos y1, y3, if_pos rfl]
    exact ⟨_, rfl, _, rfl, rfl⟩
  · rw [if_neg y1, if_pos (show nI (fN k) ≤ e by rw [show fN k = fN k - 1 + 1 by omega]; exact y5), y7, if_pos rfl]
    exact ⟨_, rfl, _, rfl, rfl⟩
  subst ef
  rw [if_neg (nI_pos (by omega)), if_neg (nI_ge (show f < fN k by omega) (by omega)), y7, if_neg (show ¬ (1:Int32) = 0 by decide)]
  rcases bitc p with ⟨c1, c2⟩ | ⟨bb, ec, c1, c2, c3⟩
  · rw [c1, c2, if_pos rfl, if_pos rfl]
    exact ⟨_, rfl, _, rfl, rfl⟩
  rw [c1, c2, if_neg (show ¬ (1:Int32) = 0 by decide), if_neg (show ¬ (1:Int32) = 0 by decide), N_start_eq, wbind rfl]
  dsimp only
  have hl := en_le hk hR (fun _ => -5) FP.fconst1
  obtain ⟨r, r1, r2, r3⟩ := xodd hx (nI f) (en 20 k rg (fun _ => -5) FP.fconst1) 0 0 0 0 _ _ _ FU (PD_start hk hR sop str spr) (by omega) (by have := FU_big; omega)
  have r1 : wh (X_odds_s66 (nI x) (nI f) (nI k)) FU ((0:Int32), (0:Int32), (0:Int32), (0:Int32), (0:Int32), vp_updL sop 0 rg, upd str 0 (-1), vf_upd spr 0 FP.fconst1) = some r := r1
  obtain ⟨cfo', cff', g1, g2, g3⟩ := goes_eq hk hR (cac := nI x) (caf := nI f) (Or.inr ⟨x, hx, rfl⟩) (nI_m5 (by omega)) cfo cff
  have ep : pC (nI x) (nI f) = fun l => decide (l.1 x = nI f) := by
    funext l
    unfold pC
    rw [if_neg (nI_ne_m1 x (by omega)), nI_clamp (by omega)]
  rw [ep] at g1
  rw [r1, wbind rfl, g1, wbind rfl]
  dsimp only
  rw [r2, r3, Nat.zero_add, Nat.zero_add]
  have hj := cP_le (fun l => decide (l.1 x = nI f)) (en 20 k rg (fun _ => -5) FP.fconst1)
  generalize (en 20 k rg (fun _ => -5) FP.fconst1).length = A at *
  generalize cP (fun l => decide (l.1 x = nI f)) (en 20 k rg (fun _ => -5) FP.fconst1) = B at *
  have hx : X_commonDivisor (nI A) (nI B) = some (nI (Nat.gcd A B)) := by
    unfold X_commonDivisor
    have key : (A + B) * 2 ^ 40 < 3 ^ 40 := by
      have h2 : (A + B) * 2 ^ 40 ≤ 1572860 * 2 ^ 40 := Nat.mul_le_mul_right _ (by omega)
      exact Nat.lt_of_le_of_lt h2 (by decide)
    rw [show (nI A, nI B, (0:Int32)) = (nI A, nI B, nI 0) from rfl, xgcd 40 A B 0 FU hj (by omega) key (by decide) (by have := FU_big; omega), wbind rfl]
  have gle : Nat.gcd A B ≤ A := by
    by_cases q : A = 0
    · rw [(gcd_0 hj).mpr q]; exact Nat.zero_le _
    · exact Nat.gcd_le_left B (by omega)
  rw [hx, wbind rfl]
  by_cases q : A = 0
  · rw [if_pos (show lI A = 0 from (lI_0 (by omega)).mpr q), if_pos (show nI (Nat.gcd A B) = 0 by rw [(gcd_0 hj).mpr q]; rfl)]
    exact ⟨_, rfl, _, rfl, rfl⟩
  · have g0 : 0 < Nat.gcd A B := by
      refine Nat.pos_of_ne_zero fun z => q ((gcd_0 hj).mp z)
    have n1 : ¬ nI (Nat.gcd A B) = 0 := nI_ne0 g0 (by omega)
    have n2 : ¬ lI (Nat.gcd A B) = 0 := fun z => by
      have := (lI_0 (by omega)).mp z
      omega
    rw [if_neg (fun z => q ((lI_0 (by omega)).mp z)), if_neg n1, mgcd40 hj hl q, wbind rfl, grd_t (decide_eq_true n2), ec, bI_if]
    have dA : A / Nat.gcd A B ≤ A := Nat.div_le_self _ _
    have dB : B / Nat.gcd A B ≤ B := Nat.div_le_self _ _
    cases bb with
    | false =>
      rw [if_neg (show ¬ false = true by decide), grd_t (decide_eq_true n1), pk_div (by omega) g0 (by omega)]
      refine ⟨_, rfl, _, rfl, ?_⟩
      dsimp only
      rw [show (if bI false = 0 then lI B else lI A) = lI B from rfl, lI_div (by omega) g0 (by omega), nI_64 (by omega)]
    | true =>
      rw [if_pos rfl, grd_t (decide_eq_true n1), pk_div (by omega) g0 (by omega)]
      refine ⟨_, rfl, _, rfl, ?_⟩
      dsimp only
      rw [show (if bI true = 0 then lI B else lI A) = lI A from rfl, lI_div (by omega) g0 (by omega), nI_64 (by omega)]
end COV
