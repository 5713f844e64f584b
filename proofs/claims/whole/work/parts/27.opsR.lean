/-! of, looked, judge, cell, fill, image's numbers: regions by their bits -/
theorem wh_both {σ ρ : Type} {st1 st2 : σ → Option (σ ⊕ ρ)} (I : Nat → σ → Prop) {B : ρ → Prop} (h : ∀ m s, I m s → (∃ r, st1 s = some (Sum.inr r) ∧ st2 s = some (Sum.inr r) ∧ B r) ∨ (∃ m' s', m' < m ∧ st1 s = some (Sum.inl s') ∧ st2 s = some (Sum.inl s') ∧ I m' s')) : ∀ (n m : Nat) (s : σ), m < n → I m s → ∃ r, wh st1 n s = some r ∧ wh st2 n s = some r ∧ B r := by
  intro n
  induction n with
  | zero => intro m s hm; omega
  | succ n ih =>
    intro m s hm hI
    rcases h m s hI with ⟨r, e1, e2, hb⟩ | ⟨m', s', hlt, e1, e2, hI'⟩
    · exact ⟨r, wh_inr e1, wh_inr e2, hb⟩
    · rw [wh_inl e1, wh_inl e2]
      exact ih m' s' (by omega) hI'
/-- counted up to N -/
theorem wh_cnt2 {ρ : Type} {st1 st2 : Int32 → Option (Int32 ⊕ ρ)} (N : Nat) (hN : N ≤ 3000000) (he : ∃ r, st1 (nI N) = some (Sum.inr r) ∧ st2 (nI N) = some (Sum.inr r)) (h : ∀ k, k < N → (∃ r, st1 (nI k) = some (Sum.inr r) ∧ st2 (nI k) = some (Sum.inr r)) ∨ (st1 (nI k) = some (Sum.inl (nI (k + 1))) ∧ st2 (nI k) = some (Sum.inl (nI (k + 1))))) : ∃ r, wh st1 FU 0 = some r ∧ wh st2 FU 0 = some r := by
  obtain ⟨r, h1, h2, _⟩ := wh_both (st1 := st1) (st2 := st2) (B := fun _ => True) (fun m s => ∃ k, k + m = N ∧ s = nI k) (fun m s ⟨k, hk, e⟩ => by
    subst e
    rcases Nat.lt_or_ge k N with q | q
    · rcases h k q with ⟨r, e1, e2⟩ | ⟨e1, e2⟩
      · exact Or.inl ⟨r, e1, e2, trivial⟩
      · exact Or.inr ⟨m - 1, nI (k + 1), by omega, e1, e2, k + 1, by omega, rfl⟩
    · have : k = N := by omega
      subst this
      obtain ⟨r, e1, e2⟩ := he
      exact Or.inl ⟨r, e1, e2, trivial⟩) FU N 0 (by have := FU_big; omega) ⟨0, by omega, rfl⟩
  exact ⟨r, h1, h2⟩
theorem R_one_2_eq {k : Nat} (h : k < 8) (f : Nat → Int32) : R_one_2 (nI k) f = some (f k) := by
  unfold R_one_2
  rw [if_neg (nI_pos (by omega)), if_neg (show ¬ Int32.ofNat 8 ≤ nI k from nI_ge (a := k) (b := 8) h (by decide)), grd_t (gi_nI h (by decide)), nI_clamp (by omega)]
  rfl
theorem R_other_2_eq {k : Nat} (h : k < 8) (f : Nat → Int32) : R_other_2 (nI k) f = some (f k) := by
  unfold R_other_2
  rw [if_neg (nI_pos (by omega)), if_neg (show ¬ Int32.ofNat 8 ≤ nI k from nI_ge (a := k) (b := 8) h (by decide)), grd_t (gi_nI h (by decide)), nI_clamp (by omega)]
  rfl
theorem R_one_eq {k : Nat} (h : k < 4) (f : Nat → Int32) : R_one (nI k) f = some (f k) := by
  unfold R_one
  rw [if_neg (nI_pos (by omega)), if_neg (show ¬ Int32.ofNat 4 ≤ nI k from nI_ge (a := k) (b := 4) h (by decide)), grd_t (gi_nI h (by decide)), nI_clamp (by omega)]
  rfl
theorem R_other_eq {k : Nat} (h : k < 4) (f : Nat → Int32) : R_other (nI k) f = some (f k) := by
  unfold R_other
  rw [if_neg (nI_pos (by omega)), if_neg (show ¬ Int32.ofNat 4 ≤ nI k from nI_ge (a := k) (b := 4) h (by decide)), grd_t (gi_nI h (by decide)), nI_clamp (by omega)]
  rfl
theorem bit_bI (b : Bool) : X_bit (bI b) = bI b := by cases b <;> rfl
theorem bI_bI (b : Bool) : (if bI b = 0 then (0:Int32) else 1) = bI b := by cases b <;> rfl
theorem row_eq (base k : Nat) (h : base + 2 * k + 1 < 2 ^ 31) : nI base + 2 * nI k = nI (base + 2 * k) := by
  rw [show (2 : Int32) * nI k = nI (2 * k) from pk_mul 2 k, nI_add]
theorem p_looked {w : Int64} {gs : Int32} {go gq ms : Nat → Int32} (h : IL vBook 8 5 106 gs go gq ms) : ∃ q, X_looked w gs go gq = some q ∧ M_looked w ms = some q := by
  obtain ⟨l, h1, h2, h3, h4⟩ := h
  unfold X_looked M_looked
  have key := wh_cnt2 (st1 := X_looked_s2 w gs go gq) (st2 := M_looked_s2 w ms) l (by omega) ⟨Sum.inr (), by
      unfold X_looked_s2
      rw [h2, if_pos (nI_le (Nat.le_refl _) (by omega))], by
      unfold M_looked_s2
      rw [grd_t (by decide), show (5 : Int32).toNatClampNeg = 5 from rfl, h3, if_pos (nI_le (Nat.le_refl _) (by omega))]⟩ (fun k hk => by
      obtain ⟨a, b, v, e1, e2, e3, e4⟩ := h4 k hk
      have E1 : X_looked_s2 w gs go gq (nI k) = if bI (b6 w a) = nI b then some (Sum.inl (nI (k + 1))) else some (Sum.inr (Sum.inl (nI k))) := by
        unfold X_looked_s2
        rw [h2, if_neg (nI_ge hk (by omega)), R_one_2_eq (by omega), R_other_2_eq (by omega), e1, e2]
        show (if X_bit (G_holds w (nI a)) = nI b then _ else _) = _
        rw [holds_eq v.1, bit_bI, nI_1]
      have E2 : M_looked_s2 w ms (nI k) = if bI (b6 w a) = nI b then some (Sum.inl (nI (k + 1))) else some (Sum.inr (Sum.inl (nI k))) := by
        unfold M_looked_s2
        have v2 := v.2
        rw [grd_t (by decide), show (5 : Int32).toNatClampNeg = 5 from rfl, h3, if_neg (nI_ge hk (by omega)), show (106 : Int32) = nI 106 from rfl, row_eq 106 k (by omega), nI_1, grd_t (gi_nI (by omega) (by decide)), grd_t (gi_nI (by omega) (by decide)), nI_clamp (by omega), nI_clamp (by omega), e3, e4, has_eq (by have := v.1; omega), nI_1]
        rw [show (if nI b = 1 then (1 : Int32) else 0) = nI b by
          rcases (show b = 0 ∨ b = 1 by omega) with q | q <;> subst q <;> decide]
      rw [E1, E2]
      by_cases c : bI (b6 w a) = nI b
      · rw [if_pos c]
        exact Or.inr ⟨rfl, rfl⟩
      · rw [if_neg c]
        exact Or.inl ⟨_, rfl, rfl⟩)
  obtain ⟨r, r1, r2⟩ := key
  rw [r1, r2]
  cases r with
  | inl x => exact ⟨_, rfl, rfl⟩
  | inr x => exact ⟨_, rfl, rfl⟩
theorem p_of {rg : Int64} {ld : Int32} {mt ms : Nat → Int32} (a b : Int32) (h : IA rg ld mt ms) : ∃ q, X_ofs a b rg ld mt = some q ∧ M_ofs a b rg ms = some q := by
  unfold X_ofs M_ofs M_isCell G_isCell
  rcases tri a (m := 35) (m1 := 36) (n := 35) rfl rfl (by decide) with ⟨x1, x2, x3⟩ | ⟨x1, x2, x3, x4, x5, x6, x7⟩ | ⟨k, hk, ek, x1, x2, x3, x4, x5, x6, x7⟩
  · rw [if_pos x1, if_pos x3]
    exact ⟨_, rfl, rfl⟩
  · rw [if_neg x1, if_pos x5, if_pos x7]
    exact ⟨_, rfl, rfl⟩
  rw [if_neg x1, if_neg x5, x7, if_neg (show ¬ (1 : Int32) = 0 by decide), if_neg (show ¬ (1 : Int32) = 0 by decide)]
  by_cases c0 : b = 0
  · rw [if_pos c0, if_pos c0, ek, holds_eq (by omega), bit_bI, has_eq (by omega), bI_bI]
    exact ⟨_, rfl, rfl⟩
  rw [if_neg c0, if_neg c0]
  by_cases c1 : b = 1
  · rw [if_pos c1, if_pos c1, ek, holds_eq (by omega), bit_bI, isBlack_eq (by omega), bI_bI, black_bits k (by omega), decide_eq_true (show k < 36 by omega), Bool.true_and]
    exact ⟨_, rfl, rfl⟩
  rw [if_neg c1, if_neg c1]
  by_cases c2 : b = 2
  · rw [if_pos c2, if_pos c2, ek, show (6 : Int32) + nI k = nI (6 + k) from nI_add 6 k, grd_t (gi_nI (by omega) (by decide)), nI_clamp (by omega)]
    rcases h with ⟨h1, h2, h3⟩ | ⟨h1, h2, h3, h4⟩
    · rw [if_pos h1, h3 k (by omega)]
      exact ⟨_, rfl, rfl⟩
    · rw [if_neg (by rw [h1]; decide), ← h3 k (by omega)]
      unfold S_mate
      rw [show G_isCell (nI k) = 1 from (by decide : ∀ k, k < 36 → G_isCell (nI k) = 1) k (by omega), if_neg (show ¬ (1 : Int32) = 0 by decide), grd_t (gi_nI (by omega) (by decide)), nI_clamp (by omega)]
      exact ⟨_, rfl, rfl⟩
  · rw [if_neg c2, if_neg c2]
    exact ⟨_, rfl, rfl⟩
theorem p_judge {w : Int64} {tp : Nat → tTp} {mso mmy : Nat → Int32} {mit : Nat → Int64} {t : Nat} (ht : t < 6) (i : Int32) (h : IT tp mso mmy mit) : ∃ q, X_judge_2 (nI t) i w (tp t).1 (tp t).2.1 (tp t).2.2 = some q ∧ M_judge (nI t) i w mso mmy mit = some q := by
  obtain ⟨l, a1, a2, a3, a4, a5, a6, a7⟩ := h t ht
  have ct : (nI t).toNatClampNeg = t := nI_clamp (by omega)
  unfold X_judge_2 M_judge
  rw [(isTape_y ht).1, (isTape_y ht).2, if_neg (show ¬ (1 : Int32) = 0 by decide), if_neg (show ¬ (1 : Int32) = 0 by decide), grd_t (gi_nI ht (by decide)), grd_t (gi_nI ht (by decide)), ct, a2, a5]
  by_cases c1 : mso t = -1
  · rw [if_pos c1, if_pos c1]
    exact ⟨_, rfl, rfl⟩
  rw [if_neg c1, if_neg c1]
  by_cases c2 : mso t = 4
  · rw [if_pos c2, if_pos c2]
    by_cases c3 : i < 0
    · have e : ¬ (0 : Int32) ≤ i := by
        rw [Int32.not_le]
        exact c3
      rw [if_neg e]
      unfold T_hasPlace
      rw [if_pos c3, if_pos rfl]
      exact ⟨_, rfl, rfl⟩
    have e : (0 : Int32) ≤ i := by
      rw [← Int32.not_lt]
      exact c3
    rw [if_pos e]
    obtain ⟨j, hj, ej⟩ := nI_of c3
    by_cases c4 : j < l
    rotate_left
    · -- the place is beyond: the reference finds it at once
      have e1 : T_hasPlace i (nI l) = 0 := by
        unfold T_hasPlace
        rw [if_neg c3, if_pos]
        rw [ej, nI_leI (by omega) hj]
        omega
      rw [e1, if_pos rfl]
      have : wh (M_judge_s44 (nI t) i w mmy mit) FU 0 = some (Sum.inl 0) := by
        have := wh_for (st := M_judge_s44 (nI t) i w mmy mit) (r := Sum.inl 0) (fun k => nI k) 0 (fun k hk => absurd hk (Nat.not_lt_zero _)) (by
          unfold M_judge_s44
          rw [if_neg (by decide), grd_t (gi_nI ht (by decide)), ct, a6, if_neg]
          · rfl
          · rw [lt64', nI_toInt (by omega), nI_toInt (by omega), ej, nI_toInt hj]
            omega) (by decide)
        exact this
      rw [this]
      exact ⟨_, rfl, rfl⟩
    have e1 : T_hasPlace i (nI l) = 1 := by
      rcases hasPlace_eq i a1 with ⟨_, _, _, q, _⟩ | ⟨_, _, q | q⟩
      · exact q
      · exact absurd q c3
      · rw [ej, nI_leI (by omega) hj] at q
        omega
    rw [e1, if_neg (show ¬ (1 : Int32) = 0 by decide)]
    have key := wh_cnt2 (st1 := X_judge_2_s52 i w (nI l) (tp t).2.2) (st2 := M_judge_s44 (nI t) i w mmy mit) 36 (by decide) ⟨Sum.inr (Sum.inr ()), by
        unfold X_judge_2_s52
        rw [if_pos (by decide)], by
        unfold M_judge_s44
        rw [if_pos (by decide)]⟩ (fun k hk => by
        have ejk : i + nI k = nI (j + k) := by rw [ej, nI_add]
        have E1 : X_judge_2_s52 i w (nI l) (tp t).2.2 (nI k) = if j + k < l then (if mit (60 * t + (j + k)) = (bI (b6 w k)).toInt64 then some (Sum.inl (nI (k + 1))) else some (Sum.inr (Sum.inr (Sum.inl (nI k))))) else some (Sum.inr (Sum.inl (nI k))) := by
          unfold X_judge_2_s52
          rw [if_neg (show ¬ (36 : Int32) ≤ nI k from nI_ge (a := k) (b := 36) hk (by decide)), ejk]
          rcases hasPlace_eq (nI (j + k)) a1 with ⟨k', q1, q2, q3, _⟩ | ⟨q1, _, q2⟩
          · have : j + k = k' := (nI_eq (by omega) (by omega)).mp q2
            subst this
            unfold T_at
            rw [q3, if_neg (show ¬ (1 : Int32) = 0 by decide), if_neg (show ¬ (1 : Int32) = 0 by decide), grd_t (gi_nI (by omega) (by decide)), nI_clamp (by omega), if_pos q1, a7 _ (by omega), nI_1]
            show (if mit (60 * t + (j + k)) = (X_bit (G_holds w (nI k))).toInt64 then _ else _) = _
            rw [holds_eq hk, bit_bI]
          · have : ¬ j + k < l := by
              rcases q2 with q2 | q2
              · exact absurd q2 (nI_pos (by omega))
              · rw [nI_leI (by omega) (by omega)] at q2
                omega
            rw [q1, if_pos rfl, if_neg this]
        have E2 : M_judge_s44 (nI t) i w mmy mit (nI k) = if j + k < l then (if mit (60 * t + (j + k)) = (bI (b6 w k)).toInt64 then some (Sum.inl (nI (k + 1))) else some (Sum.inr (Sum.inr (Sum.inl (nI k))))) else some (Sum.inr (Sum.inl (nI k))) := by
          unfold M_judge_s44
          rw [if_neg (show ¬ (36 : Int32) ≤ nI k from nI_ge (a := k) (b := 36) hk (by decide)), grd_t (gi_nI ht (by decide)), ct, a6]
          have ti : i.toInt = j := by rw [ej, nI_toInt hj]
          by_cases q : j + k < l
          · rw [if_pos (by rw [lt64', nI_toInt (by omega), nI_toInt (by omega), ti]; omega), if_pos q, ej, place_eq, nI_add, grd_t (gi_nI (by omega) (by decide)), nI_clamp (by omega), has_eq (by omega), nI_1]
            have e : (if bI (b6 w k) = 0 then (0:Int64) else 1) = (bI (b6 w k)).toInt64 := by cases b6 w k <;> rfl
            rw [e, show 60 * t + j + k = 60 * t + (j + k) by omega]
          · rw [if_neg (by rw [lt64', nI_toInt (by omega), nI_toInt (by omega), ti]; omega), if_neg q]
        rw [E1, E2]
        by_cases q : j + k < l
        · rw [if_pos q]
          by_cases q2 : mit (60 * t + (j + k)) = (bI (b6 w k)).toInt64
          · rw [if_pos q2]
            exact Or.inr ⟨rfl, rfl⟩
          · rw [if_neg q2]
            exact Or.inl ⟨_, rfl, rfl⟩
        · rw [if_neg q]
          exact Or.inl ⟨_, rfl, rfl⟩)
    obtain ⟨r, r1, r2⟩ := key
    rw [r1, r2]
    rcases r with x | x | x
    · exact ⟨_, rfl, rfl⟩
    · exact ⟨_, rfl, rfl⟩
    · exact ⟨_, rfl, rfl⟩
  · rw [if_neg c2, if_neg c2]
    exact ⟨_, rfl, rfl⟩
