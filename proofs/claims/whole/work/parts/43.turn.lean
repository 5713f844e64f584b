/-! TURN: two stones turned, the heights by 4 at one vertex -/
theorem nd {x y : Nat} (hx : x < 2 ^ 31) (hy : y < 2 ^ 31) : decide (nI x = nI y) = decide (x = y) := by
  by_cases h : x = y
  · rw [h, decide_eq_true rfl, decide_eq_true rfl]
  · rw [decide_eq_false h, decide_eq_false (fun q => h ((nI_eq hx hy).mp q))]
theorem geo0 : ∀ x, x < 49 → iiB (tg_lp x 0) = true → iiB (tg_rp x 0) = true → ixp (tg_rp x 0) = ixp (tg_lp x 0) + 6 ∧ x = cu (ixp (tg_lp x 0)) + 7 := by decide +kernel
theorem geo1 : ∀ x, x < 49 → iiB (tg_lp x 1) = true → iiB (tg_rp x 1) = true → ixp (tg_lp x 1) = ixp (tg_rp x 1) + 1 ∧ x = cu (ixp (tg_rp x 1)) + 1 := by decide +kernel
theorem geo2 : ∀ x, x < 49 → iiB (tg_lp x 2) = true → iiB (tg_rp x 2) = true → ixp (tg_lp x 2) = ixp (tg_rp x 2) + 6 ∧ x = cu (ixp (tg_rp x 2)) + 8 := by decide +kernel
theorem geo3 : ∀ x, x < 49 → iiB (tg_lp x 3) = true → iiB (tg_rp x 3) = true → ixp (tg_rp x 3) = ixp (tg_lp x 3) + 1 ∧ x = cu (ixp (tg_lp x 3)) + 8 := by decide +kernel
theorem four {a v : Nat} (ha : a < 30) (ha6 : a % 6 < 5) (hv : v = cu a + 8) : v < 49 ∧ tg_ii (tg_q v) ∧ tg_ii (tg_q v + 1) ∧ tg_ii (tg_q v + 8) ∧ tg_ii (tg_q v + 9) ∧ ixp (tg_q v) = a ∧ ixp (tg_q v + 1) = a + 1 ∧ ixp (tg_q v + 8) = a + 6 ∧ ixp (tg_q v + 9) = a + 7 := by
  have e1 : v / 7 = a / 6 + 1 := by unfold cu at hv; omega
  have e2 : v % 7 = a % 6 + 1 := by unfold cu at hv; omega
  have eq : tg_q v = 8 * (a / 6 + 1) + (a % 6 + 1) := by unfold tg_q; rw [e1, e2]
  have key : ∀ R C, C < 8 → ixp (8 * R + C) = 6 * (R - 1) + (C - 1) := fun R C hC => by
    unfold ixp
    rw [show (8 * R + C) / 8 = R by omega, show (8 * R + C) % 8 = C by omega]
  have kii : ∀ R C, C < 8 → 1 ≤ R → R ≤ 6 → 1 ≤ C → C ≤ 6 → tg_ii (8 * R + C) := fun R C hC h1 h2 h3 h4 => by
    unfold tg_ii
    rw [show (8 * R + C) / 8 = R by omega, show (8 * R + C) % 8 = C by omega]
    exact ⟨h1, h2, h3, h4⟩
  have q1 : tg_q v + 1 = 8 * (a / 6 + 1) + (a % 6 + 2) := by omega
  have q8 : tg_q v + 8 = 8 * (a / 6 + 2) + (a % 6 + 1) := by omega
  have q9 : tg_q v + 9 = 8 * (a / 6 + 2) + (a % 6 + 2) := by omega
  refine ⟨by omega, ?_, ?_, ?_, ?_, ?_, ?_, ?_, ?_⟩
  · rw [eq]; exact kii _ _ (by omega) (by omega) (by omega) (by omega) (by omega)
  · rw [q1]; exact kii _ _ (by omega) (by omega) (by omega) (by omega) (by omega)
  · rw [q8]; exact kii _ _ (by omega) (by omega) (by omega) (by omega) (by omega)
  · rw [q9]; exact kii _ _ (by omega) (by omega) (by omega) (by omega) (by omega)
  · rw [eq, key _ _ (by omega)]; omega
  · rw [q1, key _ _ (by omega)]; omega
  · rw [q8, key _ _ (by omega)]; omega
  · rw [q9, key _ _ (by omega)]; omega
theorem tw_ii {mt : Nat → Int32} {v k : Nat} (h1 : tg_ii (tg_lp v k)) (h2 : tg_ii (tg_rp v k)) : tw mt v k = decide (mt (ixp (tg_lp v k)) = nI (ixp (tg_rp v k))) := by
  unfold tw
  rw [iiB_of h1, iiB_of h2]; rfl
theorem far8 {a x k : Nat} (ha : a < 30) (ha6 : a % 6 < 5) (hx : x < 49) (hk : k < 4) (h1 : iiB (tg_lp x k) = true) (h2 : iiB (tg_rp x k) = true) (e1 : ¬ x = cu a + 8) (e2 : ¬ tg_nx x k = cu a + 8) : (ixp (tg_lp x k) = a → ixp (tg_rp x k) ≠ a + 1 ∧ ixp (tg_rp x k) ≠ a + 6) ∧ (ixp (tg_lp x k) = a + 1 → ixp (tg_rp x k) ≠ a ∧ ixp (tg_rp x k) ≠ a + 7) ∧ (ixp (tg_lp x k) = a + 6 → ixp (tg_rp x k) ≠ a ∧ ixp (tg_rp x k) ≠ a + 7) ∧ (ixp (tg_lp x k) = a + 7 → ixp (tg_rp x k) ≠ a + 1 ∧ ixp (tg_rp x k) ≠ a + 6) := by
  have c1 : cu (a + 1) = cu a + 1 := by unfold cu; omega
  have c6 : cu (a + 6) = cu a + 7 := by unfold cu; omega
  rcases w4 hk with e | e | e | e <;> subst e
  · obtain ⟨g1, g2⟩ := geo0 x hx h1 h2
    rw [tg_nx0] at e2
    generalize ixp (tg_lp x 0) = p at g1 g2 ⊢
    generalize ixp (tg_rp x 0) = q at g1 ⊢
    refine ⟨fun z => ?_, fun z => ?_, fun z => ?_, fun z => ?_⟩
    · subst z; omega
    · subst z; rw [c1] at g2; omega
    · omega
    · omega
  · obtain ⟨g1, g2⟩ := geo1 x hx h1 h2
    rw [tg_nx1] at e2
    generalize ixp (tg_lp x 1) = p at g1 ⊢
    generalize ixp (tg_rp x 1) = q at g1 g2 ⊢
    refine ⟨fun z => ?_, fun z => ?_, fun z => ?_, fun z => ?_⟩
    · omega
    · have : q = a := by omega
      subst this; omega
    · omega
    · have : q = a + 6 := by omega
      subst this; rw [c6] at g2; omega
  · obtain ⟨g1, g2⟩ := geo2 x hx h1 h2
    rw [tg_nx2] at e2
    generalize ixp (tg_lp x 2) = p at g1 ⊢
    generalize ixp (tg_rp x 2) = q at g1 g2 ⊢
    refine ⟨fun z => ?_, fun z => ?_, fun z => ?_, fun z => ?_⟩
    · omega
    · omega
    · have : q = a := by omega
      subst this; omega
    · have : q = a + 1 := by omega
      subst this; rw [c1] at g2; omega
  · obtain ⟨g1, g2⟩ := geo3 x hx h1 h2
    rw [tg_nx3] at e2
    generalize ixp (tg_lp x 3) = p at g1 g2 ⊢
    generalize ixp (tg_rp x 3) = q at g1 ⊢
    refine ⟨fun z => ?_, fun z => ?_, fun z => ?_, fun z => ?_⟩
    · subst z; omega
    · omega
    · subst z; rw [c6] at g2; omega
    · omega
theorem tw_same {mt mt' : Nat → Int32} {a b c x k : Nat} (ha : a < 30) (ha6 : a % 6 < 5) (hbc : (b = a + 1 ∧ c = a + 6) ∨ (b = a + 6 ∧ c = a + 1)) (m1 : mt a = nI b) (m2 : mt b = nI a) (m3 : mt c = nI (a + 7)) (m4 : mt (a + 7) = nI c) (n1 : mt' a = nI c) (n2 : mt' c = nI a) (n3 : mt' b = nI (a + 7)) (n4 : mt' (a + 7) = nI b) (n5 : ∀ x, x < 36 → x ≠ a → x ≠ b → x ≠ c → x ≠ a + 7 → mt' x = mt x) (hx : x < 49) (hk : k < 4) (e1 : ¬ x = cu a + 8) (e2 : ¬ tg_nx x k = cu a + 8) : tw mt' x k = tw mt x k := by
  cases h1 : iiB (tg_lp x k) with
  | false => unfold tw; rw [h1]; rfl
  | true =>
    cases h2 : iiB (tg_rp x k) with
    | false => unfold tw; rw [h1, h2]; rfl
    | true =>
      obtain ⟨f1, f2, f3, f4⟩ := far8 ha ha6 hx hk h1 h2 e1 e2
      rw [tw_ii (iiB_t h1) (iiB_t h2), tw_ii (iiB_t h1) (iiB_t h2)]
      have l1 := (fr_ix (w := 0) (iiB_t h1)).2
      have l2 := (fr_ix (w := 0) (iiB_t h2)).2
      have nb : ∀ x y : Nat, x < 100 → y < 100 → x ≠ y → decide (nI x = nI y) = false := fun x y hx hy h => by rw [nd (by omega) (by omega)]; exact decide_eq_false h
      clear e1 e2 hx
      generalize ixp (tg_lp x k) = p at *
      generalize ixp (tg_rp x k) = q at *
      by_cases c1 : p = a
      · obtain ⟨z1, z2⟩ := f1 c1
        rw [c1, m1, n1, nb _ _ (by omega) (by omega) (by omega), nb _ _ (by omega) (by omega) (by omega)]
      by_cases c4 : p = a + 7
      · obtain ⟨z1, z2⟩ := f4 c4
        rw [c4, m4, n4, nb _ _ (by omega) (by omega) (by omega), nb _ _ (by omega) (by omega) (by omega)]
      by_cases c2 : p = b
      · have : q ≠ a ∧ q ≠ a + 7 := by
          rcases hbc with ⟨y1, y2⟩ | ⟨y1, y2⟩
          · exact f2 (by omega)
          · exact f3 (by omega)
        rw [c2, m2, n3, nb _ _ (by omega) (by omega) (by omega), nb _ _ (by omega) (by omega) (by omega)]
      by_cases c3 : p = c
      · have : q ≠ a ∧ q ≠ a + 7 := by
          rcases hbc with ⟨y1, y2⟩ | ⟨y1, y2⟩
          · exact f3 (by omega)
          · exact f2 (by omega)
        rw [c3, m3, n2, nb _ _ (by omega) (by omega) (by omega), nb _ _ (by omega) (by omega) (by omega)]
      rw [n5 _ l1 c1 c2 c3 c4]
theorem TL_turn {w : Int64} {mt mt' : Nat → Int32} {H : Nat → Int} (hT : TL w mt H) {a b c : Nat} (ha : a < 30) (ha6 : a % 6 < 5) (hbc : (b = a + 1 ∧ c = a + 6) ∨ (b = a + 6 ∧ c = a + 1)) (m1 : mt a = nI b) (m2 : mt b = nI a) (m3 : mt c = nI (a + 7)) (m4 : mt (a + 7) = nI c) (hm : ∀ x, x < 36 → mt' x = if x = a then nI c else if x = c then nI a else if x = b then nI (a + 7) else if x = a + 7 then nI b else mt x) : ∃ H', TL w mt' H' := by
  obtain ⟨v, ev⟩ : ∃ v, v = cu a + 8 := ⟨_, rfl⟩
  obtain ⟨hv, i0, i1, i8, i9, x0, x1, x8, x9⟩ := four ha ha6 ev
  have hbc36 : b < 36 ∧ c < 36 ∧ b ≠ a ∧ c ≠ a ∧ b ≠ c ∧ b ≠ a + 7 ∧ c ≠ a + 7 := by omega
  obtain ⟨hb36, hc36, nba, nca, nbc, nbd, ncd⟩ := hbc36
  -- the new mates of the four
  have n1 : mt' a = nI c := by rw [hm a (by omega), if_pos rfl]
  have n2 : mt' c = nI a := by rw [hm c hc36, if_neg nca, if_pos rfl]
  have n3 : mt' b = nI (a + 7) := by rw [hm b hb36, if_neg nba, if_neg nbc, if_pos rfl]
  have n4 : mt' (a + 7) = nI b := by rw [hm _ (by omega), if_neg (by omega), if_neg (by omega), if_neg (by omega), if_pos rfl]
  have n5 : ∀ x, x < 36 → x ≠ a → x ≠ b → x ≠ c → x ≠ a + 7 → mt' x = mt x := fun x hx h1 h2 h3 h4 => by
    rw [hm x hx, if_neg h1, if_neg h3, if_neg h2, if_neg h4]
  -- all four are in the region
  have inR : ∀ x y, x < 36 → y < 36 → mt x = nI y → b6 w x = true ∧ b6 w y = true := fun x y hx hy h => by
    rcases hT.2.1 x hx with q | ⟨d, hd, q1, _, q3, q4⟩
    · rw [q] at h; exact absurd h.symm (nI_m5 (by omega))
    · rw [q1] at h
      have := (nI_eq (by omega) (by omega)).mp h
      exact ⟨q3, by rw [← this]; exact q4⟩
  obtain ⟨ra, rb⟩ := inR a b (by omega) hb36 m1
  obtain ⟨rc, rd⟩ := inR c (a + 7) hc36 (by omega) m3
  have F0 : fr w (tg_q v) = true := by rw [(fr_ix i0).1, x0]; exact ra
  have F1 : fr w (tg_q v + 1) = true := by
    rw [(fr_ix i1).1, x1]
    rcases hbc with ⟨q1, q2⟩ | ⟨q1, q2⟩
    · rw [← q1]; exact rb
    · rw [← q2]; exact rc
  have F8 : fr w (tg_q v + 8) = true := by
    rw [(fr_ix i8).1, x8]
    rcases hbc with ⟨q1, q2⟩ | ⟨q1, q2⟩
    · rw [← q2]; exact rc
    · rw [← q1]; exact rb
  have F9 : fr w (tg_q v + 9) = true := by rw [(fr_ix i9).1, x9]; exact rd
  have lpF : ∀ k, k < 4 → fr w (tg_lp v k) = true ∧ fr w (tg_rp v k) = true := fun k hk => by
    rcases w4 hk with q | q | q | q <;> subst q
    · exact ⟨F1, F9⟩
    · exact ⟨F9, F8⟩
    · exact ⟨F8, F0⟩
    · exact ⟨F0, F1⟩
  -- the two cells over each side at v
  have cells : ∀ k, k < 4 → (k = 0 ∧ ixp (tg_lp v k) = a + 1 ∧ ixp (tg_rp v k) = a + 7) ∨ (k = 1 ∧ ixp (tg_lp v k) = a + 7 ∧ ixp (tg_rp v k) = a + 6) ∨ (k = 2 ∧ ixp (tg_lp v k) = a + 6 ∧ ixp (tg_rp v k) = a) ∨ (k = 3 ∧ ixp (tg_lp v k) = a ∧ ixp (tg_rp v k) = a + 1) := fun k hk => by
    rcases w4 hk with q | q | q | q <;> subst q
    · exact Or.inl ⟨rfl, x1, x9⟩
    · exact Or.inr (Or.inl ⟨rfl, x9, x8⟩)
    · exact Or.inr (Or.inr (Or.inl ⟨rfl, x8, x0⟩))
    · exact Or.inr (Or.inr (Or.inr ⟨rfl, x0, x1⟩))
  have iiv : ∀ k, k < 4 → tg_ii (tg_lp v k) ∧ tg_ii (tg_rp v k) := fun k hk => ⟨tg_in (fr_Fr w) (lpF k hk).1, tg_in (fr_Fr w) (lpF k hk).2⟩
  have vdv : ∀ k, k < 4 → tg_vd v k = true := fun k hk => tg_A_vd (fr_Fr w) hv hk (by unfold tg_A; rw [(lpF k hk).1]; rfl)
  have col : tg_b (tg_lp v 1) = tg_b (tg_lp v 3) ∧ tg_b (tg_lp v 0) = !tg_b (tg_lp v 3) ∧ tg_b (tg_lp v 2) = !tg_b (tg_lp v 3) := by
    have b3 := b_alt v hv 3 (by decide)
    have b1 := b_alt v hv 1 (by decide)
    have b0 := b_alt v hv 0 (by decide)
    have b2 := b_alt v hv 2 (by decide)
    have e30 : tg_rp v 3 = tg_lp v 0 := rfl
    have e01 : tg_rp v 0 = tg_lp v 1 := rfl
    have e12 : tg_rp v 1 = tg_lp v 2 := rfl
    rw [e30] at b3
    rw [e01] at b0
    rw [e12] at b1
    refine ⟨?_, b3, ?_⟩
    · rw [b0, b3, Bool.not_not]
    · rw [b1, b0, b3, Bool.not_not]
  -- rows: the sides up and down are crossed before; columns: right and left
  have two0 : ∀ k, k < 4 → tw mt v k = decide ((k = 1 ∨ k = 3) ↔ b = a + 1) ∧ tw mt' v k = !decide ((k = 1 ∨ k = 3) ↔ b = a + 1) ∧ tw mt (tg_nx v k) ((k + 2) % 4) = decide ((k = 1 ∨ k = 3) ↔ b = a + 1) ∧ tw mt' (tg_nx v k) ((k + 2) % 4) = !decide ((k = 1 ∨ k = 3) ↔ b = a + 1) := fun k hk => by
    obtain ⟨s1, s2⟩ := tg_sw hk (vdv k hk)
    obtain ⟨j1, j2⟩ := iiv k hk
    rw [tw_ii j1 j2, tw_ii j1 j2, tw_ii (by rw [s2]; exact j2) (by rw [s1]; exact j1), tw_ii (by rw [s2]; exact j2) (by rw [s1]; exact j1), s1, s2]
    have nb : ∀ x y : Nat, x < 100 → y < 100 → decide (nI x = nI y) = decide (x = y) := fun x y hx hy => nd (by omega) (by omega)
    have R : ∀ {P Q : Prop} [Decidable P] [Decidable Q], (P ↔ Q) → decide P = decide Q := fun h => by simp [h]
    have R' : ∀ {P Q : Prop} [Decidable P] [Decidable Q], (P ↔ ¬ Q) → decide P = !decide Q := fun {P Q} _ _ h => by
      by_cases q : Q
      · rw [decide_eq_true q, decide_eq_false (fun p => h.mp p q)]; rfl
      · rw [decide_eq_false q, decide_eq_true (h.mpr q)]; rfl
    rcases hbc with ⟨q1, q2⟩ | ⟨q1, q2⟩ <;> subst q1 <;> subst q2 <;> rcases cells k hk with ⟨ek, l, r⟩ | ⟨ek, l, r⟩ | ⟨ek, l, r⟩ | ⟨ek, l, r⟩ <;> rw [l, r] <;> subst ek
    · rw [m2, n3, m4, n4, nb _ _ (by omega) (by omega), nb _ _ (by omega) (by omega), nb _ _ (by omega) (by omega), nb _ _ (by omega) (by omega)]
      exact ⟨R (by omega), R' (by omega), R (by omega), R' (by omega)⟩
    · rw [m4, n4, m3, n2, nb _ _ (by omega) (by omega), nb _ _ (by omega) (by omega), nb _ _ (by omega) (by omega), nb _ _ (by omega) (by omega)]
      exact ⟨R (by omega), R' (by omega), R (by omega), R' (by omega)⟩
    · rw [m3, n2, m1, n1, nb _ _ (by omega) (by omega), nb _ _ (by omega) (by omega), nb _ _ (by omega) (by omega), nb _ _ (by omega) (by omega)]
      exact ⟨R (by omega), R' (by omega), R (by omega), R' (by omega)⟩
    · rw [m1, n1, m2, n3, nb _ _ (by omega) (by omega), nb _ _ (by omega) (by omega), nb _ _ (by omega) (by omega), nb _ _ (by omega) (by omega)]
      exact ⟨R (by omega), R' (by omega), R (by omega), R' (by omega)⟩
    · rw [m3, n2, m4, n4, nb _ _ (by omega) (by omega), nb _ _ (by omega) (by omega), nb _ _ (by omega) (by omega), nb _ _ (by omega) (by omega)]
      exact ⟨R (by omega), R' (by omega), R (by omega), R' (by omega)⟩
    · rw [m4, n4, m2, n3, nb _ _ (by omega) (by omega), nb _ _ (by omega) (by omega), nb _ _ (by omega) (by omega), nb _ _ (by omega) (by omega)]
      exact ⟨R (by omega), R' (by omega), R (by omega), R' (by omega)⟩
    · rw [m2, n3, m1, n1, nb _ _ (by omega) (by omega), nb _ _ (by omega) (by omega), nb _ _ (by omega) (by omega), nb _ _ (by omega) (by omega)]
      exact ⟨R (by omega), R' (by omega), R (by omega), R' (by omega)⟩
    · rw [m1, n1, m3, n2, nb _ _ (by omega) (by omega), nb _ _ (by omega) (by omega), nb _ _ (by omega) (by omega), nb _ _ (by omega) (by omega)]
      exact ⟨R (by omega), R' (by omega), R (by omega), R' (by omega)⟩
  have colk : ∀ k, k < 4 → tg_b (tg_lp v k) = (decide (k = 1 ∨ k = 3) == tg_b (tg_lp v 3)) := fun k hk => by
    rcases w4 hk with q | q | q | q <;> subst q
    · rw [col.2.1]; cases tg_b (tg_lp v 3) <;> rfl
    · rw [col.1]; cases tg_b (tg_lp v 3) <;> rfl
    · rw [col.2.2]; cases tg_b (tg_lp v 3) <;> rfl
    · cases tg_b (tg_lp v 3) <;> rfl
  have nv : ∀ k, k < 4 → tg_nx v k ≠ v := fun k hk q => by
    have := vdv k hk
    rcases w4 hk with e | e | e | e <;> subst e
    · rw [tg_nx0] at q; omega
    · rw [tg_nx1] at q; omega
    · rw [tg_vd2] at this; have := of_decide_eq_true this; rw [tg_nx2] at q; omega
    · rw [tg_vd3] at this; have := of_decide_eq_true this; rw [tg_nx3] at q; omega
  refine ⟨fun x => if x = v then H v + (if (tg_b (tg_lp v 3) == decide (b = a + 1)) = true then -4 else 4) else H x, hT.1, fun x hx => ?_, fun i hi => ?_, fun x k hx hk hU => ?_⟩
  · by_cases e1 : x = a
    · rw [e1]; exact Or.inr ⟨c, hc36, n1, n2, ra, rc⟩
    by_cases e2 : x = b
    · rw [e2]; exact Or.inr ⟨a + 7, by omega, n3, n4, rb, rd⟩
    by_cases e3 : x = c
    · rw [e3]; exact Or.inr ⟨a, by omega, n2, n1, rc, ra⟩
    by_cases e4 : x = a + 7
    · rw [e4]; exact Or.inr ⟨b, hb36, n4, n3, rd, rb⟩
    rw [n5 x hx e1 e2 e3 e4]
    rcases hT.2.1 x hx with q | ⟨d, hd, q1, q2, q3, q4⟩
    · exact Or.inl q
    · have inj : ∀ y z : Nat, y < 100 → z < 100 → nI y = nI z → y = z := fun y z hy hz q => (nI_eq (by omega) (by omega)).mp q
      refine Or.inr ⟨d, hd, q1, ?_, q3, q4⟩
      rw [n5 d hd ?_ ?_ ?_ ?_, q2]
      · intro e; rw [e, m1] at q2; exact e2 (inj _ _ (by omega) (by omega) q2).symm
      · intro e; rw [e, m2] at q2; exact e1 (inj _ _ (by omega) (by omega) q2).symm
      · intro e; rw [e, m3] at q2; exact e4 (inj _ _ (by omega) (by omega) q2).symm
      · intro e; rw [e, m4] at q2; exact e3 (inj _ _ (by omega) (by omega) q2).symm
  · have hs := (til_t hT.1).1
    have : wdv w i ≠ v := fun q => by
      obtain ⟨_, k4', hE, _, _⟩ := wd_ok hs i
      rw [q] at hE
      have := (tg_Eand hE).2
      rw [(lpF _ k4').1] at this
      cases this
    dsimp only
    rw [if_neg this]
    exact hT.2.2.1 i hi
  · have old := hT.2.2.2 x k hx hk hU
    dsimp only
    by_cases e1 : x = v
    · subst e1
      obtain ⟨t1, t2, _, _⟩ := two0 k hk
      rw [if_neg (nv k hk), if_pos rfl, old, t1, t2]
      have hb := (tg_UA hU).1
      rw [colk k hk] at hb
      cases hβ : tg_b (tg_lp x 3) <;> rw [hβ] at hb <;> by_cases hkk : (k = 1 ∨ k = 3) <;> by_cases hba : b = a + 1 <;> simp [hkk, hba] at hb ⊢ <;> omega
    · by_cases e2 : tg_nx x k = v
      · have hd := tg_A_vd (fr_Fr w) hx hk (tg_UA hU).2
        obtain ⟨b1, b2⟩ := tg_back hx hk hd
        rw [e2] at b1 b2
        have ek : ((k + 2) % 4 + 2) % 4 = k := by omega
        obtain ⟨_, _, t3, t4⟩ := two0 ((k + 2) % 4) (by omega)
        rw [b1, ek] at t3 t4
        have hD : tg_D (fr w) v ((k + 2) % 4) = true := by
          have := tg_DU (F := fr w) hv (show (k + 2) % 4 < 4 by omega) b2
          rw [b1, ek, hU] at this
          exact this.symm
        have hb := (tg_DA hD).1
        rw [colk _ (by omega)] at hb
        rw [e2] at old
        rw [e2, if_pos rfl, if_neg e1, old, t3, t4]
        cases hβ : tg_b (tg_lp v 3) <;> rw [hβ] at hb <;> by_cases hkk : ((k + 2) % 4 = 1 ∨ (k + 2) % 4 = 3) <;> by_cases hba : b = a + 1 <;> simp [hkk, hba] at hb ⊢ <;> omega
      · rw [if_neg e2, if_neg e1, old]
        rw [tw_same ha ha6 hbc m1 m2 m3 m4 n1 n2 n3 n4 n5 hx hk (by rw [← ev]; exact e1) (by rw [← ev]; exact e2)]
