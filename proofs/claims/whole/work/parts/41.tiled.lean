/-! TILINGS: the heights by a tiling -/
def ixp (p : Nat) : Nat := 6 * (p / 8 - 1) + (p % 8 - 1)
def tw (mt : Nat → Int32) (v k : Nat) : Bool := iiB (tg_lp v k) && iiB (tg_rp v k) && decide (mt (ixp (tg_lp v k)) = nI (ixp (tg_rp v k)))
/-- a tiling of a tilable region, its mates, its heights -/
def TL (w : Int64) (mt : Nat → Int32) (H : Nat → Int) : Prop :=
  til w = true ∧ (∀ c, c < 36 → mt c = -5 ∨ ∃ d, d < 36 ∧ mt c = nI d ∧ mt d = nI c ∧ b6 w c = true ∧ b6 w d = true) ∧ (∀ i, i < wd_p w → H (wdv w i) = wd_h w i) ∧ (∀ v k, v < 49 → k < 4 → tg_U (fr w) v k = true → H (tg_nx v k) = H v + if tw mt v k = true then -3 else 1)
theorem nI_m5 {k : Nat} (h : k < 2 ^ 31) : ¬ nI k = -5 := fun q => by
  have := congrArg Int32.toInt q
  rw [nI_toInt h] at this
  have e : (-5 : Int32).toInt = -5 := by decide
  omega
theorem iiB_t {p : Nat} (h : iiB p = true) : tg_ii p := by
  unfold iiB at h
  rw [Bool.and_eq_true, Bool.and_eq_true, Bool.and_eq_true] at h
  exact ⟨of_decide_eq_true h.1.1.1, of_decide_eq_true h.1.1.2, of_decide_eq_true h.1.2, of_decide_eq_true h.2⟩
theorem fr_ix {w : Int64} {p : Nat} (h : tg_ii p) : fr w p = b6 w (ixp p) ∧ ixp p < 36 := by
  unfold tg_ii at h
  refine ⟨?_, by unfold ixp; omega⟩
  unfold fr
  rw [decide_eq_true h, Bool.true_and]
  rfl
/-- a two has both cells in the region -/
theorem tw_F {w : Int64} {mt : Nat → Int32} {H : Nat → Int} (hT : TL w mt H) {v k : Nat} (h : tw mt v k = true) : fr w (tg_lp v k) = true ∧ fr w (tg_rp v k) = true ∧ tg_ii (tg_lp v k) ∧ tg_ii (tg_rp v k) ∧ mt (ixp (tg_lp v k)) = nI (ixp (tg_rp v k)) := by
  unfold tw at h
  rw [Bool.and_eq_true, Bool.and_eq_true] at h
  have i1 := iiB_t h.1.1
  have i2 := iiB_t h.1.2
  have e := of_decide_eq_true h.2
  obtain ⟨f1, l1⟩ := fr_ix (w := w) i1
  obtain ⟨f2, l2⟩ := fr_ix (w := w) i2
  rcases hT.2.1 _ l1 with q | ⟨d, hd, q1, _, q3, q4⟩
  · rw [q] at e
    exact absurd e.symm (nI_m5 (by omega))
  · rw [q1] at e
    have ed := (nI_eq (by omega) (by omega)).mp e
    refine ⟨by rw [f1]; exact q3, by rw [f2, ← ed]; exact q4, i1, i2, by rw [q1]; exact e⟩
/-- beside the edge of the region it is 1 -/
theorem up_edge {w : Int64} {H : Nat → Int} (ht : tilP w) (hW : ∀ i, i < wd_p w → H (wdv w i) = wd_h w i) {v k : Nat} (hv : v < 49) (hk : k < 4) (hU : tg_U (fr w) v k = true) (hn : ¬ (fr w (tg_lp v k) = true ∧ fr w (tg_rp v k) = true)) : H (tg_nx v k) = H v + 1 := by
  obtain ⟨hs, h0, _⟩ := ht
  obtain ⟨P1, P2, P3, P4, P5⟩ := wd_pP hs
  have hA := (tg_UA hU).2
  have hb := (tg_UA hU).1
  have hd := tg_A_vd (fr_Fr w) hv hk hA
  have hW' : ∀ i, i ≤ wd_p w → H (wdv w i) = wd_h w i := fun i hi => by
    by_cases c : i = wd_p w
    · rw [c, P3, hW 0 (by omega), h0]; rfl
    · exact hW i (by omega)
  have stp : ∀ x y, x < 49 → y < 4 → tg_E (fr w) x y = true → H (tg_nx x y) = H x + sgZ (tg_b (tg_lp x y)) := fun x y hx hy hE => by
    obtain ⟨i, hi, e1, e2⟩ := P5 x y hx hy hE
    have h1 := hW' i (by omega)
    have h2 := hW' (i + 1) (by omega)
    have e3 := (wd_ok hs i).2.2.2.2
    rw [e3, e1, e2] at h2
    rw [e1] at h1
    rw [h1, h2]
    show wd_h w i + sgZ (tg_b (tg_lp (wdv w i) (wdw w i))) = _
    rw [e1, e2]
  unfold tg_A at hA
  cases hl : fr w (tg_lp v k) with
  | true =>
    have hr : fr w (tg_rp v k) = false := by
      cases e : fr w (tg_rp v k) with
      | false => rfl
      | true => exact absurd ⟨hl, e⟩ hn
    obtain ⟨s1, s2⟩ := tg_sw hk hd
    obtain ⟨b1, b2⟩ := tg_back hv hk hd
    have hE : tg_E (fr w) (tg_nx v k) ((k + 2) % 4) = true := by
      unfold tg_E
      rw [s1, s2, hl, hr]; rfl
    have := stp _ _ (tg_vd_lt hv hk hd) (by omega) hE
    rw [b1, s2, b_alt v hv k hk, hb] at this
    have : H v = H (tg_nx v k) + -1 := this
    omega
  | false =>
    rw [hl, Bool.false_or] at hA
    have hE : tg_E (fr w) v k = true := by
      unfold tg_E
      rw [hl, hA]; rfl
    have := stp v k hv hk hE
    rw [hb] at this
    exact this
/-- the mates in the end -/
theorem lm_vals {R B : Nat → Bool} {c : Nat} (hc : c < 36) (ex1 : ¬ (R c = true ∧ B c = true)) (ex2 : ¬ (R c = true ∧ (0 < c % 6 ∧ R (c - 1) = true))) (ex3 : ¬ (R c = true ∧ (6 ≤ c ∧ B (c - 6) = true))) (ex4 : ¬ (B c = true ∧ (0 < c % 6 ∧ R (c - 1) = true))) (ex5 : ¬ (B c = true ∧ (6 ≤ c ∧ B (c - 6) = true))) (ex6 : ¬ ((0 < c % 6 ∧ R (c - 1) = true) ∧ (6 ≤ c ∧ B (c - 6) = true))) :
    (lm R B 36 c = nI (c + 1) ↔ R c = true) ∧ (lm R B 36 c = nI (c + 6) ↔ B c = true) ∧ (0 < c % 6 → (lm R B 36 c = nI (c - 1) ↔ R (c - 1) = true)) ∧ (6 ≤ c → (lm R B 36 c = nI (c - 6) ↔ B (c - 6) = true)) ∧ (lm R B 36 c = -5 ∨ R c = true ∨ B c = true ∨ (0 < c % 6 ∧ R (c - 1) = true) ∨ (6 ≤ c ∧ B (c - 6) = true)) := by
  have ne : ∀ a b : Nat, a < 100 → b < 100 → a ≠ b → nI a ≠ nI b := fun a b ha hb h q => h ((nI_eq (by omega) (by omega)).mp q)
  have n5 : ∀ a : Nat, a < 100 → (-5 : Int32) ≠ nI a := fun a ha q => nI_m5 (by omega) q.symm
  unfold lm
  by_cases c1 : R c = true
  · rw [if_pos ⟨c1, hc⟩]
    have cB : ¬ B c = true := fun q => ex1 ⟨c1, q⟩
    refine ⟨⟨fun _ => c1, fun _ => rfl⟩, ⟨fun q => absurd q (ne _ _ (by omega) (by omega) (by omega)), fun q => absurd q cB⟩, fun h => ⟨fun q => absurd q (ne _ _ (by omega) (by omega) (by omega)), fun q => absurd ⟨c1, h, q⟩ ex2⟩, fun h => ⟨fun q => absurd q (ne _ _ (by omega) (by omega) (by omega)), fun q => absurd ⟨c1, h, q⟩ ex3⟩, Or.inr (Or.inl c1)⟩
  rw [if_neg (fun q => c1 q.1)]
  by_cases c2 : B c = true
  · rw [if_pos ⟨c2, hc⟩]
    refine ⟨⟨fun q => absurd q (ne _ _ (by omega) (by omega) (by omega)), fun q => absurd q c1⟩, ⟨fun _ => c2, fun _ => rfl⟩, fun h => ⟨fun q => absurd q (ne _ _ (by omega) (by omega) (by omega)), fun q => absurd ⟨c2, h, q⟩ ex4⟩, fun h => ⟨fun q => absurd q (ne _ _ (by omega) (by omega) (by omega)), fun q => absurd ⟨c2, h, q⟩ ex5⟩, Or.inr (Or.inr (Or.inl c2))⟩
  rw [if_neg (fun q => c2 q.1)]
  by_cases c3 : 0 < c % 6 ∧ R (c - 1) = true
  · rw [if_pos ⟨c3.1, c3.2, by omega⟩]
    refine ⟨⟨fun q => absurd q (ne _ _ (by omega) (by omega) (by omega)), fun q => absurd q c1⟩, ⟨fun q => absurd q (ne _ _ (by omega) (by omega) (by omega)), fun q => absurd q c2⟩, fun h => ⟨fun _ => c3.2, fun _ => rfl⟩, fun h => ⟨fun q => absurd q (ne _ _ (by omega) (by omega) (by omega)), fun q => absurd ⟨c3, h, q⟩ ex6⟩, Or.inr (Or.inr (Or.inr (Or.inl c3)))⟩
  rw [if_neg (fun q => c3 ⟨q.1, q.2.1⟩)]
  by_cases c4 : 6 ≤ c ∧ B (c - 6) = true
  · rw [if_pos ⟨c4.1, c4.2, by omega⟩]
    refine ⟨⟨fun q => absurd q (ne _ _ (by omega) (by omega) (by omega)), fun q => absurd q c1⟩, ⟨fun q => absurd q (ne _ _ (by omega) (by omega) (by omega)), fun q => absurd q c2⟩, fun h => ⟨fun q => absurd q (ne _ _ (by omega) (by omega) (by omega)), fun q => absurd ⟨h, q⟩ c3⟩, fun h => ⟨fun _ => c4.2, fun _ => rfl⟩, Or.inr (Or.inr (Or.inr (Or.inr c4)))⟩
  rw [if_neg (fun q => c4 ⟨q.1, q.2.1⟩)]
  exact ⟨⟨fun q => absurd q (n5 _ (by omega)), fun q => absurd q c1⟩, ⟨fun q => absurd q (n5 _ (by omega)), fun q => absurd q c2⟩, fun h => ⟨fun q => absurd q (n5 _ (by omega)), fun q => absurd ⟨h, q⟩ c3⟩, fun h => ⟨fun q => absurd q (n5 _ (by omega)), fun q => absurd ⟨h, q⟩ c4⟩, Or.inl rfl⟩
theorem cu_ixp {p : Nat} (h : tg_ii p) : cu (ixp p) = tg_u p := by
  have key : ∀ A B : Nat, B < 6 → cu (6 * A + B) = 7 * A + B := fun A B hB => by unfold cu; omega
  unfold ixp tg_u
  unfold tg_ii at h
  exact key _ _ (by omega)
theorem TL_lay {w : Int64} {H : Nat → Int} (ht : til w = true) (hH : upZ w H) (hW : ∀ i, i < wd_p w → H (wdv w i) = wd_h w i) {mt : Nat → Int32} (hm : ∀ x, x < 36 → mt x = lm (spR w H) (spB w H) 36 x) : TL w mt H := by
  have V : ∀ c, c < 36 → _ := fun c hc => by
    obtain ⟨e1, e2, e3, e4, e5, e6⟩ := sp_excl hH hc
    exact lm_vals hc e1 e2 e3 e4 e5 e6
  refine ⟨ht, fun c hc => ?_, hW, fun v k hv hk hU => ?_⟩
  · obtain ⟨v1, v2, v3, v4, v5⟩ := V c hc
    rw [hm c hc]
    rcases v5 with q | q | q | q | q
    · exact Or.inl q
    · have s := spR_t.mp q
      obtain ⟨_, _, u3, _, _⟩ := V (c + 1) (by omega)
      refine Or.inr ⟨c + 1, by omega, v1.mpr q, ?_, s.2.1, s.2.2.1⟩
      rw [hm _ (by omega)]
      have := (u3 (by omega)).mpr (by rw [Nat.add_sub_cancel]; exact q)
      rwa [Nat.add_sub_cancel] at this
    · have s := spB_t.mp q
      obtain ⟨_, _, _, u4, _⟩ := V (c + 6) (by omega)
      refine Or.inr ⟨c + 6, by omega, v2.mpr q, ?_, s.2.1, s.2.2.1⟩
      rw [hm _ (by omega)]
      have := (u4 (by omega)).mpr (by rw [Nat.add_sub_cancel]; exact q)
      rwa [Nat.add_sub_cancel] at this
    · have s := spR_t.mp q.2
      obtain ⟨u1, _, _, _, _⟩ := V (c - 1) (by omega)
      refine Or.inr ⟨c - 1, by omega, (v3 q.1).mpr q.2, ?_, ?_, s.2.1⟩
      · rw [hm _ (by omega)]
        have := u1.mpr q.2
        rwa [show c - 1 + 1 = c by omega] at this
      · have := s.2.2.1
        rwa [show c - 1 + 1 = c by omega] at this
    · have s := spB_t.mp q.2
      obtain ⟨_, u2, _, _, _⟩ := V (c - 6) (by omega)
      refine Or.inr ⟨c - 6, by omega, (v4 q.1).mpr q.2, ?_, ?_, s.2.1⟩
      · rw [hm _ (by omega)]
        have := u2.mpr q.2
        rwa [show c - 6 + 6 = c by omega] at this
      · have := s.2.2.1
        rwa [show c - 6 + 6 = c by omega] at this
  · by_cases hb : fr w (tg_lp v k) = true ∧ fr w (tg_rp v k) = true
    · have i1 := tg_in (fr_Fr w) hb.1
      have i2 := tg_in (fr_Fr w) hb.2
      obtain ⟨f1, l1⟩ := fr_ix (w := w) i1
      obtain ⟨f2, l2⟩ := fr_ix (w := w) i2
      have b1 : b6 w (ixp (tg_lp v k)) = true := by rw [← f1]; exact hb.1
      have b2 : b6 w (ixp (tg_rp v k)) = true := by rw [← f2]; exact hb.2
      have etw : tw mt v k = decide (mt (ixp (tg_lp v k)) = nI (ixp (tg_rp v k))) := by
        unfold tw
        rw [iiB_of i1, iiB_of i2]; rfl
      have key : mt (ixp (tg_lp v k)) = nI (ixp (tg_rp v k)) ↔ (H (tg_nx v k) - H v = 3 ∨ H (tg_nx v k) - H v = -3) := by
        rw [hm _ l1]
        obtain ⟨v1, v2, v3, v4, _⟩ := V _ l1
        rcases w4 hk with q | q | q | q <;> subst q
        · have e1 : tg_lp v 0 = 8 * (v / 7) + v % 7 + 1 := rfl
          have e2 : tg_rp v 0 = 8 * (v / 7) + v % 7 + 9 := rfl
          rw [e1] at i1 b1 l1 v1 v2 v3 v4 ⊢
          rw [e2] at i2 b2 l2 ⊢
          have c1 : ixp (8 * (v / 7) + v % 7 + 9) = ixp (8 * (v / 7) + v % 7 + 1) + 6 := by unfold ixp; omega
          rw [c1] at b2 ⊢
          rw [v2, spB_t, tg_nx0, show cu (ixp (8 * (v / 7) + v % 7 + 1)) + 8 = v + 1 by unfold cu ixp; omega, show cu (ixp (8 * (v / 7) + v % 7 + 1)) + 7 = v by unfold cu ixp; omega]
          exact ⟨fun z => z.2.2.2, fun z => ⟨by unfold ixp; omega, b1, b2, z⟩⟩
        · have e1 : tg_lp v 1 = 8 * (v / 7) + v % 7 + 9 := rfl
          have e2 : tg_rp v 1 = 8 * (v / 7) + v % 7 + 8 := rfl
          rw [e1] at i1 b1 l1 v1 v2 v3 v4 ⊢
          rw [e2] at i2 b2 l2 ⊢
          have c1 : ixp (8 * (v / 7) + v % 7 + 8) = ixp (8 * (v / 7) + v % 7 + 9) - 1 := by unfold ixp; omega
          rw [c1] at b2 ⊢
          have c0 : 0 < ixp (8 * (v / 7) + v % 7 + 9) % 6 := by unfold ixp; omega
          rw [v3 c0, spR_t, tg_nx1, show cu (ixp (8 * (v / 7) + v % 7 + 9) - 1) + 8 = v + 7 by unfold cu ixp; omega, show cu (ixp (8 * (v / 7) + v % 7 + 9) - 1) + 1 = v by unfold cu ixp; omega]
          refine ⟨fun z => z.2.2.2, fun z => ⟨by omega, b2, ?_, z⟩⟩
          rw [show ixp (8 * (v / 7) + v % 7 + 9) - 1 + 1 = ixp (8 * (v / 7) + v % 7 + 9) by omega]
          exact b1
        · have e1 : tg_lp v 2 = 8 * (v / 7) + v % 7 + 8 := rfl
          have e2 : tg_rp v 2 = 8 * (v / 7) + v % 7 := rfl
          rw [e1] at i1 b1 l1 v1 v2 v3 v4 ⊢
          rw [e2] at i2 b2 l2 ⊢
          have c1 : ixp (8 * (v / 7) + v % 7) = ixp (8 * (v / 7) + v % 7 + 8) - 6 := by unfold ixp; omega
          rw [c1] at b2 ⊢
          have c0 : 6 ≤ ixp (8 * (v / 7) + v % 7 + 8) := by unfold ixp; omega
          rw [v4 c0, spB_t, tg_nx2, show cu (ixp (8 * (v / 7) + v % 7 + 8) - 6) + 8 = v by rw [← c1, cu_ixp i2]; unfold tg_u; omega, show cu (ixp (8 * (v / 7) + v % 7 + 8) - 6) + 7 = v - 1 by rw [← c1, cu_ixp i2]; unfold tg_u; omega, show ixp (8 * (v / 7) + v % 7 + 8) - 6 + 6 = ixp (8 * (v / 7) + v % 7 + 8) by omega]
          constructor
          · rintro ⟨_, _, _, z⟩; omega
          · intro z; exact ⟨by omega, b2, b1, by omega⟩
        · have e1 : tg_lp v 3 = 8 * (v / 7) + v % 7 := rfl
          have e2 : tg_rp v 3 = 8 * (v / 7) + v % 7 + 1 := rfl
          rw [e1] at i1 b1 l1 v1 v2 v3 v4 ⊢
          rw [e2] at i2 b2 l2 ⊢
          have c1 : ixp (8 * (v / 7) + v % 7 + 1) = ixp (8 * (v / 7) + v % 7) + 1 := by unfold ixp; omega
          rw [c1] at b2 ⊢
          rw [v1, spR_t, tg_nx3, show cu (ixp (8 * (v / 7) + v % 7)) + 8 = v by rw [cu_ixp i1]; unfold tg_u; omega, show cu (ixp (8 * (v / 7) + v % 7)) + 1 = v - 7 by rw [cu_ixp i1]; unfold tg_u; omega]
          constructor
          · rintro ⟨_, _, _, z⟩; omega
          · intro z; exact ⟨by unfold ixp; omega, b1, b2, by omega⟩
      rw [etw]
      have := hH v k hv hk hU
      by_cases c : mt (ixp (tg_lp v k)) = nI (ixp (tg_rp v k))
      · rw [if_pos (decide_eq_true c)]
        have := key.mp c
        omega
      · rw [if_neg (by rw [decide_eq_true_eq]; exact c)]
        have : ¬ (H (tg_nx v k) - H v = 3 ∨ H (tg_nx v k) - H v = -3) := fun q => c (key.mpr q)
        omega
    · have : tw mt v k = false := by
        cases e : tw mt v k with
        | false => rfl
        | true =>
          unfold tw at e
          rw [Bool.and_eq_true, Bool.and_eq_true] at e
          have i1 := iiB_t e.1.1
          have i2 := iiB_t e.1.2
          obtain ⟨f1, l1⟩ := fr_ix (w := w) i1
          obtain ⟨f2, l2⟩ := fr_ix (w := w) i2
          have em := of_decide_eq_true e.2
          rw [hm _ l1] at em
          exfalso
          apply hb
          rw [f1, f2]
          obtain ⟨v1, v2, v3, v4, v5⟩ := V _ l1
          have ne : ∀ a b : Nat, a < 100 → b < 100 → nI a = nI b → a = b := fun a b ha hb q => (nI_eq (by omega) (by omega)).mp q
          rcases v5 with q | q | q | q | q
          · rw [q] at em
            exact absurd em.symm (nI_m5 (by omega))
          · rw [v1.mpr q] at em
            rw [← ne _ _ (by omega) (by omega) em]
            have s := spR_t.mp q
            exact ⟨s.2.1, s.2.2.1⟩
          · rw [v2.mpr q] at em
            rw [← ne _ _ (by omega) (by omega) em]
            have s := spB_t.mp q
            exact ⟨s.2.1, s.2.2.1⟩
          · rw [(v3 q.1).mpr q.2] at em
            rw [← ne _ _ (by omega) (by omega) em]
            have s := spR_t.mp q.2
            refine ⟨?_, s.2.1⟩
            have := s.2.2.1
            rwa [show ixp (tg_lp v k) - 1 + 1 = ixp (tg_lp v k) by omega] at this
          · rw [(v4 q.1).mpr q.2] at em
            rw [← ne _ _ (by omega) (by omega) em]
            have s := spB_t.mp q.2
            refine ⟨?_, s.2.1⟩
            have := s.2.2.1
            rwa [show ixp (tg_lp v k) - 6 + 6 = ixp (tg_lp v k) by omega] at this
      rw [this, up_edge (til_t ht) hW hv hk hU hb]
      rfl
/-- heights by a tiling are small -/
theorem TL_path {w : Int64} {mt : Nat → Int32} {H : Nat → Int} (hT : TL w mt H) {a : Nat} (ha : a < 49) : ∀ {m b : Nat}, bp (tg_G (fr w) 0) m a b → H b ≤ H a + m
  | 0, _, h => by cases (show a = _ from h); show H a ≤ H a + ((0:Nat):Int); omega
  | m + 1, _, ⟨c, k, h, hk, hc, hg, e⟩ => by
    have ih := TL_path hT ha h
    rw [tg_G0 _ hk] at hg
    have := hT.2.2.2 c k hc hk hg
    rw [← e, this]
    split <;> omega
theorem TL_b {w : Int64} {mt : Nat → Int32} {H : Nat → Int} (hT : TL w mt H) {v : Nat} (hv : v < 49) (ov : tg_of (fr w) v = true) : -200 ≤ H v ∧ H v ≤ 200 := by
  have hs := (til_t hT.1).1
  have P1 := (wd_pP hs).1
  have o0 := wd_of hs 0
  have h0 : H (wdv w 0) = 0 := hT.2.2.1 0 (by omega)
  have l0 := (wd_ok hs 0).1
  have p1 := TL_path hT l0 (dd_spec (reach_w hs o0 ov)).1
  have p2 := TL_path hT hv (dd_spec (reach_w hs ov o0)).1
  have d1 := dd_lt hs l0 hv o0 ov
  have d2 := dd_lt hs hv l0 ov o0
  omega
theorem lo_b {w : Int64} (h : smp w = true) {v : Nat} (hv : v < 49) (ov : tg_of (fr w) v = true) : -200 ≤ loZ w v ∧ loZ w v ≤ 200 := by
  obtain ⟨⟨i, i1, i2⟩, _⟩ := loZ_spec h v
  have := wd_h_le w i
  have := (wd_pP h).2.1
  have := dd_lt h hv (wd_ok h i).1 ov (wd_of h i)
  omega
theorem hi_b {w : Int64} (h : smp w = true) {v : Nat} (hv : v < 49) (ov : tg_of (fr w) v = true) : -200 ≤ hiZ w v ∧ hiZ w v ≤ 200 := by
  obtain ⟨⟨i, i1, i2⟩, _⟩ := hiZ_spec h v
  have := wd_h_le w i
  have := (wd_pP h).2.1
  have := dd_lt h (wd_ok h i).1 hv (wd_of h i) ov
  omega
/-- from what is settled an up step leads on -/
theorem bp_exit {F : Nat → Bool} (S : Nat → Bool) {a : Nat} (ha : S a = true) : ∀ {m b : Nat}, bp (tg_G F 0) m a b → S b = false → ∃ c k, c < 49 ∧ k < 4 ∧ tg_U F c k = true ∧ S c = true ∧ S (tg_nx c k) = false
  | 0, _, h, hb => by
    cases (show a = _ from h)
    rw [ha] at hb
    cases hb
  | m + 1, _, ⟨c, k, h, hk, hc, hg, e⟩, hb => by
    rw [tg_G0 _ hk] at hg
    cases hS : S c with
    | false => exact bp_exit S ha h hS
    | true => exact ⟨c, k, hc, hk, hg, hS, by rw [e]; exact hb⟩
