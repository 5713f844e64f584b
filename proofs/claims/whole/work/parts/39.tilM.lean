/-! the reference's isTilable finds the same -/
def tl_far (w : Int64) (fa : Nat → Int32) : Prop := ∀ u v, u < 49 → v < 49 → tg_of (fr w) u = true → tg_of (fr w) v = true → fa (49 * u + v) = nI (dd w u v)
theorem tl_all {w : Int64} (h : smp w = true) (gfa gqu : Nat → Int32) : ∃ g q, wh (M_isTilable_s24 w) FU ((0:Int32), gfa, gqu) = some (g, q) ∧ tl_far w g := by
  have := wh_tot (st := M_isTilable_s24 w) (B := fun r => tl_far w r.1)
    (fun m s => ∃ k, k + m = 49 ∧ s.1 = nI k ∧ ∀ u v, u < k → v < 49 → tg_of (fr w) u = true → tg_of (fr w) v = true → s.2.1 (49 * u + v) = nI (dd w u v)) ?_ FU 49 ((0:Int32), gfa, gqu) (by have := FU_big; omega) ⟨0, rfl, rfl, fun u v c => absurd c (Nat.not_lt_zero _)⟩
  · obtain ⟨⟨g, q⟩, e, hv⟩ := this
    exact ⟨g, q, e, hv⟩
  · rintro m ⟨y, g, q⟩ ⟨k, hk, e1, h1⟩
    dsimp only at e1 h1
    subst e1
    unfold M_isTilable_s24
    dsimp only
    rcases Nat.lt_or_ge k 49 with c | c
    · right
      obtain ⟨g', q', z1, z2, z3⟩ := goesFrom_eq c w g q
      rw [if_neg (show ¬ (49 : Int32) ≤ nI k from nI_ge (a := k) (b := 49) c (by decide)), z1, wbind rfl, nI_1]
      refine ⟨m - 1, (nI (k + 1), g', q'), by omega, rfl, k + 1, by omega, rfl, fun u v hu hv ou ov => ?_⟩
      dsimp only
      by_cases e : u = k
      · subst e
        exact (dd_bD (reach_w h ou ov) (z3 ou v hv)).1
      · rw [z2 (49 * u + v) (by omega)]
        exact h1 u v (by omega) hv ou ov
    · left
      have : k = 49 := by omega
      subst this
      rw [if_pos (by decide)]
      exact ⟨_, rfl, h1⟩
theorem tl_row {w : Int64} (h : smp w = true) {st he ow fa : Nat → Int32} (hM : wd_M w st he ow) (hf : tl_far w fa) {v : Nat} (hv : v < 49) : ∃ r, wh (M_isLower_s10 (nI v) he ow fa) FU (0:Int32) = some r ∧ ((r = Sum.inr () ∧ ∀ i j, i < wd_p w → j < wd_p w → wdv w i = v → wd_h w j ≤ wd_h w i + dd w (wdv w i) (wdv w j)) ∨ (r = Sum.inl () ∧ ∃ i j, i < wd_p w ∧ j < wd_p w ∧ wd_h w i + dd w (wdv w i) (wdv w j) < wd_h w j)) := by
  have P2 := (wd_pP h).2.1
  have P4 := (wd_pP h).2.2.2.1
  have uq : ∀ i j, i < wd_p w → j < wd_p w → wdv w i = wdv w j → i = j := fun i j hi hj e => by
    rcases Nat.lt_trichotomy i j with z | z | z
    · exact absurd e (P4 i j z hj)
    · exact z
    · exact absurd e.symm (P4 j i z hi)
  refine wh_tot (st := M_isLower_s10 (nI v) he ow fa) (B := fun r => ((r = Sum.inr () ∧ ∀ i j, i < wd_p w → j < wd_p w → wdv w i = v → wd_h w j ≤ wd_h w i + dd w (wdv w i) (wdv w j)) ∨ (r = Sum.inl () ∧ ∃ i j, i < wd_p w ∧ j < wd_p w ∧ wd_h w i + dd w (wdv w i) (wdv w j) < wd_h w j)))
    (fun m s => ∃ k, k + m = 49 ∧ s = nI k ∧ ∀ i j, i < wd_p w → j < wd_p w → wdv w i = v → wdv w j < k → wd_h w j ≤ wd_h w i + dd w (wdv w i) (wdv w j)) ?_ FU 49 (0:Int32) (by have := FU_big; omega) ⟨0, rfl, rfl, fun i j _ _ _ c => absurd c (Nat.not_lt_zero _)⟩
  rintro m s ⟨k, hk, e1, h1⟩
  subst e1
  unfold M_isLower_s10 M_isLower_j63
  rcases Nat.lt_or_ge k 49 with c | c
  rotate_left
  · left
    have : k = 49 := by omega
    subst this
    rw [if_pos (by decide)]
    exact ⟨_, rfl, Or.inl ⟨rfl, fun i j hi hj e => h1 i j hi hj e (wd_ok h j).1⟩⟩
  rw [if_neg (show ¬ (49 : Int32) ≤ nI k from nI_ge (a := k) (b := 49) c (by decide)), grd_t (gi_nI hv (by decide)), nI_clamp (show v < 2 ^ 31 by omega), nI_clamp (show k < 2 ^ 31 by omega), hM.1 v hv, hM.1 k c, bI_if, bI_if, nI_1]
  cases hov : wdon w v with
  | false =>
    right
    refine ⟨m - 1, nI (k + 1), by omega, rfl, k + 1, by omega, rfl, fun i j hi hj e _ => ?_⟩
    have : wdon w v = true := wdon_iff.mpr ⟨i, hi, e⟩
    rw [hov] at this; cases this
  | true =>
    rw [if_pos rfl, grd_t (gi_nI c (by decide))]
    cases hok : wdon w k with
    | false =>
      right
      refine ⟨m - 1, nI (k + 1), by omega, rfl, k + 1, by omega, rfl, fun i j hi hj e hjk => ?_⟩
      by_cases ek : wdv w j = k
      · have : wdon w k = true := wdon_iff.mpr ⟨j, hj, ek⟩
        rw [hok] at this; cases this
      · exact h1 i j hi hj e (by omega)
    | true =>
      obtain ⟨i, hi, ei⟩ := wdon_iff.mp hov
      obtain ⟨j, hj, ej⟩ := wdon_iff.mp hok
      have e49 : (49:Int32) * nI v + nI k = nI (49 * v + k) := by rw [show (49:Int32) * nI v = nI (49 * v) from pk_mul 49 v, nI_add]
      have oi := wd_of h i
      have oj := wd_of h j
      rw [ei] at oi
      rw [ej] at oj
      have hev : he v = iZ (wd_h w i) := by rw [← ei]; exact (hM.2 i hi).2
      have hek : he k = iZ (wd_h w j) := by rw [← ej]; exact (hM.2 j hj).2
      have b1 := wd_h_le w i
      have b2 := wd_h_le w j
      have b3 := dd_lt h hv c oi oj
      rw [if_pos rfl, grd_t (gi_nI c (by decide)), grd_t (gi_nI hv (by decide)), e49, grd_t (gi_nI (by omega) (by decide)), nI_clamp (by omega), hf v k hv c oi oj, hev, hek, iZ_nI, iZ_add]
      by_cases le : wd_h w j ≤ wd_h w i + dd w v k
      · right
        rw [if_pos ((iZ_le (by unfold sm; omega) (by unfold sm; omega)).mpr le)]
        refine ⟨m - 1, nI (k + 1), by omega, rfl, k + 1, by omega, rfl, fun i' j' hi' hj' e' hjk => ?_⟩
        by_cases ek : wdv w j' = k
        · have e1 := uq i' i hi' hi (by rw [e', ei])
          have e2 := uq j' j hj' hj (by rw [ek, ej])
          subst e1 e2
          rw [ei, ej]
          exact le
        · exact h1 i' j' hi' hj' e' (by omega)
      · left
        rw [if_neg (fun z => le ((iZ_le (by unfold sm; omega) (by unfold sm; omega)).mp z))]
        exact ⟨_, rfl, Or.inr ⟨rfl, i, j, hi, hj, by rw [ei, ej]; omega⟩⟩
theorem isLower_eq {w : Int64} (h : smp w = true) (h0 : wd_h w (wd_p w) = 0) {st he ow fa : Nat → Int32} (hM : wd_M w st he ow) (hf : tl_far w fa) : M_isLower he ow fa = some (bI (til w)) := by
  unfold M_isLower
  have := wh_tot (st := M_isLower_s2 he ow fa) (B := fun r => (r = Sum.inr () ∧ tilP w) ∨ (r = Sum.inl () ∧ ¬ tilP w))
    (fun m s => ∃ k, k + m = 49 ∧ s = nI k ∧ ∀ i j, i < wd_p w → j < wd_p w → wdv w i < k → wd_h w j ≤ wd_h w i + dd w (wdv w i) (wdv w j)) ?_ FU 49 (0:Int32) (by have := FU_big; omega) ⟨0, rfl, rfl, fun i j _ _ c => absurd c (Nat.not_lt_zero _)⟩
  · obtain ⟨r, e, ⟨er, ht⟩ | ⟨er, ht⟩⟩ := this
    · rw [e, er, til_of ht]; rfl
    · rw [e, er, til_f ht]; rfl
  · rintro m s ⟨k, hk, e1, h1⟩
    subst e1
    unfold M_isLower_s2
    rcases Nat.lt_or_ge k 49 with c | c
    · rw [if_neg (show ¬ (49 : Int32) ≤ nI k from nI_ge (a := k) (b := 49) c (by decide))]
      obtain ⟨r, e, ⟨er, hr⟩ | ⟨er, i, j, hi, hj, lt⟩⟩ := tl_row h hM hf c
      · right
        rw [e, er, nI_1]
        refine ⟨m - 1, nI (k + 1), by omega, rfl, k + 1, by omega, rfl, fun i j hi hj hik => ?_⟩
        by_cases ek : wdv w i = k
        · exact hr i j hi hj ek
        · exact h1 i j hi hj (by omega)
      · left
        rw [e, er]
        exact ⟨_, rfl, Or.inr ⟨rfl, fun ht => by have := ht.2.2 i j hi hj; omega⟩⟩
    · left
      have : k = 49 := by omega
      subst this
      rw [if_pos (by decide)]
      exact ⟨_, rfl, Or.inl ⟨rfl, h, h0, fun i j hi hj => h1 i j hi hj (wd_ok h i).1⟩⟩
theorem bounds_eq {w : Int64} (h : smp w = true) {st he ow fa : Nat → Int32} (hM : wd_M w st he ow) (hf : tl_far w fa) {v : Nat} (hv : v < 49) (ov : tg_of (fr w) v = true) (glo ghi : Nat → Int32) : ∃ lo hi, M_bounds (nI v) he ow fa glo ghi = some (lo, hi) ∧ lo v = iZ (loZ w v) ∧ hi v = iZ (hiZ w v) ∧ ∀ x, x ≠ v → lo x = glo x ∧ hi x = ghi x := by
  have P1 := (wd_pP h).1
  have P2 := (wd_pP h).2.1
  have P4 := (wd_pP h).2.2.2.1
  have uq : ∀ i j, i < wd_p w → j < wd_p w → wdv w i = wdv w j → i = j := fun i j hi hj e => by
    rcases Nat.lt_trichotomy i j with z | z | z
    · exact absurd e (P4 i j z hj)
    · exact z
    · exact absurd e.symm (P4 j i z hi)
  unfold M_bounds
  have := wh_tot (st := M_bounds_s4 (nI v) he ow fa) (B := fun r => r.1 v = iZ (loZ w v) ∧ r.2 v = iZ (hiZ w v) ∧ ∀ x, x ≠ v → r.1 x = glo x ∧ r.2 x = ghi x)
    (fun m s => ∃ k, k + m = 49 ∧ s.2.1 = nI k ∧ (∀ x, x ≠ v → s.2.2.1 x = glo x ∧ s.2.2.2 x = ghi x) ∧ ((s.1 = 1 ∧ ∀ i, i < wd_p w → ¬ wdv w i < k) ∨ (s.1 = 0 ∧ ∃ z1 z2 : Int, s.2.2.1 v = iZ z1 ∧ s.2.2.2 v = iZ z2 ∧ (∃ i, i < wd_p w ∧ wdv w i < k ∧ z1 = wd_h w i - dd w v (wdv w i)) ∧ (∀ i, i < wd_p w → wdv w i < k → wd_h w i - dd w v (wdv w i) ≤ z1) ∧ (∃ i, i < wd_p w ∧ wdv w i < k ∧ z2 = wd_h w i + dd w (wdv w i) v) ∧ (∀ i, i < wd_p w → wdv w i < k → z2 ≤ wd_h w i + dd w (wdv w i) v)))) ?_ FU 49 ((1:Int32), (0:Int32), glo, ghi) (by have := FU_big; omega) ⟨0, rfl, rfl, fun x _ => ⟨rfl, rfl⟩, Or.inl ⟨rfl, fun i _ c => absurd c (Nat.not_lt_zero _)⟩⟩
  · obtain ⟨⟨lo, hi⟩, e, h1, h2, h3⟩ := this
    exact ⟨lo, hi, wbind e, h1, h2, h3⟩
  · rintro m ⟨f, y, lo, hi⟩ ⟨k, hk, e1, hx, hz⟩
    dsimp only at e1 hx hz
    subst e1
    unfold M_bounds_s4
    dsimp only
    rcases Nat.lt_or_ge k 49 with c | c
    rotate_left
    · left
      have : k = 49 := by omega
      subst this
      rw [if_pos (by decide)]
      refine ⟨_, rfl, ?_⟩
      rcases hz with ⟨_, hn⟩ | ⟨_, z1, z2, q1, q2, ⟨i, i1, _, i3⟩, q3, ⟨j, j1, _, j3⟩, q4⟩
      · exact absurd (wd_ok h 0).1 (hn 0 (by omega))
      · obtain ⟨⟨a, a1, a2⟩, a3⟩ := loZ_spec h v
        obtain ⟨⟨b, b1, b2⟩, b3⟩ := hiZ_spec h v
        have l1 := a3 i i1
        have l2 := q3 a a1 (wd_ok h a).1
        have l3 := b3 j j1
        have l4 := q4 b b1 (wd_ok h b).1
        exact ⟨q1.trans (by rw [show z1 = loZ w v by omega]), q2.trans (by rw [show z2 = hiZ w v by omega]), hx⟩
    right
    rw [if_neg (show ¬ (49 : Int32) ≤ nI k from nI_ge (a := k) (b := 49) c (by decide)), grd_t (gi_nI c (by decide)), nI_clamp (show k < 2 ^ 31 by omega), hM.1 k c, bI_if]
    cases hok : wdon w k with
    | false =>
      have nk : ∀ i, i < wd_p w → wdv w i < k + 1 → wdv w i < k := fun i hi l => by
        by_cases ek : wdv w i = k
        · have : wdon w k = true := wdon_iff.mpr ⟨i, hi, ek⟩
          rw [hok] at this; cases this
        · omega
      refine ⟨m - 1, (f, nI k + 1, lo, hi), by omega, rfl, k + 1, by omega, nI_1 k, hx, ?_⟩
      rcases hz with ⟨f1, hn⟩ | ⟨f0, z1, z2, q1, q2, ⟨i, i1, i2, i3⟩, q3, ⟨j, j1, j2, j3⟩, q4⟩
      · exact Or.inl ⟨f1, fun i hi l => hn i hi (nk i hi l)⟩
      · exact Or.inr ⟨f0, z1, z2, q1, q2, ⟨i, i1, by omega, i3⟩, fun i hi l => q3 i hi (nk i hi l), ⟨j, j1, by omega, j3⟩, fun i hi l => q4 i hi (nk i hi l)⟩
    | true =>
      obtain ⟨j, hj, ej⟩ := wdon_iff.mp hok
      have oj := wd_of h j
      rw [ej] at oj
      have e49 : (49:Int32) * nI v + nI k = nI (49 * v + k) := by rw [show (49:Int32) * nI v = nI (49 * v) from pk_mul 49 v, nI_add]
      have e49' : (49:Int32) * nI k + nI v = nI (49 * k + v) := by rw [show (49:Int32) * nI k = nI (49 * k) from pk_mul 49 k, nI_add]
      have hek : he k = iZ (wd_h w j) := by rw [← ej]; exact (hM.2 j hj).2
      have b2 := wd_h_le w j
      have b3 := dd_lt h hv c ov oj
      have b4 := dd_lt h c hv oj ov
      have nk : ∀ i, i < wd_p w → wdv w i < k + 1 → wdv w i < k ∨ i = j := fun i hi l => by
        by_cases ek : wdv w i = k
        · exact Or.inr (uq i j hi hj (by rw [ek, ej]))
        · exact Or.inl (by omega)
      rw [if_pos rfl, grd_t (gi_nI c (by decide)), e49, grd_t (gi_nI (by omega) (by decide)), grd_t (gi_nI c (by decide)), e49', grd_t (gi_nI (by omega) (by decide)), nI_clamp (show 49 * v + k < 2 ^ 31 by omega), nI_clamp (show 49 * k + v < 2 ^ 31 by omega), hf v k hv c ov oj, hf k v c hv oj ov, hek, iZ_nI (dd w v k), iZ_nI (dd w k v), iZ_sub, iZ_add, grd_t (gi_nI hv (by decide)), grd_t (gi_nI hv (by decide)), nI_clamp (show v < 2 ^ 31 by omega)]
      have gt : ∀ {α : Type} (k : Option α), grd (gi (nI v) 49) k = k := fun k => grd_t (gi_nI hv (by decide))
      -- both new values, whatever they are
      have fin : ∀ (a b : Int), (∃ i, i < wd_p w ∧ wdv w i < k + 1 ∧ a = wd_h w i - dd w v (wdv w i)) → (∀ i, i < wd_p w → wdv w i < k + 1 → wd_h w i - dd w v (wdv w i) ≤ a) → (∃ i, i < wd_p w ∧ wdv w i < k + 1 ∧ b = wd_h w i + dd w (wdv w i) v) → (∀ i, i < wd_p w → wdv w i < k + 1 → b ≤ wd_h w i + dd w (wdv w i) v) → ∃ m' s', m' < m ∧ M_bounds_j128 0 (nI k) (upd lo v (iZ a)) (upd hi v (iZ b)) = some (Sum.inl s') ∧ ∃ k', k' + m' = 49 ∧ s'.2.1 = nI k' ∧ (∀ x, x ≠ v → s'.2.2.1 x = glo x ∧ s'.2.2.2 x = ghi x) ∧ ((s'.1 = 1 ∧ ∀ i, i < wd_p w → ¬ wdv w i < k') ∨ (s'.1 = 0 ∧ ∃ z1 z2 : Int, s'.2.2.1 v = iZ z1 ∧ s'.2.2.2 v = iZ z2 ∧ (∃ i, i < wd_p w ∧ wdv w i < k' ∧ z1 = wd_h w i - dd w v (wdv w i)) ∧ (∀ i, i < wd_p w → wdv w i < k' → wd_h w i - dd w v (wdv w i) ≤ z1) ∧ (∃ i, i < wd_p w ∧ wdv w i < k' ∧ z2 = wd_h w i + dd w (wdv w i) v) ∧ (∀ i, i < wd_p w → wdv w i < k' → z2 ≤ wd_h w i + dd w (wdv w i) v))) := fun a b ha ha2 hb hb2 => by
        refine ⟨m - 1, (0, nI k + 1, upd lo v (iZ a), upd hi v (iZ b)), by omega, rfl, k + 1, by omega, nI_1 k, fun x hxv => ?_, Or.inr ⟨rfl, a, b, upd_eq _ _ _, upd_eq _ _ _, ha, ha2, hb, hb2⟩⟩
        dsimp only
        rw [upd_ne _ _ hxv, upd_ne _ _ hxv]
        exact hx x hxv
      have hjk : wdv w j < k + 1 := by omega
      unfold M_bounds_j82 M_bounds_j93 M_bounds_j114 M_bounds_j125
      simp only [gt, nI_clamp (show v < 2 ^ 31 by omega)]
      rcases hz with ⟨f1, hn⟩ | ⟨f0, z1, z2, q1, q2, ⟨i, i1, i2, i3⟩, q3, ⟨l, l1, l2, l3⟩, q4⟩
      · have f1n : ¬ f = 0 := by rw [f1]; decide
        simp only [if_neg f1n]
        refine fin _ _ ⟨j, hj, hjk, by rw [ej]⟩ (fun i hi l => ?_) ⟨j, hj, hjk, by rw [ej]⟩ (fun i hi l => ?_)
        · rcases nk i hi l with z | z
          · exact absurd z (hn i hi)
          · rw [z, ej]; exact Int.le_refl _
        · rcases nk i hi l with z | z
          · exact absurd z (hn i hi)
          · rw [z, ej]; exact Int.le_refl _
      · simp only [if_pos f0]
        have bi := wd_h_le w i
        have bl := wd_h_le w l
        have oi := wd_of h i
        have ol := wd_of h l
        have di := dd_lt h hv (wd_ok h i).1 ov oi
        have dl := dd_lt h (wd_ok h l).1 hv ol ov
        rw [q1, q2]
        have lo1 : (∃ i, i < wd_p w ∧ wdv w i < k + 1 ∧ z1 = wd_h w i - dd w v (wdv w i)) := ⟨i, i1, by omega, i3⟩
        have hi1 : (∃ i, i < wd_p w ∧ wdv w i < k + 1 ∧ z2 = wd_h w i + dd w (wdv w i) v) := ⟨l, l1, by omega, l3⟩
        have loJ : (∃ i, i < wd_p w ∧ wdv w i < k + 1 ∧ wd_h w j - dd w v k = wd_h w i - dd w v (wdv w i)) := ⟨j, hj, hjk, by rw [ej]⟩
        have hiJ : (∃ i, i < wd_p w ∧ wdv w i < k + 1 ∧ wd_h w j + dd w k v = wd_h w i + dd w (wdv w i) v) := ⟨j, hj, hjk, by rw [ej]⟩
        by_cases c1 : wd_h w j - dd w v k ≤ z1
        · rw [if_pos ((iZ_le (by unfold sm; omega) (by unfold sm; omega)).mpr c1)]
          have all1 : ∀ i, i < wd_p w → wdv w i < k + 1 → wd_h w i - dd w v (wdv w i) ≤ z1 := fun i hi l => by
            rcases nk i hi l with z | z
            · exact q3 i hi z
            · rw [z, ej]; exact c1
          by_cases c2 : z2 ≤ wd_h w j + dd w k v
          · rw [if_pos ((iZ_le (by unfold sm; omega) (by unfold sm; omega)).mpr c2)]
            refine fin z1 z2 lo1 all1 hi1 (fun i hi l => ?_)
            rcases nk i hi l with z | z
            · exact q4 i hi z
            · rw [z, ej]; exact c2
          · rw [if_neg (fun q => c2 ((iZ_le (by unfold sm; omega) (by unfold sm; omega)).mp q))]
            refine fin z1 _ lo1 all1 hiJ (fun i hi l => ?_)
            rcases nk i hi l with z | z
            · have := q4 i hi z; omega
            · rw [z, ej]; exact Int.le_refl _
        · rw [if_neg (fun q => c1 ((iZ_le (by unfold sm; omega) (by unfold sm; omega)).mp q))]
          have all1 : ∀ i, i < wd_p w → wdv w i < k + 1 → wd_h w i - dd w v (wdv w i) ≤ wd_h w j - dd w v k := fun i hi l => by
            rcases nk i hi l with z | z
            · have := q3 i hi z; omega
            · rw [z, ej]; exact Int.le_refl _
          by_cases c2 : z2 ≤ wd_h w j + dd w k v
          · rw [if_pos ((iZ_le (by unfold sm; omega) (by unfold sm; omega)).mpr c2)]
            refine fin _ z2 loJ all1 hi1 (fun i hi l => ?_)
            rcases nk i hi l with z | z
            · exact q4 i hi z
            · rw [z, ej]; exact c2
          · rw [if_neg (fun q => c2 ((iZ_le (by unfold sm; omega) (by unfold sm; omega)).mp q))]
            refine fin _ _ loJ all1 hiJ (fun i hi l => ?_)
            rcases nk i hi l with z | z
            · have := q4 i hi z; omega
            · rw [z, ej]; exact Int.le_refl _
theorem allB_eq {w : Int64} (h : smp w = true) {st he ow fa : Nat → Int32} (hM : wd_M w st he ow) (hf : tl_far w fa) (glo ghi : Nat → Int32) : ∃ lo hi, wh (M_isTilable_s52 w he ow fa) FU ((0:Int32), glo, ghi) = some (lo, hi) ∧ ∀ v, v < 49 → tg_of (fr w) v = true → lo v = iZ (loZ w v) ∧ hi v = iZ (hiZ w v) := by
  have := wh_tot (st := M_isTilable_s52 w he ow fa) (B := fun r => ∀ v, v < 49 → tg_of (fr w) v = true → r.1 v = iZ (loZ w v) ∧ r.2 v = iZ (hiZ w v))
    (fun m s => ∃ k, k + m = 49 ∧ s.1 = nI k ∧ ∀ v, v < k → tg_of (fr w) v = true → s.2.1 v = iZ (loZ w v) ∧ s.2.2 v = iZ (hiZ w v)) ?_ FU 49 ((0:Int32), glo, ghi) (by have := FU_big; omega) ⟨0, rfl, rfl, fun v c => absurd c (Nat.not_lt_zero _)⟩
  · obtain ⟨⟨lo, hi⟩, e, hv⟩ := this
    exact ⟨lo, hi, e, hv⟩
  · rintro m ⟨y, lo, hi⟩ ⟨k, hk, e1, h1⟩
    dsimp only at e1 h1
    subst e1
    unfold M_isTilable_s52 M_isTilable_j71
    dsimp only
    rcases Nat.lt_or_ge k 49 with c | c
    · right
      rw [if_neg (show ¬ (49 : Int32) ≤ nI k from nI_ge (a := k) (b := 49) c (by decide)), isOf_eq c, bI_if, nI_1]
      cases ok : tg_of (fr w) k with
      | false =>
        refine ⟨m - 1, (nI (k + 1), lo, hi), by omega, rfl, k + 1, by omega, rfl, fun v hv ov => ?_⟩
        by_cases e : v = k
        · rw [e, ok] at ov; cases ov
        · exact h1 v (by omega) ov
      | true =>
        obtain ⟨lo', hi', z1, z2, z3, z4⟩ := bounds_eq h hM hf c ok lo hi
        rw [if_pos rfl, z1, wbind rfl]
        refine ⟨m - 1, (nI (k + 1), lo', hi'), by omega, rfl, k + 1, by omega, rfl, fun v hv ov => ?_⟩
        by_cases e : v = k
        · subst e; exact ⟨z2, z3⟩
        · obtain ⟨y1, y2⟩ := z4 v e
          dsimp only
          rw [y1, y2]
          exact h1 v (by omega) ov
    · left
      have : k = 49 := by omega
      subst this
      rw [if_pos (by decide)]
      exact ⟨_, rfl, h1⟩
/-- what isTilable leaves -/
def TM (w : Int64) (le su : Int32) (st he ow lo hi : Nat → Int32) : Prop := (smp w = true → le = nI (wd_p w) ∧ su = iZ (wd_h w (wd_p w)) ∧ wd_M w st he ow) ∧ (til w = true → ∀ v, v < 49 → tg_of (fr w) v = true → lo v = iZ (loZ w v) ∧ hi v = iZ (hiZ w v))
theorem isTilable_eq (w : Int64) (gle gsu : Int32) (gma gpi gst ghe gow gfa gqu glo ghi : Nat → Int32) : ∃ le su ma pi st he ow fa qu lo hi, M_isTilable w gle gsu gma gpi gst ghe gow gfa gqu glo ghi = some (bI (til w), le, su, ma, pi, st, he, ow, fa, qu, lo, hi) ∧ TM w le su st he ow lo hi := by
  unfold M_isTilable
  obtain ⟨ma, pi, e1⟩ := M_isSimple_eq w gma gpi
  rw [e1, wbind rfl]
  dsimp only
  cases hs : smp w with
  | false =>
    have ht : til w = false := til_f (fun q => by have := q.1; rw [hs] at this; cases this)
    rw [if_pos (show bI false = 0 from rfl), ht]
    exact ⟨gle, gsu, ma, pi, gst, ghe, gow, gfa, gqu, glo, ghi, rfl, fun q => by (rw [hs] at q; cases q), fun q => by (rw [ht] at q; cases q)⟩
  | true =>
    rw [if_neg (show ¬ bI true = 0 by decide)]
    obtain ⟨st, he, ow, e2, hM⟩ := writesWord_eq hs gst ghe gow
    rw [e2, wbind rfl]
    dsimp only
    by_cases h0 : wd_h w (wd_p w) = 0
    · rw [h0, if_pos (show iZ 0 = 0 from rfl)]
      obtain ⟨fa, qu, e3, hf⟩ := tl_all hs gfa gqu
      rw [e3, wbind rfl]
      dsimp only
      rw [isLower_eq hs h0 hM hf, wbind rfl, bI_if]
      cases ht : til w with
      | false =>
        exact ⟨_, _, ma, pi, st, he, ow, fa, qu, glo, ghi, rfl, fun _ => ⟨rfl, by rw [h0], hM⟩, fun q => by (rw [ht] at q; cases q)⟩
      | true =>
        obtain ⟨lo, hi, e4, hb⟩ := allB_eq hs hM hf glo ghi
        rw [if_pos rfl, e4, wbind rfl]
        exact ⟨_, _, ma, pi, st, he, ow, fa, qu, lo, hi, rfl, fun _ => ⟨rfl, by rw [h0], hM⟩, fun _ => hb⟩
    · have ht : til w = false := til_f (fun q => h0 q.2.1)
      have hb := wd_h_le w (wd_p w)
      have hp := (wd_pP hs).2.1
      rw [if_neg (fun q => h0 ((iZ_eq (by unfold sm; omega) (by unfold sm; omega)).mp (q.trans (show (0:Int32) = iZ 0 from rfl)))), ht]
      exact ⟨_, _, ma, pi, st, he, ow, gfa, gqu, glo, ghi, rfl, fun _ => ⟨rfl, rfl, hM⟩, fun q => by (rw [ht] at q; cases q)⟩
