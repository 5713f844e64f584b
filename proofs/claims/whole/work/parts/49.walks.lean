/-! the WALK: walk, walked, winds -/
theorem nxN_tbl : ∀ v, v < 49 → ∀ w, w < 4 → nxN v w = if tg_vd v w then ((tg_nx v w : Nat) : Int) else -1 := by decide +kernel
theorem IP_get {ps pl : Int32} {pw ms : Nat → Int32} (h : IP ps pl pw ms) : ∃ (l : Nat) (vs ws : Nat → Nat), l ≤ 40 ∧ vs 0 < 49 ∧ ps = nI (vs 0) ∧ ms 1 = nI (vs 0) ∧ pl = nI l ∧ ms 2 = nI l ∧ (∀ i, i < l → ws i < 4 ∧ tg_vd (vs i) (ws i) = true ∧ vs (i + 1) = tg_nx (vs i) (ws i) ∧ pw i = nI (ws i) ∧ ms (42 + i) = nI (ws i)) ∧ ∀ i, i ≤ l → vs i < 49 := by
  obtain ⟨l, vs, ws, h1, h2, h3, h4, h5, h6, h7⟩ := h
  have b : ∀ i, i ≤ l → vs i < 49 := fun i hi => by
    cases i with
    | zero => exact h2
    | succ i => exact (h7 i (by omega)).2.1
  refine ⟨l, vs, ws, h1, h2, h3, h4, h5, h6, fun i hi => ?_, b⟩
  obtain ⟨k1, k2, k3, k4, k5⟩ := h7 i hi
  have t := nxN_tbl (vs i) (b i (by omega)) (ws i) k1
  rw [k3] at t
  cases hd : tg_vd (vs i) (ws i) with
  | true =>
    rw [hd, if_pos rfl] at t
    exact ⟨k1, rfl, by omega, k4, k5⟩
  | false =>
    rw [hd, if_neg (by decide)] at t
    omega
theorem nxt_eq {v w : Nat} (hv : v < 49) (hw : w < 4) (hd : tg_vd v w = true) : G_next (nI v) (nI w) = nI (tg_nx v w) ∧ M_onBy (nI v) (nI w) = nI (tg_nx v w) := by
  obtain ⟨a, b, _⟩ := st_tbl3 v hv w hw
  rw [a, b, hd]
  exact ⟨rfl, rfl⟩
theorem s2_0 (ms : Nat → Int32) : ms (2:Int32).toNatClampNeg = ms 2 := rfl
theorem s1_0 (ms : Nat → Int32) : ms (1:Int32).toNatClampNeg = ms 1 := rfl
theorem s42 (ms : Nat → Int32) {k : Nat} (hk : k < 40) : gi ((42:Int32) + nI k) 122 = true ∧ ms ((42:Int32) + nI k).toNatClampNeg = ms (42 + k) := by
  rw [show (42:Int32) + nI k = nI (42 + k) from nI_add 42 k, nI_clamp (by omega)]
  exact ⟨gi_nI (by omega) (by decide), rfl⟩
section WALK
variable {ps pl : Int32} {pw ms : Nat → Int32} {l : Nat} {vs ws : Nat → Nat}
theorem ends_eq (h1 : l ≤ 40) (h3 : ps = nI (vs 0)) (h4 : ms 1 = nI (vs 0)) (h5 : pl = nI l) (h6 : ms 2 = nI l) (h7 : ∀ i, i < l → ws i < 4 ∧ tg_vd (vs i) (ws i) = true ∧ vs (i + 1) = tg_nx (vs i) (ws i) ∧ pw i = nI (ws i) ∧ ms (42 + i) = nI (ws i)) (hb : ∀ i, i ≤ l → vs i < 49) : P_ends ps pl pw = some (nI (vs l)) ∧ M_ends ms = some (nI (vs l)) := by
  constructor
  · unfold P_ends
    have := wh_for (st := P_ends_s7 pl pw) (r := nI (vs l)) (fun k => (nI (vs k), nI k)) l (fun k hk => by
        obtain ⟨k1, k2, k3, k4, k5⟩ := h7 k hk
        unfold P_ends_s7
        dsimp only
        rw [h5, if_neg (nI_ge hk (by omega)), if_neg (show ¬ (40 : Int32) ≤ nI k from nI_ge (a := k) (b := 40) (by omega) (by decide)), grd_t (gi_nI (by omega) (by decide)), nI_clamp (by omega), k4, (nxt_eq (hb k (by omega)) k1 k2).1, k3, nI_1]) (by
        unfold P_ends_s7
        dsimp only
        rw [h5, if_pos (nI_le (Nat.le_refl _) (by omega))]) (by omega)
    rw [h3]
    exact wbind this
  · unfold M_ends
    rw [grd_t (by decide), s1_0 ms, h4]
    have := wh_for (st := M_ends_s9 ms) (r := nI (vs l)) (fun k => (nI (vs k), nI k)) l (fun k hk => by
        obtain ⟨k1, k2, k3, k4, k5⟩ := h7 k hk
        obtain ⟨g1, g2⟩ := s42 ms (k := k) (by omega)
        unfold M_ends_s9
        dsimp only
        rw [grd_t (by decide), s2_0 ms, h6, if_neg (nI_ge hk (by omega)), grd_t g1, g2, k5, (nxt_eq (hb k (by omega)) k1 k2).2, k3, nI_1]) (by
        unfold M_ends_s9
        dsimp only
        rw [grd_t (by decide), s2_0 ms, h6, if_pos (nI_le (Nat.le_refl _) (by omega))]) (by omega)
    exact wbind this
/-- heights of the steps -/
def riS (vs ws : Nat → Nat) : Nat → Int32
  | 0 => 0
  | k + 1 => riS vs ws k + sgI (tg_b (tg_lp (vs k) (ws k)))
theorem rise_w (h1 : l ≤ 40) (h3 : ps = nI (vs 0)) (h4 : ms 1 = nI (vs 0)) (h5 : pl = nI l) (h6 : ms 2 = nI l) (h7 : ∀ i, i < l → ws i < 4 ∧ tg_vd (vs i) (ws i) = true ∧ vs (i + 1) = tg_nx (vs i) (ws i) ∧ pw i = nI (ws i) ∧ ms (42 + i) = nI (ws i)) (hb : ∀ i, i ≤ l → vs i < 49) : P_rise ps pl pw = some (riS vs ws l) ∧ M_walkedHeight ms = some (riS vs ws l) := by
  constructor
  · unfold P_rise
    have := wh_for (st := P_rise_s9 pl pw) (r := riS vs ws l) (fun k => (riS vs ws k, nI (vs k), nI k)) l (fun k hk => by
        obtain ⟨k1, k2, k3, k4, k5⟩ := h7 k hk
        obtain ⟨t1, _, _, _⟩ := st_tbl (vs k) (hb k (by omega)) (ws k) k1
        unfold P_rise_s9
        dsimp only
        rw [h5, if_neg (nI_ge hk (by omega)), if_neg (show ¬ (40 : Int32) ≤ nI k from nI_ge (a := k) (b := 40) (by omega) (by decide)), grd_t (gi_nI (by omega) (by decide)), grd_t (gi_nI (by omega) (by decide)), nI_clamp (by omega), k4, (nxt_eq (hb k (by omega)) k1 k2).1, k3, nI_1, t1]
        rfl) (by
        unfold P_rise_s9
        dsimp only
        rw [h5, if_pos (nI_le (Nat.le_refl _) (by omega))]) (by omega)
    rw [h3]
    exact wbind this
  · unfold M_walkedHeight
    rw [grd_t (by decide), s1_0 ms, h4]
    have := wh_for (st := M_walkedHeight_s11 ms) (r := riS vs ws l) (fun k => (nI (vs k), riS vs ws k, nI k)) l (fun k hk => by
        obtain ⟨k1, k2, k3, k4, k5⟩ := h7 k hk
        obtain ⟨_, t1, _, _⟩ := st_tbl (vs k) (hb k (by omega)) (ws k) k1
        obtain ⟨g1, g2⟩ := s42 ms (k := k) (by omega)
        unfold M_walkedHeight_s11
        dsimp only
        rw [grd_t (by decide), s2_0 ms, h6, if_neg (nI_ge hk (by omega)), grd_t g1, grd_t g1, g2, k5, (nxt_eq (hb k (by omega)) k1 k2).2, k3, nI_1, t1]
        rfl) (by
        unfold M_walkedHeight_s11
        dsimp only
        rw [grd_t (by decide), s2_0 ms, h6, if_pos (nI_le (Nat.le_refl _) (by omega))]) (by omega)
    exact wbind this
/-- shortened: what is left, as a pile -/
def bk (a b : Nat) : Bool := decide (a = b + 2 ∨ b = a + 2)
def skP (ws : Nat → Nat) : Nat → Nat × (Nat → Nat)
  | 0 => (0, fun _ => 0)
  | k + 1 => if 0 < (skP ws k).1 ∧ bk ((skP ws k).2 ((skP ws k).1 - 1)) (ws k) = true then ((skP ws k).1 - 1, (skP ws k).2) else ((skP ws k).1 + 1, fun j => if j = (skP ws k).1 then ws k else (skP ws k).2 j)
theorem skP_ok : ∀ k, (∀ i, i < k → ws i < 4) → (skP ws k).1 ≤ k ∧ ∀ j, j < (skP ws k).1 → (skP ws k).2 j < 4
  | 0, _ => ⟨Nat.le_refl _, fun j hj => absurd hj (Nat.not_lt_zero _)⟩
  | k + 1, h => by
    obtain ⟨a, b⟩ := skP_ok k (fun i hi => h i (by omega))
    unfold skP
    by_cases c : 0 < (skP ws k).1 ∧ bk ((skP ws k).2 ((skP ws k).1 - 1)) (ws k) = true
    · rw [if_pos c]
      exact ⟨by dsimp only; omega, fun j hj => b j (by dsimp only at hj; omega)⟩
    · rw [if_neg c]
      refine ⟨by dsimp only; omega, fun j hj => ?_⟩
      dsimp only at hj ⊢
      by_cases e : j = (skP ws k).1
      · rw [if_pos e]; exact h k (by omega)
      · rw [if_neg e]; exact b j (by omega)
theorem bk_tbl : ∀ a, a < 4 → ∀ b, b < 4 → P_isBack (nI a) (nI b) = bI (bk a b) ∧ (if (nI a ^^^ nI b) = 2 then (1:Int32) else 0) = bI (bk a b) := by decide
theorem short_X (h1 : l ≤ 40) (h5 : pl = nI l) (hw : ∀ i, i < l → ws i < 4 ∧ pw i = nI (ws i)) (npr : Nat → Int32) : ∃ r, P_shortened pl pw npr = some (nI (skP ws l).1, r) := by
  unfold P_shortened
  have := wh_tot (st := P_shortened_s4 pl pw) (B := fun r => r.1 = nI (skP ws l).1)
    (fun m t => ∃ i, i + m = l ∧ t.1 = nI (skP ws i).1 ∧ t.2.1 = nI i ∧ ∀ j, j < (skP ws i).1 → t.2.2 j = nI ((skP ws i).2 j)) ?_ FU l ((0:Int32), (0:Int32), npr) (by have := FU_big; omega) ⟨0, by omega, rfl, rfl, fun j hj => absurd hj (Nat.not_lt_zero _)⟩
  · obtain ⟨⟨a, b⟩, e, h⟩ := this
    dsimp only at h
    subst h
    exact ⟨b, wbind e⟩
  rintro m ⟨y, z, r⟩ ⟨i, hm, e1, e2, h⟩
  dsimp only at e1 e2 h
  subst e1 e2
  unfold P_shortened_s4
  dsimp only
  by_cases c : i < l
  · right
    obtain ⟨w4', pwi⟩ := hw i c
    obtain ⟨kle, kb⟩ := skP_ok (ws := ws) i (fun j hj => (hw j (by omega)).1)
    have push : ¬ (0 < (skP ws i).1 ∧ bk ((skP ws i).2 ((skP ws i).1 - 1)) (ws i) = true) → ∃ m' s', m' < m ∧ P_shortened_j54 (nI (skP ws i).1) (nI i) r pw = some (Sum.inl s') ∧ ∃ i', i' + m' = l ∧ s'.1 = nI (skP ws i').1 ∧ s'.2.1 = nI i' ∧ ∀ j, j < (skP ws i').1 → s'.2.2 j = nI ((skP ws i').2 j) := fun hc => by
      have es : skP ws (i + 1) = ((skP ws i).1 + 1, fun j => if j = (skP ws i).1 then ws i else (skP ws i).2 j) := by
        show (if _ then _ else _) = _
        rw [if_neg hc]
      unfold P_shortened_j54 P_shortened_j75
      rw [if_neg (show ¬ (40 : Int32) ≤ nI (skP ws i).1 from nI_ge (a := (skP ws i).1) (b := 40) (by omega) (by decide)), grd_t (gi_nI (by omega) (by decide)), grd_t (gi_nI (by omega) (by decide)), nI_clamp (by omega), nI_clamp (by omega), pwi, nI_1, nI_1]
      refine ⟨m - 1, _, by omega, rfl, i + 1, by omega, by rw [es], rfl, fun j hj => ?_⟩
      rw [es] at hj ⊢
      dsimp only at hj ⊢
      rw [upd_at]
      by_cases e : j = (skP ws i).1
      · rw [if_pos e, if_pos e]
      · rw [if_neg e, if_neg e]; exact h j (by omega)
    rw [h5, if_neg (nI_ge c (by omega)), if_neg (show ¬ (40 : Int32) ≤ nI i from nI_ge (a := i) (b := 40) (by omega) (by decide))]
    by_cases k0 : (skP ws i).1 = 0
    · rw [k0, if_pos (show nI 0 ≤ 0 by decide)]
      have := push (by omega)
      rw [k0] at this
      exact this
    · have em : nI (skP ws i).1 - 1 = nI ((skP ws i).1 - 1) := by
        have : nI ((skP ws i).1 - 1) + 1 = nI (skP ws i).1 := by rw [nI_1, show (skP ws i).1 - 1 + 1 = (skP ws i).1 by omega]
        rw [← this]; exact Int32.add_sub_cancel _ _
      have em2 : nI (skP ws i).1 + (-1) = nI ((skP ws i).1 - 1) := by rw [← em, Int32.sub_eq_add_neg]
      rw [if_neg (show ¬ nI (skP ws i).1 ≤ 0 from nI_ge (a := 0) (b := (skP ws i).1) (by omega) (by omega)), if_neg (show ¬ (40 : Int32) < nI (skP ws i).1 from Int32.not_lt.mpr (show nI (skP ws i).1 ≤ nI 40 from nI_le (by omega) (by decide))), em, em2, grd_t (gi_nI (by omega) (by decide)), grd_t (gi_nI (by omega) (by decide)), nI_clamp (by omega), nI_clamp (by omega)]
      simp only [h _ (show (skP ws i).1 - 1 < (skP ws i).1 by omega), pwi]
      rw [(bk_tbl _ (kb _ (by omega)) _ w4').1, bI_if]
      by_cases cb : bk ((skP ws i).2 ((skP ws i).1 - 1)) (ws i) = true
      · have es : skP ws (i + 1) = ((skP ws i).1 - 1, (skP ws i).2) := by
          show (if _ then _ else _) = _
          rw [if_pos ⟨by omega, cb⟩]
        rw [if_pos cb]
        unfold P_shortened_j75
        rw [nI_1]
        refine ⟨m - 1, _, by omega, rfl, i + 1, by omega, by rw [es], rfl, fun j hj => ?_⟩
        rw [es] at hj ⊢
        exact h j (by dsimp only at hj; omega)
      · rw [if_neg cb]
        exact push (fun q => cb q.2)
  · left
    have : i = l := by omega
    subst this
    rw [h5, if_pos (nI_le (Nat.le_refl _) (by omega))]
    exact ⟨_, rfl, rfl⟩
theorem short_M (h1 : l ≤ 40) (h6 : ms 2 = nI l) (hw : ∀ i, i < l → ws i < 4 ∧ ms (42 + i) = nI (ws i)) (gpi : Nat → Int32) : ∃ r, M_shortened ms gpi = some (nI (skP ws l).1, r) := by
  unfold M_shortened
  have := wh_tot (st := M_shortened_s4 ms) (B := fun r => r.1 = nI (skP ws l).1)
    (fun m t => ∃ i, i + m = l ∧ t.1 = nI (skP ws i).1 ∧ t.2.1 = nI i ∧ ∀ j, j < (skP ws i).1 → t.2.2 j = nI ((skP ws i).2 j)) ?_ FU l ((0:Int32), (0:Int32), gpi) (by have := FU_big; omega) ⟨0, by omega, rfl, rfl, fun j hj => absurd hj (Nat.not_lt_zero _)⟩
  · obtain ⟨⟨a, b⟩, e, h⟩ := this
    dsimp only at h
    subst h
    exact ⟨b, wbind e⟩
  rintro m ⟨y, z, r⟩ ⟨i, hm, e1, e2, h⟩
  dsimp only at e1 e2 h
  subst e1 e2
  unfold M_shortened_s4
  dsimp only
  rw [grd_t (by decide), s2_0 ms, h6]
  by_cases c : i < l
  · right
    obtain ⟨w4', pwi⟩ := hw i c
    obtain ⟨g1, g2⟩ := s42 ms (k := i) (by omega)
    obtain ⟨kle, kb⟩ := skP_ok (ws := ws) i (fun j hj => (hw j (by omega)).1)
    have push : ¬ (0 < (skP ws i).1 ∧ bk ((skP ws i).2 ((skP ws i).1 - 1)) (ws i) = true) → ∃ m' s', m' < m ∧ M_shortened_j46 (nI (skP ws i).1) (nI i) r ms = some (Sum.inl s') ∧ ∃ i', i' + m' = l ∧ s'.1 = nI (skP ws i').1 ∧ s'.2.1 = nI i' ∧ ∀ j, j < (skP ws i').1 → s'.2.2 j = nI ((skP ws i').2 j) := fun hc => by
      have es : skP ws (i + 1) = ((skP ws i).1 + 1, fun j => if j = (skP ws i).1 then ws i else (skP ws i).2 j) := by
        show (if _ then _ else _) = _
        rw [if_neg hc]
      unfold M_shortened_j46 M_shortened_j64
      rw [grd_t g1, g2, grd_t (gi_nI (by omega) (by decide)), nI_clamp (by omega), pwi, nI_1, nI_1]
      refine ⟨m - 1, _, by omega, rfl, i + 1, by omega, by rw [es], rfl, fun j hj => ?_⟩
      rw [es] at hj ⊢
      dsimp only at hj ⊢
      rw [upd_at]
      by_cases e : j = (skP ws i).1
      · rw [if_pos e, if_pos e]
      · rw [if_neg e, if_neg e]; exact h j (by omega)
    rw [if_neg (nI_ge c (by omega))]
    by_cases k0 : (skP ws i).1 = 0
    · rw [k0, if_pos (show nI 0 ≤ 0 by decide)]
      have := push (by omega)
      rw [k0] at this
      exact this
    · have em : nI (skP ws i).1 - 1 = nI ((skP ws i).1 - 1) := by
        have : nI ((skP ws i).1 - 1) + 1 = nI (skP ws i).1 := by rw [nI_1, show (skP ws i).1 - 1 + 1 = (skP ws i).1 by omega]
        rw [← this]; exact Int32.add_sub_cancel _ _
      have em2 : nI (skP ws i).1 + (-1) = nI ((skP ws i).1 - 1) := by rw [← em, Int32.sub_eq_add_neg]
      have tb := (bk_tbl _ (kb ((skP ws i).1 - 1) (by omega)) _ w4').2
      rw [if_neg (show ¬ nI (skP ws i).1 ≤ 0 from nI_ge (a := 0) (b := (skP ws i).1) (by omega) (by omega)), em, em2, grd_t (gi_nI (by omega) (by decide)), grd_t g1, g2, nI_clamp (by omega)]
      simp only [h _ (show (skP ws i).1 - 1 < (skP ws i).1 by omega), pwi]
      by_cases cb : bk ((skP ws i).2 ((skP ws i).1 - 1)) (ws i) = true
      · have es : skP ws (i + 1) = ((skP ws i).1 - 1, (skP ws i).2) := by
          show (if _ then _ else _) = _
          rw [if_pos ⟨by omega, cb⟩]
        have hx : nI ((skP ws i).2 ((skP ws i).1 - 1)) ^^^ nI (ws i) = 2 := by
          rw [cb] at tb
          by_cases q : nI ((skP ws i).2 ((skP ws i).1 - 1)) ^^^ nI (ws i) = 2
          · exact q
          · rw [if_neg q] at tb; exact absurd tb (by decide)
        rw [if_pos hx]
        unfold M_shortened_j64
        rw [nI_1]
        refine ⟨m - 1, _, by omega, rfl, i + 1, by omega, by rw [es], rfl, fun j hj => ?_⟩
        rw [es] at hj ⊢
        exact h j (by dsimp only at hj; omega)
      · have hx : ¬ nI ((skP ws i).2 ((skP ws i).1 - 1)) ^^^ nI (ws i) = 2 := fun q => by
          rw [if_pos q] at tb
          cases hh : bk ((skP ws i).2 ((skP ws i).1 - 1)) (ws i) with
          | true => exact cb hh
          | false => rw [hh] at tb; exact absurd tb (by decide)
        rw [if_neg hx]
        exact push (fun q => cb q.2)
  · left
    have : i = l := by omega
    subst this
    rw [if_pos (nI_le (Nat.le_refl _) (by omega))]
    exact ⟨_, rfl, rfl⟩
end WALK
section WALK2
variable {rg mrg : Int64} {ld ps pl ss es gs : Int32} {mt pw so sq eo eq go gq ms : Nat → Int32}
theorem nI_ne {a b : Nat} (ha : a < 2 ^ 31) (hb : b < 2 ^ 31) : (nI a = nI b) ↔ a = b := nI_eq ha hb
theorem p_walk (a : Int32) (h : St rg ld mt ps pl pw ss so sq es eo eq gs go gq mrg ms) : ∃ q, X_walk a ps pl pw = some q ∧ ∃ q', M_walk a ms = some q' ∧ q'.1 = q.1 ∧ St rg ld mt ps q.2.1 q.2.2 ss so sq es eo eq gs go gq mrg q'.2 := by
  obtain ⟨l, vs, ws, h1, h2, h3, h4, h5, h6, h7, hb⟩ := IP_get h.2.2.1
  unfold X_walk M_walk
  rcases triv a (n := 3) (by decide) with ⟨y1, y3⟩ | ⟨y4, y7, y1, y5⟩ | ⟨k, hk, ek, y7⟩
  · rw [if_pos y1, show M_isIn a 0 3 = 0 from y3, if_pos rfl]
    exact ⟨_, rfl, _, rfl, rfl, h⟩
  · rw [if_neg y1, if_neg (show ¬ a ≤ 3 from Int32.not_le.mpr y4), show M_isIn a 0 3 = 0 from y7, if_pos rfl]
    exact ⟨_, rfl, _, rfl, rfl, h⟩
  subst ek
  obtain ⟨e1, e2⟩ := ends_eq h1 h3 h4 h5 h6 h7 hb
  have hl := hb l (Nat.le_refl _)
  obtain ⟨t1, t2, _⟩ := st_tbl3 (vs l) hl k (by omega)
  rw [if_neg (nI_pos (by omega)), if_pos (show nI k ≤ (3:Int32) from nI_le (b := 3) hk (by decide)), show M_isIn (nI k) 0 3 = 1 from y7, if_neg (show ¬ (1:Int32) = 0 by decide), e1, wbind rfl, e2, wbind rfl, t1, t2]
  cases hd : tg_vd (vs l) k with
  | false =>
    rw [if_neg (show ¬ (0:Int32) ≤ oI false (tg_nx (vs l) k) from (show ¬ (0:Int32) ≤ -1 by decide)), if_pos (show oI false (tg_nx (vs l) k) = -1 from rfl)]
    exact ⟨_, rfl, _, rfl, rfl, h⟩
  | true =>
    have hy := tg_vd_lt hl (show k < 4 by omega) hd
    rw [if_pos (show (0:Int32) ≤ oI true (tg_nx (vs l) k) from nI_le (a := 0) (Nat.zero_le _) (by omega)), if_neg (show ¬ oI true (tg_nx (vs l) k) = -1 from nI_ne_m1 _ (by omega)), grd_t (by decide), s2_0 ms, h6, h5]
    unfold P_append P_append_j16
    rw [if_neg (nI_pos (by omega))]
    by_cases c : l = 40
    · subst c
      rw [if_neg (show ¬ nI 40 < 40 by decide), if_pos (show nI 40 = 40 from rfl), wbind rfl]
      dsimp only
      rw [if_pos rfl]
      refine ⟨_, rfl, _, rfl, rfl, ?_⟩
      rw [h5] at h
      exact h
    · have hl40 : l < 40 := by omega
      obtain ⟨g1, g2⟩ := s42 ms (k := l) hl40
      have ne40 : ¬ nI l = 40 := fun q => c ((nI_eq (by omega) (by omega)).mp (q.trans (show (40:Int32) = nI 40 from rfl)))
      have cl : ((42:Int32) + nI l).toNatClampNeg = 42 + l := by rw [show (42:Int32) + nI l = nI (42 + l) from nI_add 42 l, nI_clamp (by omega)]
      have g22 : ∀ {α : Type} (q : Option α), grd (gi (2:Int32) 122) q = q := fun q => grd_t (by decide)
      rw [if_pos (show nI l < (40:Int32) from nI_lt (b := 40) hl40 (by decide)), if_neg ne40, grd_t (gi_nI hl40 (by decide)), wbind rfl]
      simp only [g22]
      rw [grd_t g1, cl, nI_clamp (by omega), show (2:Int32).toNatClampNeg = 2 from rfl]
      rw [if_neg (show ¬ (1:Int32) = 0 by decide), upd_ne _ _ (show (2:Nat) ≠ 42 + l by omega), h6, nI_1, upd_eq]
      refine ⟨_, rfl, _, rfl, rfl, ?_⟩
      show St rg ld mt ps (nI (l + 1)) (upd pw l (nI k)) ss so sq es eo eq gs go gq mrg (upd (upd ms (42 + l) (nI k)) 2 (nI (l + 1)))
      refine St_path h ⟨l + 1, fun i => if i = l + 1 then tg_nx (vs l) k else vs i, fun i => if i = l then k else ws i, by omega, ?_, ?_, ?_, rfl, upd_eq _ _ _, fun i hi => ?_⟩ (fun j j1 j2 j3 => ?_)
      · show (if 0 = l + 1 then _ else vs 0) < 49
        rw [if_neg (by omega)]; exact h2
      · show ps = nI (if 0 = l + 1 then _ else vs 0)
        rw [if_neg (by omega)]; exact h3
      · show upd _ 2 _ 1 = nI (if 0 = l + 1 then _ else vs 0)
        rw [if_neg (by omega), upd_ne _ _ (by decide), upd_ne _ _ (by omega)]; exact h4
      · dsimp only
        by_cases e : i = l
        · subst e
          have t := nxN_tbl (vs i) hl k (by omega)
          rw [hd, if_pos rfl] at t
          rw [if_pos (show i = i from rfl), if_pos (show i + 1 = i + 1 from rfl), if_neg (show ¬ i = i + 1 by omega), upd_eq, upd_ne _ _ (by omega), upd_eq]
          exact ⟨by omega, hy, t, rfl, rfl⟩
        · obtain ⟨k1, k2, k3, k4, k5⟩ := h7 i (by omega)
          have t := nxN_tbl (vs i) (hb i (by omega)) (ws i) k1
          rw [k2, if_pos rfl, ← k3] at t
          rw [if_neg e, if_neg (by omega), if_neg (by omega), upd_ne _ _ e, upd_ne _ _ (by omega), upd_ne _ _ (by omega)]
          exact ⟨k1, hb _ (by omega), t, k4, k5⟩
      · rw [upd_ne _ _ j2, upd_ne _ _ (by omega)]
theorem p_walked (a : Int32) (h : St rg ld mt ps pl pw ss so sq es eo eq gs go gq mrg ms) (npr gpi : Nat → Int32) : ∃ q, X_walked a ps pl pw npr = some q ∧ ∃ q', M_walked a ms gpi = some q' ∧ q'.1 = q.1 := by
  obtain ⟨l, vs, ws, h1, h2, h3, h4, h5, h6, h7, hb⟩ := IP_get h.2.2.1
  obtain ⟨e1, e2⟩ := ends_eq h1 h3 h4 h5 h6 h7 hb
  unfold X_walked M_walked P_isClosed
  rw [s1_0 ms, s2_0 ms, h4, h6]
  by_cases c0 : a = 0
  · rw [if_pos c0, if_pos c0, grd_t (by decide)]
    exact ⟨_, rfl, _, rfl, h5.symm⟩
  rw [if_neg c0, if_neg c0]
  by_cases c1 : a = 1
  · rw [if_pos c1, if_pos c1, grd_t (by decide)]
    exact ⟨_, rfl, _, rfl, h3.symm⟩
  rw [if_neg c1, if_neg c1]
  by_cases c2 : a = 2
  · rw [if_pos c2, if_pos c2, e1, e2]
    exact ⟨_, rfl, _, rfl, rfl⟩
  rw [if_neg c2, if_neg c2]
  by_cases c3 : a = 3
  · rw [if_pos c3, if_pos c3, e1, e2, wbind rfl, wbind rfl, wbind rfl, grd_t (by decide)]
    refine ⟨_, rfl, _, rfl, ?_⟩
    dsimp only
    rw [h3]
    by_cases q : nI (vs l) = nI (vs 0)
    · rw [if_pos q]; rfl
    · rw [if_neg q]; rfl
  rw [if_neg c3, if_neg c3]
  by_cases c4 : a = 4
  · rw [if_pos c4, if_pos c4]
    obtain ⟨r1, s1⟩ := short_X h1 h5 (fun i hi => ⟨(h7 i hi).1, (h7 i hi).2.2.2.1⟩) npr
    obtain ⟨r2, s2⟩ := short_M h1 h6 (fun i hi => ⟨(h7 i hi).1, (h7 i hi).2.2.2.2⟩) gpi
    rw [s1, s2]
    exact ⟨_, rfl, _, rfl, rfl⟩
  rw [if_neg c4, if_neg c4]
  by_cases c5 : a = 5
  · obtain ⟨r1, r2⟩ := rise_w h1 h3 h4 h5 h6 h7 hb
    rw [if_pos c5, if_pos c5, r1, r2]
    exact ⟨_, rfl, _, rfl, rfl⟩
  · rw [if_neg c5, if_neg c5]
    exact ⟨_, rfl, _, rfl, rfl⟩
/-- the turns round a cell -/
def trS (c : Nat) (vs ws : Nat → Nat) : Nat → Int32
  | 0 => 0
  | k + 1 => trS c vs ws k + (if ws k = 1 ∧ vs k / 7 = c / 6 ∧ c % 6 < vs k % 7 then 1 else if ws k = 3 ∧ vs (k + 1) / 7 = c / 6 ∧ c % 6 < vs k % 7 then -1 else 0)
theorem div7 {k : Nat} (hk : k < 49) : nI k / (7:Int32) = nI (k / 7) := pk_div (by omega) (by decide) (by decide)
theorem mod7 {k : Nat} (hk : k < 49) : nI k - nI k / (7:Int32) * (7:Int32) = nI (k % 7) := pk_rem (by omega) (by decide) (by decide)
theorem nIeqI {a b : Nat} (ha : a < 2 ^ 31) (hb : b < 2 ^ 31) {α : Type} (x y : α) : (if nI a = nI b then x else y) = if a = b then x else y := by
  by_cases c : a = b
  · rw [if_pos c, if_pos (by rw [c])]
  · rw [if_neg c, if_neg (fun q => c ((nI_eq ha hb).mp q))]
theorem nIleI {a b : Nat} (ha : a < 2 ^ 31) (hb : b < 2 ^ 31) {α : Type} (x y : α) : (if nI a ≤ nI b then x else y) = if a ≤ b then x else y := by
  by_cases c : a ≤ b
  · rw [if_pos c, if_pos (nI_le c hb)]
  · rw [if_neg c, if_neg (nI_ge (by omega) ha)]
theorem p_winds (a : Int32) (h : St rg ld mt ps pl pw ss so sq es eo eq gs go gq mrg ms) : ∃ q, X_winds a ps pl pw = some q ∧ M_winds a ms = some q := by
  obtain ⟨l, vs, ws, h1, h2, h3, h4, h5, h6, h7, hb⟩ := IP_get h.2.2.1
  obtain ⟨e1, e2⟩ := ends_eq h1 h3 h4 h5 h6 h7 hb
  unfold X_winds M_winds P_isClosed
  rcases cellc a with ⟨a1, a2⟩ | ⟨c, hc, ea, a1, a2⟩
  · rw [a1, a2, if_pos rfl, if_pos rfl]
    exact ⟨_, rfl, rfl⟩
  subst ea
  have g1' : ∀ {α : Type} (q : Option α), grd (gi (1:Int32) 122) q = q := fun q => grd_t (by decide)
  rw [a1, a2, if_neg (show ¬ (1:Int32) = 0 by decide), if_neg (show ¬ (1:Int32) = 0 by decide), e1, e2, wbind rfl, wbind rfl, wbind rfl]
  simp only [g1']
  rw [s1_0 ms, h4, h3]
  by_cases q : nI (vs l) = nI (vs 0)
  rotate_left
  · rw [if_neg q, if_neg q, if_pos rfl]
    exact ⟨_, rfl, rfl⟩
  rw [if_pos q, if_pos q, if_neg (show ¬ (1:Int32) = 0 by decide)]
  have w1 : P_turnsRound (nI c) (nI (vs 0)) pl pw = some (trS c vs ws l) := by
    unfold P_turnsRound
    have := wh_for (st := P_turnsRound_s10 (nI c) pl pw) (r := trS c vs ws l) (fun k => (trS c vs ws k, nI (vs k), nI k)) l (fun k hk => by
        obtain ⟨k1, k2, k3, k4, k5⟩ := h7 k hk
        have hv := hb k (by omega)
        have hv1 := hb (k + 1) (by omega)
        have en := (nxt_eq hv k1 k2).1
        rw [← k3] at en
        unfold P_turnsRound_s10 P_turnsRound_j97 P_turnsRound_j116
        dsimp only
        rw [h5, if_neg (nI_ge hk (by omega)), if_neg (show ¬ (40 : Int32) ≤ nI k from nI_ge (a := k) (b := 40) (by omega) (by decide)), grd_t (gi_nI (by omega) (by decide)), grd_t (gi_nI (by omega) (by decide)), nI_clamp (by omega), k4, en, nI_1]
        have gk : ∀ {α : Type} (q : Option α), grd (gi (nI k) 40) q = q := fun q => grd_t (gi_nI (by omega) (by decide))
        simp only [gk]
        -- the lesser of both vertices
        have mn : J_Math_min (nI (vs k)) (nI (vs (k + 1))) = nI (min (vs k) (vs (k + 1))) := by
          unfold J_Math_min
          by_cases z : vs (k + 1) < vs k
          · rw [if_pos (nI_lt z (by omega)), Nat.min_eq_right (by omega)]
          · rw [if_neg (nI_nlt (by omega) (by omega)), Nat.min_eq_left (by omega)]
        have m49 : min (vs k) (vs (k + 1)) < 49 := by omega
        have n01 : ¬ nI 0 = 1 := by decide
        have n03 : ¬ nI 0 = 3 := by decide
        have n13 : ¬ nI 1 = 3 := by decide
        have n21 : ¬ nI 2 = 1 := by decide
        have n23 : ¬ nI 2 = 3 := by decide
        have n31 : ¬ nI 3 = 1 := by decide
        have p11 : nI 1 = 1 := rfl
        have p33 : nI 3 = 3 := rfl
        have i10 : ¬ (1:Int32) = 0 := by decide
        simp only [mn]
        simp only [mod7 m49, mod6 hc]
        simp only [div7 m49, div6 hc, nIeqI (show min (vs k) (vs (k + 1)) / 7 < 2 ^ 31 by omega) (show c / 6 < 2 ^ 31 by omega), nIleI (show min (vs k) (vs (k + 1)) % 7 < 2 ^ 31 by omega) (show c % 6 < 2 ^ 31 by omega)]
        rcases w4 k1 with z | z | z | z
        · have ht : trS c vs ws (k + 1) = trS c vs ws k := by
            show trS c vs ws k + (if _ then _ else _) = _
            rw [if_neg (by omega), if_neg (by omega), Int32.add_zero]
          rw [ht, z]
          simp only [if_neg n01, if_neg n03, ite_self]
        · have ev : vs (k + 1) = vs k + 7 := by rw [k3, z]; rfl
          have eq : min (vs k) (vs (k + 1)) = vs k := Nat.min_eq_left (by omega)
          rw [z, eq]
          simp only [if_neg n13, ite_self]
          by_cases x1 : vs k / 7 = c / 6
          · by_cases x2 : vs k % 7 ≤ c % 6
            · have ht : trS c vs ws (k + 1) = trS c vs ws k := by
                show trS c vs ws k + (if _ then _ else _) = _
                rw [if_neg (by omega), if_neg (by omega), Int32.add_zero]
              simp only [if_pos x1, if_pos x2, if_true, ht]
            · have ht : trS c vs ws (k + 1) = trS c vs ws k + 1 := by
                show trS c vs ws k + (if _ then _ else _) = _
                rw [if_pos (by omega)]
              simp only [if_pos x1, if_neg x2, if_neg i10, if_pos p11, ht]
          · have ht : trS c vs ws (k + 1) = trS c vs ws k := by
              show trS c vs ws k + (if _ then _ else _) = _
              rw [if_neg (by omega), if_neg (by omega), Int32.add_zero]
            simp only [if_neg x1, if_true, ht]
        · have ht : trS c vs ws (k + 1) = trS c vs ws k := by
            show trS c vs ws k + (if _ then _ else _) = _
            rw [if_neg (by omega), if_neg (by omega), Int32.add_zero]
          rw [ht, z]
          simp only [if_neg n21, if_neg n23, ite_self]
        · have hd7 : 7 ≤ vs k := by
            have := k2
            rw [z, tg_vd3] at this
            exact of_decide_eq_true this
          have ev : vs (k + 1) = vs k - 7 := by rw [k3, z]; rfl
          have eq : min (vs k) (vs (k + 1)) = vs (k + 1) := Nat.min_eq_right (by omega)
          rw [z, eq]
          simp only [if_neg n31, if_pos p33]
          by_cases x1 : vs (k + 1) / 7 = c / 6
          · by_cases x2 : vs (k + 1) % 7 ≤ c % 6
            · have ht : trS c vs ws (k + 1) = trS c vs ws k := by
                show trS c vs ws k + (if _ then _ else _) = _
                rw [if_neg (by omega), if_neg (by omega), Int32.add_zero]
              simp only [if_pos x1, if_pos x2, if_true, ht]
            · have ht : trS c vs ws (k + 1) = trS c vs ws k + (-1) := by
                show trS c vs ws k + (if _ then _ else _) = _
                rw [if_neg (by omega), if_pos (by omega)]
              simp only [if_pos x1, if_neg x2, if_neg i10, ht]
          · have ht : trS c vs ws (k + 1) = trS c vs ws k := by
              show trS c vs ws k + (if _ then _ else _) = _
              rw [if_neg (by omega), if_neg (by omega), Int32.add_zero]
            simp only [if_neg x1, if_true, ht]) (by
        unfold P_turnsRound_s10
        dsimp only
        rw [h5, if_pos (nI_le (Nat.le_refl _) (by omega))]) (by omega)
    exact wbind this
  have w2 : wh (M_winds_s37 (nI c) ms) FU (nI (vs 0), (0:Int32), (0:Int32)) = some (trS c vs ws l) := by
    refine wh_for (st := M_winds_s37 (nI c) ms) (r := trS c vs ws l) (fun k => (nI (vs k), trS c vs ws k, nI k)) l (fun k hk => ?_) ?_ (by omega)
    · obtain ⟨k1, k2, k3, k4, k5⟩ := h7 k hk
      have hv := hb k (by omega)
      have hv1 := hb (k + 1) (by omega)
      have en := (nxt_eq hv k1 k2).2
      rw [← k3] at en
      obtain ⟨g1, g2⟩ := s42 ms (k := k) (by omega)
      unfold M_winds_s37
      dsimp only
      rw [grd_t (by decide), s2_0 ms, h6, if_neg (nI_ge hk (by omega)), grd_t g1, g2, k5, en, nI_1]
      have n01 : ¬ nI 0 = 1 := by decide
      have n03 : ¬ nI 0 = 3 := by decide
      have n13 : ¬ nI 1 = 3 := by decide
      have n21 : ¬ nI 2 = 1 := by decide
      have n23 : ¬ nI 2 = 3 := by decide
      have n31 : ¬ nI 3 = 1 := by decide
      have p11 : nI 1 = 1 := rfl
      have p33 : nI 3 = 3 := rfl
      simp only [mod7 hv, mod6 hc]
      simp only [div7 hv, div7 hv1, div6 hc, nIeqI (show vs k / 7 < 2 ^ 31 by omega) (show c / 6 < 2 ^ 31 by omega), nIeqI (show vs (k + 1) / 7 < 2 ^ 31 by omega) (show c / 6 < 2 ^ 31 by omega), nIleI (show vs k % 7 < 2 ^ 31 by omega) (show c % 6 < 2 ^ 31 by omega)]
      rcases w4 k1 with z | z | z | z
      · have ht : trS c vs ws (k + 1) = trS c vs ws k := by
          show trS c vs ws k + (if _ then _ else _) = _
          rw [if_neg (by omega), if_neg (by omega), Int32.add_zero]
        rw [ht, z]
        simp only [if_neg n01, if_neg n03, Int32.add_zero, Int32.sub_zero, ite_self]
      · rw [z]
        simp only [if_neg n13, if_pos p11, Int32.add_zero, Int32.sub_zero]
        by_cases x2 : vs k % 7 ≤ c % 6
        · have ht : trS c vs ws (k + 1) = trS c vs ws k := by
            show trS c vs ws k + (if _ then _ else _) = _
            rw [if_neg (by omega), if_neg (by omega), Int32.add_zero]
          simp only [if_pos x2, ht]
        · by_cases x1 : vs k / 7 = c / 6
          · have ht : trS c vs ws (k + 1) = trS c vs ws k + 1 := by
              show trS c vs ws k + (if _ then _ else _) = _
              rw [if_pos (by omega)]
            simp only [if_pos x1, if_neg x2, ht]
          · have ht : trS c vs ws (k + 1) = trS c vs ws k := by
              show trS c vs ws k + (if _ then _ else _) = _
              rw [if_neg (by omega), if_neg (by omega), Int32.add_zero]
            simp only [if_neg x1, if_neg x2, ht]
      · have ht : trS c vs ws (k + 1) = trS c vs ws k := by
          show trS c vs ws k + (if _ then _ else _) = _
          rw [if_neg (by omega), if_neg (by omega), Int32.add_zero]
        rw [ht, z]
        simp only [if_neg n21, if_neg n23, Int32.add_zero, Int32.sub_zero, ite_self]
      · rw [z]
        simp only [if_neg n31, if_pos p33, Int32.add_zero, Int32.sub_zero]
        by_cases x2 : vs k % 7 ≤ c % 6
        · have ht : trS c vs ws (k + 1) = trS c vs ws k := by
            show trS c vs ws k + (if _ then _ else _) = _
            rw [if_neg (by omega), if_neg (by omega), Int32.add_zero]
          simp only [if_pos x2, ht]
        · by_cases x1 : vs (k + 1) / 7 = c / 6
          · have ht : trS c vs ws (k + 1) = trS c vs ws k - 1 := by
              show trS c vs ws k + (if _ then _ else _) = _
              rw [if_neg (by omega), if_pos (by omega), Int32.sub_eq_add_neg]
            simp only [if_pos x1, if_neg x2, ht]
          · have ht : trS c vs ws (k + 1) = trS c vs ws k := by
              show trS c vs ws k + (if _ then _ else _) = _
              rw [if_neg (by omega), if_neg (by omega), Int32.add_zero]
            simp only [if_neg x1, if_neg x2, ht]
    · unfold M_winds_s37
      dsimp only
      rw [grd_t (by decide), s2_0 ms, h6, if_pos (nI_le (Nat.le_refl _) (by omega))]
  rw [w1, wbind rfl, w2, wbind rfl]
  exact ⟨_, rfl, rfl⟩
end WALK2
