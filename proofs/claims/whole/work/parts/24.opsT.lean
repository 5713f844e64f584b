/-! tapes: tape, item, peek, shift -/
theorem updL_eq (f : Nat → Int64) (k : Nat) (x : Int64) : vp_updL f k x k = x := by simp [vp_updL]
theorem updL_ne (f : Nat → Int64) {k j : Nat} (x : Int64) (h : j ≠ k) : vp_updL f k x j = f j := by simp [vp_updL, h]
def filL (v : Int64) (f : Nat → Int64) (lo k : Nat) : Nat → Int64 := fun i => if lo ≤ i ∧ i < lo + k then v else f i
theorem filL_s (v : Int64) (f : Nat → Int64) (lo k : Nat) : vp_updL (filL v f lo k) (lo + k) v = filL v f lo (k + 1) := by
  funext i
  simp only [vp_updL, filL]
  by_cases h : i = lo + k
  · subst h
    rw [if_pos rfl, if_pos (by omega)]
  · rw [if_neg h]
    by_cases h2 : lo ≤ i ∧ i < lo + k
    · rw [if_pos h2, if_pos (by omega)]
    · rw [if_neg h2, if_neg (by omega)]
theorem filL_0 (v : Int64) (f : Nat → Int64) (lo : Nat) : filL v f lo 0 = f := by
  funext i
  simp only [filL]
  rw [if_neg (by omega)]
theorem fillL_eq (v : Int64) (f : Nat → Int64) : J_Arrays_fillL v f = some (filL v f 0 60) := by
  unfold J_Arrays_fillL
  have h := wh_for (st := J_Arrays_fillL_s6 v (Int32.ofNat 60)) (r := filL v f 0 60) (fun k => (nI k, filL v f 0 k)) 60 (fun k hk => by
      unfold J_Arrays_fillL_s6
      dsimp only
      rw [if_neg (show ¬ Int32.ofNat 60 ≤ nI k from nI_ge (a := k) (b := 60) hk (by decide)), grd_t (gi_nI hk (by decide)), nI_clamp (by omega), nI_1]
      have := filL_s v f 0 k
      rw [Nat.zero_add] at this
      rw [this]) (by
      unfold J_Arrays_fillL_s6
      dsimp only
      rw [if_pos (by decide)]) (by decide)
  show Option.bind (wh (J_Arrays_fillL_s6 v (Int32.ofNat 60)) FU (nI 0, f)) (fun w1 => some w1) = _
  rw [filL_0] at h
  rw [h]
  rfl
theorem tapes_eq (t : Nat) (ht : t < 6) (f : Nat → Int64) : wh (M_tape_s70 (nI t)) FU ((0:Int32), f) = some (filL 0 f (60 * t) 60) := by
  have h := wh_for (st := M_tape_s70 (nI t)) (r := filL 0 f (60 * t) 60) (fun k => (nI k, filL 0 f (60 * t) k)) 60 (fun k hk => by
      unfold M_tape_s70
      dsimp only
      have e : (60 : Int32) * nI t + nI k = nI (60 * t + k) := by
        rw [show (60 : Int32) * nI t = nI (60 * t) from pk_mul 60 t, nI_add]
      rw [if_neg (show ¬ (60 : Int32) ≤ nI k from nI_ge (a := k) (b := 60) hk (by decide)), e, grd_t (gi_nI (by omega) (by decide)), nI_clamp (by omega), nI_1, filL_s]) (by
      unfold M_tape_s70
      dsimp only
      rw [if_pos (by decide)]) (by decide)
  rw [filL_0] at h
  exact h
theorem isTape_y {t : Nat} (h : t < 6) : X_isTape (nI t) = 1 ∧ M_isTape (nI t) = 1 := by
  have : ∀ t, t < 6 → X_isTape (nI t) = 1 ∧ M_isTape (nI t) = 1 := by decide
  exact this t h
theorem isTape_n {x : Int32} (h : ∀ t, t < 6 → x ≠ nI t) : X_isTape x = 0 ∧ M_isTape x = 0 := by
  unfold X_isTape M_isTape
  rcases tri x (m := 5) (m1 := 6) (n := 5) rfl rfl (by decide) with ⟨x1, x2, x3⟩ | ⟨x1, x2, x3, x4, x5, x6, x7⟩ | ⟨k, hk, ek, _⟩
  · exact ⟨if_pos x1, x3⟩
  · exact ⟨by rw [if_neg x1, if_pos x5], x7⟩
  · exact absurd ek (h k (by omega))
theorem IT_upd {tp : Nat → tTp} {mso mmy mso' mmy' : Nat → Int32} {mit mit' : Nat → Int64} {t : Nat} {x : tTp} (h : IT tp mso mmy mit)
    (hx : ∃ l : Nat, l ≤ 60 ∧ x.1 = mso' t ∧ (mso' t = -1 ∨ ∃ o : Nat, o ≤ 4 ∧ mso' t = nI o) ∧ (mso' t = -1 → l = 0) ∧ x.2.1 = nI l ∧ mmy' t = nI l ∧ ∀ i, i < 60 → x.2.2 i = mit' (60 * t + i))
    (hu : ∀ u, u < 6 → u ≠ t → mso' u = mso u ∧ mmy' u = mmy u ∧ ∀ i, i < 60 → mit' (60 * u + i) = mit (60 * u + i)) : IT (tpU tp t x) mso' mmy' mit' := by
  intro u hu6
  by_cases e : u = t
  · subst e
    unfold tpU
    rw [if_pos rfl]
    exact hx
  · obtain ⟨e1, e2, e3⟩ := hu u hu6 e
    obtain ⟨l, a1, a2, a3, a4, a5, a6, a7⟩ := h u hu6
    unfold tpU
    rw [if_neg e, e1, e2]
    exact ⟨l, a1, a2, a3, a4, a5, a6, fun i hi => (a7 i hi).trans (e3 i hi).symm⟩
theorem tpU_same {tp : Nat → tTp} {t : Nat} : tpU tp t ((tp t).1, (tp t).2.1, (tp t).2.2) = tp := by
  funext j
  unfold tpU
  by_cases h : j = t
  · rw [if_pos h, h]
  · rw [if_neg h]
theorem p_tape {tp : Nat → tTp} {mso mmy : Nat → Int32} {mit : Nat → Int64} {t : Nat} (ht : t < 6) (o n : Int32) (h : IT tp mso mmy mit) : ∃ q, X_tape_2 (nI t) o n (tp t).1 (tp t).2.1 (tp t).2.2 = some q ∧ ∃ q', M_tape (nI t) o n mso mmy mit = some q' ∧ q'.1 = q.1 ∧ IT (tpU tp t (q.2.1, q.2.2.1, q.2.2.2)) q'.2.1 q'.2.2.1 q'.2.2.2 := by
  unfold X_tape_2 M_tape
  rw [(isTape_y ht).1, (isTape_y ht).2, if_neg (show ¬ (1 : Int32) = 0 by decide), if_neg (show ¬ (1 : Int32) = 0 by decide)]
  have same : IT (tpU tp t ((tp t).1, (tp t).2.1, (tp t).2.2)) mso mmy mit := by rw [tpU_same]; exact h
  have mk : ∀ l s, l ≤ 60 → (o = -1 ∨ ∃ k : Nat, k ≤ 4 ∧ o = nI k) → (o = -1 → l = 0) → (if o = (-1:Int32) then (0:Int32) else n) = nI l → s = nI l → IT (tpU tp t (o, s, filL 0 (tp t).2.2 0 60)) (upd mso t o) (upd mmy t (if o = (-1:Int32) then (0:Int32) else n)) (filL 0 mit (60 * t) 60) := by
    intro l s hl ho h0 e es
    refine IT_upd h ⟨l, hl, (upd_eq _ _ _).symm, by rw [upd_eq]; exact ho, by rw [upd_eq]; exact h0, es, by rw [upd_eq, e], fun i hi => ?_⟩ (fun u hu hne => ⟨upd_ne _ _ hne, upd_ne _ _ hne, fun i hi => ?_⟩)
    · simp only [filL]
      rw [if_pos (by omega), if_pos (by omega)]
    · simp only [filL]
      rw [if_neg (by omega)]
  have run : M_tape_j44 (nI t) o n mso mmy mit = some (1, upd mso t o, upd mmy t (if o = (-1:Int32) then (0:Int32) else n), filL 0 mit (60 * t) 60) := by
    unfold M_tape_j44
    rw [grd_t (gi_nI ht (by decide)), grd_t (gi_nI ht (by decide)), tapes_eq t ht, nI_clamp (by omega)]
    rfl
  by_cases c1 : o = -1
  · rw [if_pos c1, if_pos c1]
    have e2 : M_isIn o (-1) 4 = 1 := by rw [c1]; decide
    rw [e2, if_neg (show ¬ (1 : Int32) = 0 by decide)]
    unfold T_become M_tape_j32
    rw [fillL_eq, if_pos c1, run]
    refine ⟨_, rfl, _, rfl, rfl, ?_⟩
    have := mk 0 0 (by omega) (Or.inl c1) (fun _ => rfl) (if_pos c1) rfl
    rw [c1] at this ⊢
    exact this
  rw [if_neg c1, if_neg c1]
  rcases tri o (m := 4) (m1 := 5) (n := 4) rfl rfl (by decide) with ⟨x1, x2, x3⟩ | ⟨x1, x2, x3, x4, x5, x6, x7⟩ | ⟨k, hk, ek, x1, x2, x3, x4, x5, x6, x7⟩
  · have e2 : M_isIn o (-1) 4 = 0 := by
      unfold M_isIn
      rw [if_pos]
      have t0 : (0 : Int32).toInt = 0 := by decide
      have t1 : (-1 : Int32).toInt = -1 := by decide
      have a1 := Int32.lt_iff_toInt_lt.mp x1
      rw [Int32.lt_iff_toInt_lt, t1]
      have : o.toInt ≠ -1 := fun q => c1 (Int32.toInt_inj.mp (by rw [q, t1]))
      omega
    rw [if_pos x1, e2, if_pos rfl]
    exact ⟨_, rfl, _, rfl, rfl, same⟩
  · have e2 : M_isIn o (-1) 4 = 0 := by
      unfold M_isIn
      rw [if_pos x4]
      split <;> rfl
    rw [if_neg x1, if_pos x4, e2, if_pos rfl]
    exact ⟨_, rfl, _, rfl, rfl, same⟩
  have e2 : M_isIn o (-1) 4 = 1 := by
    unfold M_isIn
    rw [if_neg, if_neg x4]
    have t0 : (0 : Int32).toInt = 0 := by decide
    have t1 : (-1 : Int32).toInt = -1 := by decide
    have a1 := Int32.le_iff_toInt_le.mp x2
    rw [Int32.lt_iff_toInt_lt, t1]
    omega
  rw [if_neg x1, if_neg x4, e2, if_neg (show ¬ (1 : Int32) = 0 by decide)]
  rcases tri n (m := 60) (m1 := 61) (n := 60) rfl rfl (by decide) with ⟨y1, y2, y3⟩ | ⟨y1, y2, y3, y4, y5, y6, y7⟩ | ⟨j, hj, ej, y1, y2, y3, y4, y5, y6, y7⟩
  · have y60 : n ≤ 60 := by
      have a1 := Int32.lt_iff_toInt_lt.mp y1
      have t0 : (0 : Int32).toInt = 0 := by decide
      have t1 : (60 : Int32).toInt = 60 := by decide
      rw [Int32.le_iff_toInt_le, t1]
      omega
    rw [if_pos y60, if_pos y60, if_neg y2]
    unfold M_tape_j32
    rw [if_neg c1, if_neg y2]
    exact ⟨_, rfl, _, rfl, rfl, same⟩
  · rw [if_neg y3, if_neg y3]
    exact ⟨_, rfl, _, rfl, rfl, same⟩
  · rw [if_pos y3, if_pos y3, if_pos y2]
    unfold T_become M_tape_j32
    rw [fillL_eq, if_neg c1, if_pos y2, run]
    refine ⟨_, rfl, _, rfl, rfl, ?_⟩
    exact mk j n hj (Or.inr ⟨k, hk, ek⟩) (fun q => absurd q c1) (by rw [if_neg c1]; exact ej) ej
theorem hasPlace_eq (i : Int32) {l : Nat} (hl : l ≤ 60) : (∃ k, k < l ∧ i = nI k ∧ T_hasPlace i (nI l) = 1 ∧ M_isIn i 0 (nI l - 1) = 1) ∨ (T_hasPlace i (nI l) = 0 ∧ M_isIn i 0 (nI l - 1) = 0 ∧ (i < 0 ∨ nI l ≤ i)) := by
  have e : nI l - 1 = iZ ((l : Int) - 1) := by
    show nI l - iZ 1 = _
    rw [iZ_nI, iZ_sub]
  have t0 : (0 : Int32).toInt = 0 := by decide
  have t6 : (60 : Int32).toInt = 60 := by decide
  have tl : (nI l).toInt = l := nI_toInt (by omega)
  have tm : (nI l - 1).toInt = (l : Int) - 1 := by rw [e, iZ_toInt (by unfold sm; omega)]
  unfold T_hasPlace M_isIn
  simp only [Int32.lt_iff_toInt_lt, Int32.le_iff_toInt_le, t0, t6, tl, tm]
  rcases Int.lt_or_le i.toInt 0 with h | h
  · right
    rw [if_pos h, if_pos h]
    exact ⟨rfl, rfl, Or.inl h⟩
  rcases Int.lt_or_le i.toInt l with h2 | h2
  · left
    obtain ⟨k, hk, ek⟩ := nI_of (x := i) (fun q => by have := Int32.lt_iff_toInt_lt.mp q; omega)
    have : i.toInt = k := by rw [ek, nI_toInt hk]
    refine ⟨k, by omega, ek, ?_, ?_⟩
    · rw [if_neg (by omega), if_neg (by omega), if_neg (by omega)]
    · rw [if_neg (by omega), if_neg (by omega)]
  · right
    refine ⟨?_, ?_, Or.inr h2⟩
    · rw [if_neg (by omega), if_pos h2]
    · rw [if_neg (by omega), if_pos (by omega)]
theorem place_eq {t k : Nat} : (60 : Int32) * nI t + nI k = nI (60 * t + k) := by
  rw [show (60 : Int32) * nI t = nI (60 * t) from pk_mul 60 t, nI_add]
theorem p_peek {tp : Nat → tTp} {mso mmy : Nat → Int32} {mit : Nat → Int64} {t : Nat} (ht : t < 6) (i : Int32) (h : IT tp mso mmy mit) : ∃ q, X_peek_2 (nI t) i (tp t).2.1 (tp t).2.2 = some q ∧ M_peek (nI t) i mmy mit = some q := by
  obtain ⟨l, a1, a2, a3, a4, a5, a6, a7⟩ := h t ht
  unfold X_peek_2 M_peek
  rw [(isTape_y ht).1, (isTape_y ht).2, if_neg (show ¬ (1 : Int32) = 0 by decide), if_neg (show ¬ (1 : Int32) = 0 by decide), grd_t (gi_nI ht (by decide)), nI_clamp (by omega), a5, a6]
  rcases hasPlace_eq i a1 with ⟨k, hk, ek, e1, e2⟩ | ⟨e1, e2, _⟩
  · rw [e1, e2, if_neg (show ¬ (1 : Int32) = 0 by decide), if_neg (show ¬ (1 : Int32) = 0 by decide)]
    unfold T_at
    rw [e1, if_neg (show ¬ (1 : Int32) = 0 by decide), ek, grd_t (gi_nI (by omega) (by decide)), place_eq, grd_t (gi_nI (by omega) (by decide)), nI_clamp (by omega), nI_clamp (by omega), a7 k (by omega)]
    exact ⟨_, rfl, rfl⟩
  · rw [e1, e2, if_pos rfl, if_pos rfl]
    exact ⟨_, rfl, rfl⟩
theorem lowest_eq {o : Int32} (v : Int64) (h : ∃ k : Nat, k ≤ 4 ∧ o = nI k) : T_narrowed v o = M_lowest o v := by
  obtain ⟨k, hk, ek⟩ := h
  subst ek
  unfold T_narrowed M_lowest T_narrowed_j66
  rcases (show k = 0 ∨ k = 1 ∨ k = 2 ∨ k = 3 ∨ k = 4 by omega) with q | q | q | q | q <;> subst q
  · rw [if_pos (by decide), if_pos (by decide)]
  · rw [if_neg (by decide), if_pos (by decide), if_neg (by decide), if_pos (by decide)]
  · rw [if_neg (by decide), if_neg (by decide), if_pos (by decide), if_neg (by decide), if_neg (by decide), if_pos (by decide)]
  · rw [if_neg (by decide), if_neg (by decide), if_neg (by decide), if_pos (by decide), if_neg (by decide), if_neg (by decide), if_neg (by decide), if_pos (by decide)]
  · rw [if_neg (show ¬ nI 4 = 0 by decide), if_neg (show ¬ nI 4 = 1 by decide), if_neg (show ¬ nI 4 = 2 by decide), if_neg (show ¬ nI 4 = 3 by decide), if_pos (show nI 4 = 4 by decide), if_neg (show ¬ nI 4 = 0 by decide), if_neg (show ¬ nI 4 = 1 by decide), if_neg (show ¬ nI 4 = 2 by decide), if_neg (show ¬ nI 4 = 3 by decide)]
theorem p_item {tp : Nat → tTp} {mso mmy : Nat → Int32} {mit : Nat → Int64} {t : Nat} (ht : t < 6) (i : Int32) (v : Int64) (h : IT tp mso mmy mit) : ∃ q, X_item_2 (nI t) i v (tp t).1 (tp t).2.1 (tp t).2.2 = some q ∧ ∃ q', M_item (nI t) i v mso mmy mit = some q' ∧ q'.1 = q.1 ∧ IT (tpU tp t ((tp t).1, (tp t).2.1, q.2)) mso mmy q'.2 := by
  obtain ⟨l, a1, a2, a3, a4, a5, a6, a7⟩ := h t ht
  have same : IT (tpU tp t ((tp t).1, (tp t).2.1, (tp t).2.2)) mso mmy mit := by rw [tpU_same]; exact h
  unfold X_item_2 M_item
  rw [(isTape_y ht).1, (isTape_y ht).2, if_neg (show ¬ (1 : Int32) = 0 by decide), if_neg (show ¬ (1 : Int32) = 0 by decide), grd_t (gi_nI ht (by decide)), grd_t (gi_nI ht (by decide)), grd_t (gi_nI ht (by decide)), nI_clamp (by omega)]
  by_cases c1 : mso t = -1
  · rw [if_pos (by rw [a2]; exact c1), if_pos c1]
    exact ⟨_, rfl, _, rfl, rfl, same⟩
  rw [if_neg (by rw [a2]; exact c1), if_neg c1]
  rcases hasPlace_eq i a1 with ⟨k, hk, ek, e1, e2⟩ | ⟨e1, e2, _⟩
  · rw [a6, e2, if_neg (show ¬ (1 : Int32) = 0 by decide)]
    rw [← a5] at e1
    rw [e1, if_neg (show ¬ (1 : Int32) = 0 by decide)]
    unfold T_put
    rw [e1, if_neg (show ¬ (1 : Int32) = 0 by decide), ek, grd_t (gi_nI (by omega) (by decide)), place_eq, grd_t (gi_nI (by omega) (by decide)), nI_clamp (by omega), nI_clamp (by omega), a2, lowest_eq v (a3.resolve_left c1)]
    refine ⟨_, rfl, _, rfl, rfl, ?_⟩
    refine IT_upd h ⟨l, a1, rfl, a3, a4, a5, a6, fun j hj => ?_⟩ (fun u hu hne => ⟨rfl, rfl, fun j hj => updL_ne _ _ (by omega)⟩)
    show vp_updL (tp t).2.2 k _ j = vp_updL mit (60 * t + k) _ (60 * t + j)
    by_cases e : j = k
    · subst e; rw [updL_eq, updL_eq]
    · rw [updL_ne _ _ e, updL_ne _ _ (by omega), a7 j hj]
  · rw [a6, e2, if_pos rfl]
    rw [← a5] at e1
    rw [e1, if_pos rfl]
    exact ⟨_, rfl, _, rfl, rfl, same⟩
