/-! a WALK told in letters, a block of cells: as a set-up does them -/
theorem vtx_t : ∀ r, r < 10 → ∀ c, c < 10 → G_vertexAt (nI r) (nI c) = (if r < 7 ∧ c < 7 then nI (7 * r + c) else -1) ∧ M_isIn (nI r) 0 6 = (if r < 7 then 1 else 0) ∧ (7:Int32) * nI r + nI c = nI (7 * r + c) := by decide +kernel
theorem cell_t : ∀ r, r < 10 → ∀ c, c < 10 → G_cellAt (nI r) (nI c) = (if r < 6 ∧ c < 6 then nI (6 * r + c) else -1) ∧ M_isOnGround (nI r) (nI c) = (if r < 6 ∧ c < 6 then 1 else 0) ∧ (6:Int32) * nI r + nI c = nI (6 * r + c) := by decide +kernel
def wkW (l : Nat) (g : Nat → Int32) (a : Nat) : Nat := (wyT (sgT l g a)).toNatClampNeg
theorem wk_ok {l : Nat} {g : Nat → Int32} {a : Nat} (h : ¬ wyT (sgT l g a) = -1) : wkW l g a < 4 ∧ wyT (sgT l g a) = nI (wkW l g a) := by
  unfold wkW
  rcases wy_ok (sgT l g a) with e | ⟨k, hk, e⟩
  · exact absurd e h
  · rw [e, nI_clamp (by omega)]
    exact ⟨hk, rfl⟩
def vsW (l : Nat) (g : Nat → Int32) (a v : Nat) : Nat → Nat
  | 0 => v
  | k + 1 => tg_nx (vsW l g a v k) (wkW l g (a + k))
section PTH
variable {rg mrg : Int64} {ld ps pl ss es gs : Int32} {mt pw so sq es' eo eq go gq ms : Nat → Int32}
variable {l : Nat} {g g' : Nat → Int32}
theorem vs_lt {a v n : Nat} (hv : v < 49) (hw : ∀ k, k < n → wkW l g (a + k) < 4) : ∀ k, k ≤ n → (∀ j, j < k → tg_vd (vsW l g a v j) (wkW l g (a + j)) = true) → vsW l g a v k < 49
  | 0, _, _ => hv
  | k + 1, hk, h => tg_vd_lt (vs_lt hv hw k (by omega) (fun j hj => h j (by omega))) (hw k (by omega)) (h k (by omega))
theorem c_walks (hX : TX l g g') {b i n r cc : Nat} (hb : b ≤ 200) (hi : i < 12) (hn : n = rdL l g 20 (b + 3)) (h0 : 0 < n) (hr : r < 10) (hc : cc < 10) {t : Nat → Int32} (t1 : t (26 * i + 1) = nI r) (t2 : t (26 * i + 2) = nI cc) (t5 : t (26 * i + 5) = nI n) (t6 : ∀ k, k < n → t (26 * i + 6 + k) = wyT (sgT l g (b + 3 + k))) (h : St rg ld mt ps pl pw ss so sq es eo eq gs go gq mrg ms) : ∃ q, X_pathSet (nI (b + 3)) (G_vertexAt (nI r) (nI cc)) ps pl pw (nI l) g = some q ∧ ∃ q', M_walks (nI (26 * i)) ms t = some q' ∧ q'.1 = q.1 ∧ (q.1 = 0 ∨ q.1 = 1) ∧ St rg ld mt q.2.1 q.2.2.1 q.2.2.2 ss so sq es eo eq gs go gq mrg q'.2 := by
  have n20 : n ≤ 20 := by rw [hn]; exact lt_le l g 20 (b + 3)
  have hl := hX.1
  have hwy : ∀ k, k < n → wkW l g (b + 3 + k) < 4 ∧ wyT (sgT l g (b + 3 + k)) = nI (wkW l g (b + 3 + k)) := fun k hk => wk_ok (lt_in l g 20 (b + 3) k (by omega))
  obtain ⟨v1, v2, v3⟩ := vtx_t r hr cc hc
  obtain ⟨_, v4, _⟩ := vtx_t cc hc cc hc
  have g1 : gi (nI (26 * i + 1)) 312 = true := gi_nI (by omega) (by decide)
  have g2 : gi (nI (26 * i + 2)) 312 = true := gi_nI (by omega) (by decide)
  have g5 : gi (nI (26 * i + 5)) 312 = true := gi_nI (by omega) (by decide)
  have n5 : nI (26 * i) + (5:Int32) = nI (26 * i + 5) := nI_add _ 5
  have n6 : nI (26 * i) + (6:Int32) = nI (26 * i + 6) := nI_add _ 6
  unfold X_pathSet M_walks M_walks_j38
  rw [letters_eq hX (by omega), ← hn, wbind rfl, v1, nI_1 (26 * i), show nI (26 * i) + (2:Int32) = nI (26 * i + 2) from nI_add _ 2, grd_t g1, grd_t g2, nI_clamp (by omega), nI_clamp (by omega), t1, t2, v2, v4, v3]
  by_cases hr7 : r < 7
  rotate_left
  · rw [if_neg (show ¬ (r < 7 ∧ cc < 7) from fun q => hr7 q.1), if_neg hr7, if_pos rfl]
    have hF : FU = (FU - 1) + 1 := by have := FU_big; omega
    rw [hF, wh_inr (show X_pathSet_s15 (nI (b + 3)) (nI n) (nI l) g ((-1:Int32), (0:Int32)) = some (Sum.inr (-1)) from by
      unfold X_pathSet_s15
      dsimp only
      rw [if_neg (show ¬ nI n ≤ 0 from nI_ge (a := 0) h0 (by omega)), if_pos (by decide)]), wbind rfl, if_neg (by decide)]
    exact ⟨_, rfl, _, rfl, rfl, Or.inl rfl, h⟩
  by_cases hc7 : cc < 7
  rotate_left
  · rw [if_neg (show ¬ (r < 7 ∧ cc < 7) from fun q => hc7 q.2), if_pos hr7, if_neg hc7, if_neg (show ¬ (1:Int32) = 0 by decide), if_pos rfl]
    have hF : FU = (FU - 1) + 1 := by have := FU_big; omega
    rw [hF, wh_inr (show X_pathSet_s15 (nI (b + 3)) (nI n) (nI l) g ((-1:Int32), (0:Int32)) = some (Sum.inr (-1)) from by
      unfold X_pathSet_s15
      dsimp only
      rw [if_neg (show ¬ nI n ≤ 0 from nI_ge (a := 0) h0 (by omega)), if_pos (by decide)]), wbind rfl, if_neg (by decide)]
    exact ⟨_, rfl, _, rfl, rfl, Or.inl rfl, h⟩
  have hv : 7 * r + cc < 49 := by omega
  generalize 7 * r + cc = v at hv
  rw [if_pos (show r < 7 ∧ cc < 7 from ⟨hr7, hc7⟩), if_pos hr7, if_pos hc7, if_neg (show ¬ (1:Int32) = 0 by decide), if_neg (show ¬ (1:Int32) = 0 by decide)]
  have vlt := vs_lt (l := l) (g := g) (a := b + 3) (n := n) hv (fun k hk => (hwy k hk).1)
  have c6 : ∀ k, k < n → gi (nI (26 * i + 6 + k)) 312 = true := fun k hk => gi_nI (by omega) (by decide)
  have stX : ∀ k, k < n → vsW l g (b + 3) v k < 49 → X_pathSet_s15 (nI (b + 3)) (nI n) (nI l) g (nI (vsW l g (b + 3) v k), nI k) = some (Sum.inl (oI (tg_vd (vsW l g (b + 3) v k) (wkW l g (b + 3 + k))) (vsW l g (b + 3) v (k + 1)), nI (k + 1))) := fun k hk hlt => by
    unfold X_pathSet_s15
    dsimp only
    rw [if_neg (nI_ge hk (by omega)), if_neg (nI_pos (by omega)), nI_add, way_eq hX (by omega), wbind rfl, (hwy k hk).2, (st_tbl3 _ hlt _ (hwy k hk).1).2.1, nI_1]
    rfl
  have stM : ∀ k, k < n → vsW l g (b + 3) v k < 49 → M_walks_s51 (nI (26 * i)) t (nI (vsW l g (b + 3) v k), nI k) = if tg_vd (vsW l g (b + 3) v k) (wkW l g (b + 3 + k)) = true then some (Sum.inl (nI (vsW l g (b + 3) v (k + 1)), nI (k + 1))) else some (Sum.inr (Sum.inl ())) := fun k hk hlt => by
    have on := (st_tbl3 _ hlt _ (hwy k hk).1).1
    have tk : t (26 * i + 6 + k) = nI (wkW l g (b + 3 + k)) := (t6 k hk).trans (hwy k hk).2
    unfold M_walks_s51
    dsimp only
    rw [n5, grd_t g5, nI_clamp (by omega), if_neg (show ¬ t (26 * i + 5) ≤ nI k by rw [t5]; exact nI_ge hk (by omega)), n6, nI_add, grd_t (c6 k hk), nI_clamp (by omega), nI_1]
    cases hd : tg_vd (vsW l g (b + 3) v k) (wkW l g (b + 3 + k)) with
    | false =>
      rw [hd] at on
      rw [if_pos (show M_onBy (nI (vsW l g (b + 3) v k)) (t (26 * i + 6 + k)) = -1 by rw [tk, on]; rfl), if_neg (show ¬ false = true by decide)]
    | true =>
      rw [hd] at on
      have e : M_onBy (nI (vsW l g (b + 3) v k)) (t (26 * i + 6 + k)) = nI (vsW l g (b + 3) v (k + 1)) := by rw [tk, on]; rfl
      rw [if_neg (show ¬ M_onBy (nI (vsW l g (b + 3) v k)) (t (26 * i + 6 + k)) = -1 by rw [e]; exact nI_ne_m1 _ (by have := tg_vd_lt hlt (hwy k hk).1 hd; exact Nat.lt_of_lt_of_le this (by decide))), e, if_pos rfl]
  by_cases all : ∀ j, j < n → tg_vd (vsW l g (b + 3) v j) (wkW l g (b + 3 + j)) = true
  · have lt49 : ∀ k, k ≤ n → vsW l g (b + 3) v k < 49 := fun k hk => vlt k hk (fun j hj => all j (by omega))
    have w1 : wh (X_pathSet_s15 (nI (b + 3)) (nI n) (nI l) g) FU (nI v, (0:Int32)) = some (nI (vsW l g (b + 3) v n)) := by
      refine wh_for (st := X_pathSet_s15 (nI (b + 3)) (nI n) (nI l) g) (fun k => (nI (vsW l g (b + 3) v k), nI k)) n (fun k hk => ?_) ?_ (by omega)
      · rw [stX k hk (lt49 k (by omega)), all k hk]
        rfl
      · unfold X_pathSet_s15
        dsimp only
        rw [if_pos (nI_le (Nat.le_refl _) (by omega))]
    have w2 : wh (M_walks_s51 (nI (26 * i)) t) FU (nI v, (0:Int32)) = some (Sum.inr ()) := by
      refine wh_for (st := M_walks_s51 (nI (26 * i)) t) (fun k => (nI (vsW l g (b + 3) v k), nI k)) n (fun k hk => ?_) ?_ (by omega)
      · rw [stM k hk (lt49 k (by omega)), if_pos (all k hk)]
      · unfold M_walks_s51
        dsimp only
        rw [n5, grd_t g5, nI_clamp (by omega), if_pos (show t (26 * i + 5) ≤ nI n by rw [t5]; exact nI_le (Nat.le_refl _) (by omega))]
    have w3 : wh (X_pathSet_s68 (nI (b + 3)) (nI n) (nI l) g) FU ((0:Int32), (0:Int32), pw) = some (nI n, fun j => if j < n then nI (wkW l g (b + 3 + j)) else pw j) := by
      refine wh_for (st := X_pathSet_s68 (nI (b + 3)) (nI n) (nI l) g) (fun k => (nI k, nI k, fun j => if j < k then nI (wkW l g (b + 3 + j)) else pw j)) n (fun k hk => ?_) ?_ (by omega)
      · unfold X_pathSet_s68
        dsimp only
        rw [if_neg (nI_ge hk (by omega)), nI_add, way_eq hX (by omega), wbind rfl, (hwy k hk).2]
        unfold P_append
        rw [if_neg (nI_pos (by omega)), if_pos (show nI k < (40:Int32) from nI_lt (b := 40) (by omega) (by decide)), grd_t (gi_nI (by omega) (by decide)), wbind rfl, nI_1, nI_clamp (by omega)]
        congr 4
        funext j
        unfold upd
        dsimp only
        by_cases q : j = k
        · subst q
          rw [if_pos rfl, if_pos (Nat.lt_succ_self j)]
        · rw [if_neg q]
          by_cases q2 : j < k
          · rw [if_pos q2, if_pos (show j < k + 1 by omega)]
          · rw [if_neg q2, if_neg (show ¬ j < k + 1 by omega)]
      · unfold X_pathSet_s68
        dsimp only
        rw [if_pos (nI_le (Nat.le_refl _) (by omega))]
    have w4 : ∀ m0 : Nat → Int32, wh (M_walks_s126 (nI (26 * i)) t) FU ((0:Int32), m0) = some (fun j => if 42 ≤ j ∧ j < 42 + n then nI (wkW l g (b + 3 + (j - 42))) else m0 j) := fun m0 => by
      have e0 : m0 = fun j => if 42 ≤ j ∧ j < 42 + 0 then nI (wkW l g (b + 3 + (j - 42))) else m0 j := by
        funext j
        rw [if_neg (by omega)]
      rw [show ((0:Int32), m0) = (nI 0, fun j => if 42 ≤ j ∧ j < 42 + 0 then nI (wkW l g (b + 3 + (j - 42))) else m0 j) from congrArg (Prod.mk (nI 0)) e0]
      refine wh_for (st := M_walks_s126 (nI (26 * i)) t) (fun k => (nI k, fun j => if 42 ≤ j ∧ j < 42 + k then nI (wkW l g (b + 3 + (j - 42))) else m0 j)) n (fun k hk => ?_) ?_ (by omega)
      · have tk : t (26 * i + 6 + k) = nI (wkW l g (b + 3 + k)) := (t6 k hk).trans (hwy k hk).2
        unfold M_walks_s126
        dsimp only
        rw [n5, grd_t g5, nI_clamp (by omega), if_neg (show ¬ t (26 * i + 5) ≤ nI k by rw [t5]; exact nI_ge hk (by omega)), n6, nI_add, grd_t (c6 k hk), show (42:Int32) + nI k = nI (42 + k) from nI_add 42 k, grd_t (gi_nI (by omega) (by decide)), nI_clamp (show 26 * i + 6 + k < 2 ^ 31 by omega), nI_clamp (show 42 + k < 2 ^ 31 by omega), nI_1, tk]
        congr 3
        funext j
        unfold upd
        by_cases q : j = 42 + k
        · subst q
          rw [if_pos rfl, if_pos (show 42 ≤ 42 + k ∧ 42 + k < 42 + (k + 1) by omega), show 42 + k - 42 = k by omega]
        · rw [if_neg q]
          dsimp only
          by_cases q2 : 42 ≤ j ∧ j < 42 + k
          · rw [if_pos q2, if_pos (show 42 ≤ j ∧ j < 42 + (k + 1) by omega)]
          · rw [if_neg q2, if_neg (show ¬ (42 ≤ j ∧ j < 42 + (k + 1)) by omega)]
      · unfold M_walks_s126
        dsimp only
        rw [n5, grd_t g5, nI_clamp (by omega), if_pos (show t (26 * i + 5) ≤ nI n by rw [t5]; exact nI_le (Nat.le_refl _) (by omega))]
    rw [w1, wbind rfl, w2, wbind rfl, if_pos (nI_pos' (by have := lt49 n (Nat.le_refl n); omega))]
    unfold P_restart
    rw [wbind rfl]
    dsimp only [Sum.elim]
    rw [w3, wbind rfl, n5, grd_t (by decide), grd_t g5, grd_t (by decide), nI_clamp (show 26 * i + 5 < 2 ^ 31 by omega), t5, w4, wbind rfl]
    refine ⟨_, rfl, _, rfl, rfl, Or.inr rfl, ?_⟩
    refine St_path h ⟨n, vsW l g (b + 3) v, fun j => wkW l g (b + 3 + j), by omega, hv, rfl, ?_, rfl, ?_, fun j hj => ?_⟩ (fun j j1 j2 j3 => ?_)
    · try dsimp only
      rw [if_neg (by omega)]
      rfl
    · try dsimp only
      rw [if_neg (by omega)]
      rfl
    · have tb := nxN_tbl _ (lt49 j (by omega)) _ (hwy j hj).1
      rw [all j hj, if_pos rfl] at tb
      try dsimp only
      rw [if_pos hj, if_pos (show 42 ≤ 42 + j ∧ 42 + j < 42 + n by omega), show 42 + j - 42 = j by omega]
      exact ⟨(hwy j hj).1, lt49 (j + 1) (by omega), tb, rfl, rfl⟩
    · try dsimp only
      rw [if_neg (show ¬ (42 ≤ j ∧ j < 42 + n) by omega)]
      exact (upd_ne _ _ j2).trans (upd_ne _ _ j1)
  · obtain ⟨j, ⟨hj, hjd⟩, hmin⟩ := tg_least (P := fun j => j < n ∧ ¬ tg_vd (vsW l g (b + 3) v j) (wkW l g (b + 3 + j)) = true) (by
      refine Classical.byContradiction fun q => all fun j hj => ?_
      refine Classical.byContradiction fun r => q ⟨j, hj, r⟩)
    have ok : ∀ k, k < j → tg_vd (vsW l g (b + 3) v k) (wkW l g (b + 3 + k)) = true := fun k hk => Classical.byContradiction fun r => hmin k hk ⟨by omega, r⟩
    have lt49 : ∀ k, k ≤ j → vsW l g (b + 3) v k < 49 := fun k hk => vlt k (by omega) (fun x hx => ok x (by omega))
    have w1 : wh (X_pathSet_s15 (nI (b + 3)) (nI n) (nI l) g) FU (nI v, (0:Int32)) = some (-1) := by
      refine wh_for (st := X_pathSet_s15 (nI (b + 3)) (nI n) (nI l) g) (fun k => (if k ≤ j then nI (vsW l g (b + 3) v k) else -1, nI k)) (j + 1) (fun k hk => ?_) ?_ (by omega)
      · rw [if_pos (show k ≤ j by omega), stX k (by omega) (lt49 k (by omega))]
        by_cases e : k = j
        · subst e
          rw [if_neg (show ¬ k + 1 ≤ k by omega)]
          cases hd : tg_vd (vsW l g (b + 3) v k) (wkW l g (b + 3 + k)) with
          | true => exact absurd hd hjd
          | false => rfl
        · rw [if_pos (show k + 1 ≤ j by omega), ok k (by omega)]
          rfl
      · unfold X_pathSet_s15
        dsimp only
        rw [if_neg (show ¬ j + 1 ≤ j by omega)]
        by_cases e : j + 1 = n
        · rw [e, if_pos (nI_le (Nat.le_refl _) (by omega))]
        · rw [if_neg (nI_ge (show j + 1 < n by omega) (by omega)), if_pos (by decide)]
    have w2 : wh (M_walks_s51 (nI (26 * i)) t) FU (nI v, (0:Int32)) = some (Sum.inl ()) := by
      refine wh_for (st := M_walks_s51 (nI (26 * i)) t) (fun k => (nI (vsW l g (b + 3) v k), nI k)) j (fun k hk => ?_) ?_ (by omega)
      · rw [stM k (by omega) (lt49 k (by omega)), if_pos (ok k hk)]
      · rw [stM j hj (lt49 j (Nat.le_refl j)), if_neg hjd]
    rw [w1, wbind rfl, w2, wbind rfl, if_neg (by decide)]
    exact ⟨_, rfl, _, rfl, rfl, Or.inl rfl, h⟩
theorem c_block (b : Bool) {f t : Nat} (hf : f < 36) (ht : t < 36) (h : St rg ld mt ps pl pw ss so sq es eo eq gs go gq mrg ms) (hI : TI rg ld mt) : ∃ blk, G_block (nI f) (nI t) = some blk ∧ ∃ q, (if blk = (0:Int64) then (some ((0:Int32), rg, ld)) else (Option.bind (S_become (G_with rg blk (bI b)) rg ld) (fun q7 => some ((1:Int32), q7.1, q7.2)))) = some q ∧ ∃ q', M_fill (nI f) (nI t) (bI b) mrg ms = some q' ∧ (if q'.1 < 0 then (0:Int32) else 1) = q.1 ∧ (q.1 = 0 ∨ q.1 = 1) ∧ St q.2.1 q.2.2 mt ps pl pw ss so sq es eo eq gs go gq q'.2.1 q'.2.2 ∧ TI q.2.1 q.2.2 mt := by
  obtain ⟨blk, e1, _⟩ := block_eq hf ht
  obtain ⟨q, x1, q', m1, m2, hS, hT⟩ := p_fill (nI f) (nI t) (bI b) h hI
  have cf : G_isCell (nI f) = 1 := (by decide : ∀ k, k < 36 → G_isCell (nI k) = 1) f hf
  have ct : G_isCell (nI t) = 1 := (by decide : ∀ k, k < 36 → G_isCell (nI k) = 1) t ht
  have cb : X_isBit (bI b) = 1 := by cases b <;> decide
  have cc : (if bI b = (1:Int32) then (1:Int32) else 0) = bI b := by cases b <;> decide
  unfold X_fill X_fill_j37 at x1
  rw [cf, ct, if_neg (show ¬ (1:Int32) = 0 by decide), if_neg (show ¬ (1:Int32) = 0 by decide), e1, wbind rfl, cb, if_neg (show ¬ (1:Int32) = 0 by decide), cc] at x1
  refine ⟨blk, e1, ?_⟩
  by_cases z : blk = 0
  · rw [if_pos z] at x1 ⊢
    obtain rfl := Option.some.inj x1
    exact ⟨_, rfl, q', m1, by rw [m2]; exact if_pos (show (-2:Int32) < 0 by decide), Or.inl rfl, hS, hT⟩
  · rw [if_neg z, S_become_eq, wbind rfl] at x1
    rw [if_neg z, S_become_eq, wbind rfl]
    obtain rfl := Option.some.inj x1
    refine ⟨_, rfl, q', m1, ?_, Or.inr rfl, hS, hT⟩
    rw [m2]
    dsimp only
    rw [bitCount_eq]
    exact if_neg (nI_pos (by have := cnt_le (b6 (G_with rg blk (bI b))) 64; omega))
end PTH
