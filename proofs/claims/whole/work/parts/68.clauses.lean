/-! CLAUSES on both sides -/
def cfE (X : (Int32 × Int32 × (Nat → Int32)) ⊕ ((Int32 × Int32 × (Nat → Int32)) ⊕ ((Int32 × Int32 × (Nat → Int32)) ⊕ ((Int32 × (Nat → Int32)) ⊕ ((Int32 × Int32 × (Nat → Int32)) ⊕ (Int32 × Int32 × (Nat → Int32))))))) : Option (Int32 × Int32 × (Nat → Int32)) := (Sum.elim (fun w1_0a => some (w1_0a.1, w1_0a.2.1, w1_0a.2.2)) (Sum.elim (fun w1_1a => some (w1_1a.1, w1_1a.2.1, w1_1a.2.2)) (Sum.elim (fun w1_2a => some (w1_2a.1, w1_2a.2.1, w1_2a.2.2)) (Sum.elim (fun w1_3a => some ((-1:Int32), w1_3a.1, w1_3a.2)) (Sum.elim (fun w1_4a => some (w1_4a.1, w1_4a.2.1, w1_4a.2.2)) (fun w1_4b => some (w1_4b.1, w1_4b.2.1, w1_4b.2.2))))))) X
theorem C_fault_E (rsz : Int32) (rsg rst : Nat → Int32) : C_fault rsz rsg rst = Option.bind (wh (C_fault_s9 rsz rsg) FU ((0:Int32), (0:Int32), (0:Int32), rst)) cfE := rfl
/-- a clause that stands there -/
def GC (l : Nat) (g : Nat → Int32) (b : Nat) : Prop := b < l ∧ wqT (sgT l g b) ≤ 4 ∧ C_digitsOf (sgT l g b) = nI (wqT (sgT l g b)) ∧ rdD l g (wqT (sgT l g b)) (b + 1) = wqT (sgT l g b) ∧ (sgT l g b = 119 → wqT (sgT l g b) = 2 ∧ 0 < rdL l g 20 (b + 3))
/-- it is told -/
def TC (l : Nat) (g : Nat → Int32) (t : Nat → Int32) (j b : Nat) : Prop := t (26 * j) = sgT l g b ∧ (∀ k, k < wqT (sgT l g b) → t (26 * j + 1 + k) = dgT (sgT l g (b + 1 + k))) ∧ (sgT l g b = 119 → t (26 * j + 5) = nI (rdL l g 20 (b + 3)) ∧ ∀ k, k < rdL l g 20 (b + 3) → t (26 * j + 6 + k) = wyT (sgT l g (b + 3 + k)))
theorem TC_ext {l : Nat} {g t t' : Nat → Int32} {j b : Nat} (hw : wqT (sgT l g b) ≤ 4) (h : ∀ k, k < 26 * (j + 1) → t' k = t k) (hT : TC l g t j b) : TC l g t' j b := by
  refine ⟨(h _ (by omega)).trans hT.1, fun k hk => (h _ (by omega)).trans (hT.2.1 k hk), fun q => ⟨(h _ (by omega)).trans (hT.2.2 q).1, fun k hk => (h _ ?_).trans ((hT.2.2 q).2 k hk)⟩⟩
  have := lt_le l g 20 (b + 3)
  omega
section CLS
variable {l : Nat} {g g' : Nat → Int32}
theorem s67_ok (h : TX l g g') {a w : Nat} (ha : a ≤ 500) (hw : w ≤ 4) (hd : rdD l g w a = w) : wh (C_fault_s67 (nI w) (nI l) g) FU (nI a, (0:Int32)) = some (Sum.inr (nI (a + w))) := by
  refine wh_for (st := C_fault_s67 (nI w) (nI l) g) (fun k => (nI (a + k), nI k)) w (fun k hk => ?_) ?_ (by omega)
  · unfold C_fault_s67
    dsimp only
    rw [if_neg (nI_ge hk (by omega)), digit_eq h (by omega), wbind rfl]
    rcases dg_ok (sg_ok h (a + k)) with ⟨e, _⟩ | ⟨d, hd9, e, _⟩
    · exact absurd e (dc_in l g w a k (by omega))
    · rw [e, if_pos (nI_pos' (by omega)), nI_1, nI_1]
      rfl
  · unfold C_fault_s67
    dsimp only
    rw [if_pos (nI_le (Nat.le_refl _) (by omega))]
theorem s67_no (h : TX l g g') {a w : Nat} (ha : a ≤ 500) (hw : w ≤ 4) (hd : rdD l g w a < w) : wh (C_fault_s67 (nI w) (nI l) g) FU (nI a, (0:Int32)) = some (Sum.inl (nI (a + rdD l g w a))) := by
  refine wh_for (st := C_fault_s67 (nI w) (nI l) g) (fun k => (nI (a + k), nI k)) (rdD l g w a) (fun k hk => ?_) ?_ (by omega)
  · unfold C_fault_s67
    dsimp only
    rw [if_neg (nI_ge (show k < w by omega) (by omega)), digit_eq h (by omega), wbind rfl]
    rcases dg_ok (sg_ok h (a + k)) with ⟨e, _⟩ | ⟨d, hd9, e, _⟩
    · exact absurd e (dc_in l g w a k (by omega))
    · rw [e, if_pos (nI_pos' (by omega)), nI_1, nI_1]
      rfl
  · unfold C_fault_s67
    dsimp only
    rw [if_neg (nI_ge hd (by omega)), digit_eq h (by omega), wbind rfl, dc_st l g w a hd, if_neg (by decide)]
/-- where a clause ends -/
def enC (l : Nat) (g : Nat → Int32) (a : Nat) : Nat := a + 1 + wqT (sgT l g a) + (if sgT l g a = 119 then rdL l g 20 (a + 3) else 0)
theorem c_bad1 (h : TX l g g') {a i : Nat} (ha : a ≤ 500) (hi : i < 12) (x : Int32) (rst : Nat → Int32) (hd : C_digitsOf (sgT l g a) = -1) : C_fault_s9 (nI l) g (nI a, nI i, x, rst) = some (Sum.inr (Sum.inl (nI a, x, rst))) := by
  unfold C_fault_s9
  dsimp only
  rw [if_neg (show ¬ (12:Int32) ≤ nI i from nI_ge (a := i) (b := 12) hi (by decide)), sign_eq h (by omega), wbind rfl, hd, if_neg (by decide)]
theorem c_bad2 (h : TX l g g') {a i : Nat} (ha : a ≤ 400) (hi : i < 12) (x : Int32) (rst : Nat → Int32) (hw : wqT (sgT l g a) ≤ 4) (hd : C_digitsOf (sgT l g a) = nI (wqT (sgT l g a))) (hc : rdD l g (wqT (sgT l g a)) (a + 1) < wqT (sgT l g a)) : C_fault_s9 (nI l) g (nI a, nI i, x, rst) = some (Sum.inr (Sum.inr (Sum.inl (nI (a + 1 + rdD l g (wqT (sgT l g a)) (a + 1)), nI (i + 1), upd rst i (nI a))))) := by
  unfold C_fault_s9
  dsimp only
  rw [if_neg (show ¬ (12:Int32) ≤ nI i from nI_ge (a := i) (b := 12) hi (by decide)), sign_eq h (by omega), wbind rfl, hd, if_pos (nI_pos' (by omega)), grd_t (gi_nI hi (by decide)), wbind rfl, nI_1, s67_no h (by omega) hw hc, wbind rfl, nI_1, nI_clamp (by omega)]
  rfl
theorem c_bad3 (h : TX l g g') {a i : Nat} (ha : a ≤ 400) (hi : i < 12) (x : Int32) (rst : Nat → Int32) (hw : wqT (sgT l g a) = 2) (hd : C_digitsOf (sgT l g a) = nI (wqT (sgT l g a))) (hc : rdD l g (wqT (sgT l g a)) (a + 1) = wqT (sgT l g a)) (hs : sgT l g a = 119) (hl : rdL l g 20 (a + 3) = 0) : C_fault_s9 (nI l) g (nI a, nI i, x, rst) = some (Sum.inr (Sum.inr (Sum.inr (Sum.inl (nI (a + 3), nI (i + 1), upd rst i (nI a)))))) := by
  unfold C_fault_s9
  dsimp only
  rw [if_neg (show ¬ (12:Int32) ≤ nI i from nI_ge (a := i) (b := 12) hi (by decide)), sign_eq h (by omega), wbind rfl, hd, if_pos (nI_pos' (by omega)), grd_t (gi_nI hi (by decide)), wbind rfl, nI_1, s67_ok h (by omega) (by omega) hc, wbind rfl, hs, nI_1, nI_clamp (by omega)]
  dsimp only [Sum.elim]
  rw [if_neg (by decide)]
  rw [hs] at hw
  rw [hw, show a + 1 + 2 = a + 3 by omega, letters_eq h (by omega), wbind rfl, hl, if_pos (show nI 0 = 0 from rfl)]
theorem c_good (h : TX l g g') {a i : Nat} (ha : a ≤ 400) (hi : i < 12) (x : Int32) (rst : Nat → Int32) (hG : GC l g a) : C_fault_s9 (nI l) g (nI a, nI i, x, rst) = C_fault_j123 (nI i) (nI (enC l g a)) (nI (i + 1)) (upd rst i (nI a)) (nI l) g := by
  obtain ⟨g1, g2, g3, g4, g5⟩ := hG
  unfold C_fault_s9
  dsimp only
  rw [if_neg (show ¬ (12:Int32) ≤ nI i from nI_ge (a := i) (b := 12) hi (by decide)), sign_eq h (by omega), wbind rfl, g3, if_pos (nI_pos' (by omega)), grd_t (gi_nI hi (by decide)), wbind rfl, nI_1, s67_ok h (by omega) g2 g4, wbind rfl, nI_1, nI_clamp (by omega)]
  dsimp only [Sum.elim]
  unfold C_fault_j107 enC
  by_cases hs : sgT l g a = 119
  · obtain ⟨w2, lp⟩ := g5 hs
    have n20 := lt_le l g 20 (a + 3)
    rw [if_pos hs, if_pos hs, if_neg (show ¬ (1:Int32) = 0 by decide), w2, show a + 1 + 2 = a + 3 by omega, letters_eq h (by omega), wbind rfl, if_neg (nI_ne0 lp (by omega)), if_neg (show ¬ (1:Int32) = 0 by decide), wbind rfl, nI_add]
  · rw [if_neg hs, if_neg hs, if_pos rfl, if_pos rfl]
    rfl
theorem en_l (h : TX l g g') {a : Nat} (hG : GC l g a) : enC l g a ≤ l ∧ a < enC l g a := by
  obtain ⟨g1, g2, g3, g4, g5⟩ := hG
  have d := dc_l (l := l) (g := g) (n := wqT (sgT l g a)) (a := a + 1) (by omega)
  rw [g4] at d
  unfold enC
  by_cases hs : sgT l g a = 119
  · obtain ⟨w2, lp⟩ := g5 hs
    rw [if_pos hs]
    rw [w2] at d ⊢
    have := lt_l (l := l) (g := g) (n := 20) (a := a + 3) (by omega)
    omega
  · rw [if_neg hs]
    omega
/-- how a fault shows on the other side -/
def MR (l f : Nat) (w : Int32 × Int32 × Int32 × (Nat → Int32)) : Prop := w.2.2.1 = nI f ∨ (w.2.2.1 = -1 ∧ w.2.1 = nI f ∧ f < l)
theorem m_head (h : TX l g g') {a i : Nat} (ha : a ≤ 400) (hi : i < 12) (t : Nat → Int32) : M_clauses_s4 (nI l) g' (nI i, 1, nI a, -1, t) = if M_isLetter (sgT l g a) = 0 then M_clauses_j50 (nI i) (nI (26 * i)) (nI a) (nI a) (upd t (26 * i) (sgT l g a)) (nI l) g' else M_clauses_j50 (nI i) (nI (26 * i)) (nI (a + 1)) (-1) (upd t (26 * i) (sgT l g a)) (nI l) g' := by
  unfold M_clauses_s4 M_fails M_fails_j16
  dsimp only
  rw [if_neg (show ¬ (1:Int32) = 0 by decide), here_eq h (by omega), wbind rfl, show (26:Int32) * nI i = nI (26 * i) from pk_mul 26 i, grd_t (gi_nI (by omega) (by decide)), wbind rfl, nI_clamp (by omega), if_pos rfl, wbind rfl, nI_1]
theorem m_bad1 (h : TX l g g') {a i : Nat} (ha : a ≤ 400) (hi : i < 12) (t : Nat → Int32) (hd : C_digitsOf (sgT l g a) = -1) : ∃ t', M_clauses_s4 (nI l) g' (nI i, 1, nI a, -1, t) = some (Sum.inl (nI (i + 1), 0, nI a, nI a, t')) := by
  rcases lt_ok (sg_ok h a) with ⟨e1, e2, e3, e4⟩ | ⟨e1, e2, e3, e4, e5⟩
  · rw [m_head h ha hi, e2, if_pos rfl]
    unfold M_clauses_j50 M_clauses_j104 M_clauses_j134 M_clauses_j135
    have w1 : wh (M_clauses_s53 (nI (26 * i)) (nI l) g') FU ((0:Int32), nI a, nI a, upd t (26 * i) (sgT l g a)) = some (nI a, nI a, upd t (26 * i) (sgT l g a)) := by
      have hF : FU = (FU - 1) + 1 := by have := FU_big; omega
      rw [hF]
      refine wh_inr ?_
      unfold M_clauses_s53
      dsimp only
      rw [grd_t (gi_nI (by omega) (by decide)), nI_clamp (by omega), if_pos (show M_wants (upd t (26 * i) (sgT l g a) (26 * i)) ≤ 0 by rw [upd_eq, e3]; decide)]
    rw [w1, wbind rfl, grd_t (gi_nI (by omega) (by decide))]
    dsimp only
    rw [nI_clamp (by omega), if_neg (show ¬ upd t (26 * i) (sgT l g a) (26 * i) = 119 by rw [upd_eq]; exact e4), if_neg (nI_ne_m1 a (by omega)), nI_1]
    rw [if_pos rfl, Int32.add_zero]
    exact ⟨_, rfl⟩
  · rw [e2] at hd
    exact absurd hd (nI_ne_m1 _ (by omega))
theorem j104_f {v : Nat} {x y : Int32} (hy : ¬ y = -1) (t : Nat → Int32) : M_clauses_j104 (nI v) x y t (nI l) g' = some (Sum.inl (nI (v + 1), 0, x, y, t)) := by
  unfold M_clauses_j104 M_clauses_j134 M_clauses_j135
  rw [if_neg hy, nI_1, if_pos rfl, Int32.add_zero]
theorem m_bad2 (h : TX l g g') {a i : Nat} (ha : a ≤ 400) (hi : i < 12) (t : Nat → Int32) (hw : wqT (sgT l g a) ≤ 4) (hL : M_isLetter (sgT l g a) = 1) (hW : M_wants (sgT l g a) = nI (wqT (sgT l g a))) (hc : rdD l g (wqT (sgT l g a)) (a + 1) < wqT (sgT l g a)) : ∃ t', M_clauses_s4 (nI l) g' (nI i, 1, nI a, -1, t) = some (Sum.inl (nI (i + 1), 0, nI (a + 1 + rdD l g (wqT (sgT l g a)) (a + 1)), nI (a + 1 + rdD l g (wqT (sgT l g a)) (a + 1)), t')) := by
  rw [m_head h ha hi, hL, if_neg (show ¬ (1:Int32) = 0 by decide)]
  obtain ⟨t1, w1, w2⟩ := m53_no h (c := 26 * i) (a := a + 1) (w := wqT (sgT l g a)) (by omega) (by omega) hw (t := upd t (26 * i) (sgT l g a)) (by rw [upd_eq]; exact hW) hc
  have hn := dc_le l g (wqT (sgT l g a)) (a + 1)
  unfold M_clauses_j50
  rw [w1, wbind rfl, grd_t (gi_nI (by omega) (by decide))]
  dsimp only
  have w3 : t1 (26 * i) = sgT l g a := w2.trans (upd_eq _ _ _)
  rw [nI_clamp (by omega)]
  by_cases hs : sgT l g a = 119
  · rw [if_pos (w3.trans hs)]
    obtain ⟨t2, e2⟩ := mways_f (l := l) (g' := g') (c := 26 * i) (a := a + 1 + rdD l g (wqT (sgT l g a)) (a + 1)) (y := nI (a + 1 + rdD l g (wqT (sgT l g a)) (a + 1))) (by omega) (nI_ne_m1 _ (by omega)) t1
    rw [e2, wbind rfl, j104_f (nI_ne_m1 _ (by omega))]
    exact ⟨_, rfl⟩
  · rw [if_neg (fun q => hs (w3.symm.trans q)), j104_f (nI_ne_m1 _ (by omega))]
    exact ⟨_, rfl⟩
theorem m_bad3 (h : TX l g g') {a i : Nat} (ha : a ≤ 400) (hi : i < 12) (t : Nat → Int32) (hw : wqT (sgT l g a) = 2) (hL : M_isLetter (sgT l g a) = 1) (hW : M_wants (sgT l g a) = nI (wqT (sgT l g a))) (hc : rdD l g (wqT (sgT l g a)) (a + 1) = wqT (sgT l g a)) (hs : sgT l g a = 119) (hl : rdL l g 20 (a + 3) = 0) : ∃ t', M_clauses_s4 (nI l) g' (nI i, 1, nI a, -1, t) = some (Sum.inl (nI (i + 1), 0, nI (a + 3), nI (a + 3), t')) := by
  rw [m_head h ha hi, hL, if_neg (show ¬ (1:Int32) = 0 by decide)]
  have w1 := m53_ok h (c := 26 * i) (a := a + 1) (w := wqT (sgT l g a)) (by omega) (by omega) (by omega) (t := upd t (26 * i) (sgT l g a)) (by rw [upd_eq]; exact hW) hc
  unfold M_clauses_j50
  rw [w1, wbind rfl, grd_t (gi_nI (by omega) (by decide))]
  dsimp only
  have tc : tdT l g (26 * i) (a + 1) (upd t (26 * i) (sgT l g a)) (wqT (sgT l g a)) (26 * i) = sgT l g a := by
    unfold tdT
    rw [if_neg (by omega), upd_eq]
  rw [nI_clamp (by omega), if_pos (tc.trans hs), show a + 1 + wqT (sgT l g a) = a + 3 by omega, mways_y h (by omega) (by omega), wbind rfl, hl, if_pos rfl, Nat.add_zero, j104_f (nI_ne_m1 _ (by omega))]
  exact ⟨_, rfl⟩
theorem m_good (h : TX l g g') {a i : Nat} (ha : a ≤ 400) (hi : i < 12) (t : Nat → Int32) (hL : M_isLetter (sgT l g a) = 1) (hW : M_wants (sgT l g a) = nI (wqT (sgT l g a))) (hG : GC l g a) : ∃ t', M_clauses_s4 (nI l) g' (nI i, 1, nI a, -1, t) = some (Sum.inl (nI (i + 1), (if sgT l g (enC l g a) = 59 ∧ i + 1 < 12 then 1 else 0), nI (enC l g a + (if sgT l g (enC l g a) = 59 ∧ i + 1 < 12 then 1 else 0)), -1, t')) ∧ TC l g t' i a ∧ ∀ j, j < 26 * i → t' j = t j := by
  obtain ⟨el, ea⟩ := en_l h hG
  have hl100 := h.1
  obtain ⟨g1, g2, g3, g4, g5⟩ := hG
  have tail : ∀ t2, M_clauses_j104 (nI i) (nI (enC l g a)) (-1) t2 (nI l) g' = some (Sum.inl (nI (i + 1), (if sgT l g (enC l g a) = 59 ∧ i + 1 < 12 then 1 else 0), nI (enC l g a + (if sgT l g (enC l g a) = 59 ∧ i + 1 < 12 then 1 else 0)), -1, t2)) := fun t2 => by
    unfold M_clauses_j104
    rw [if_pos rfl, here_eq h (by omega), wbind rfl, nI_1]
    by_cases q1 : sgT l g (enC l g a) = 59
    · by_cases q2 : i + 1 < 12
      · have P : sgT l g (enC l g a) = 59 ∧ i + 1 < 12 := ⟨q1, q2⟩
        rw [if_pos q1, if_neg (show ¬ (12:Int32) ≤ nI (i + 1) from nI_ge (a := i + 1) (b := 12) q2 (by decide)), if_neg (show ¬ (1:Int32) = 0 by decide), if_pos P, if_pos P, nI_1]
      · have P : ¬ (sgT l g (enC l g a) = 59 ∧ i + 1 < 12) := fun q => q2 q.2
        rw [if_pos q1, if_pos (show (12:Int32) ≤ nI (i + 1) from nI_le (a := 12) (b := i + 1) (by omega) (by omega)), if_pos (show (0:Int32) = 0 from rfl), if_neg P, if_neg P, Int32.add_zero, Nat.add_zero (enC l g a)]
    · have P : ¬ (sgT l g (enC l g a) = 59 ∧ i + 1 < 12) := fun q => q1 q.1
      rw [if_neg q1, if_pos (show (0:Int32) = 0 from rfl), if_neg P, if_neg P, Int32.add_zero, Nat.add_zero (enC l g a)]
  rw [m_head h ha hi, hL, if_neg (show ¬ (1:Int32) = 0 by decide)]
  have w1 := m53_ok h (c := 26 * i) (a := a + 1) (w := wqT (sgT l g a)) (by omega) (by omega) (by omega) (t := upd t (26 * i) (sgT l g a)) (by rw [upd_eq]; exact hW) g4
  unfold M_clauses_j50
  rw [w1, wbind rfl, grd_t (gi_nI (by omega) (by decide))]
  dsimp only
  have tc : tdT l g (26 * i) (a + 1) (upd t (26 * i) (sgT l g a)) (wqT (sgT l g a)) (26 * i) = sgT l g a := by
    unfold tdT
    rw [if_neg (by omega), upd_eq]
  have td : ∀ k, k < wqT (sgT l g a) → tdT l g (26 * i) (a + 1) (upd t (26 * i) (sgT l g a)) (wqT (sgT l g a)) (26 * i + 1 + k) = dgT (sgT l g (a + 1 + k)) := fun k hk => by
    unfold tdT
    rw [if_pos (by omega), show 26 * i + 1 + k - (26 * i + 1) = k by omega]
  have tl : ∀ j, j < 26 * i → tdT l g (26 * i) (a + 1) (upd t (26 * i) (sgT l g a)) (wqT (sgT l g a)) j = t j := fun j hj => by
    unfold tdT
    rw [if_neg (by omega), upd_ne _ _ (by omega)]
  rw [nI_clamp (by omega)]
  by_cases hs : sgT l g a = 119
  · obtain ⟨w2, lp⟩ := g5 hs
    have n20 := lt_le l g 20 (a + 3)
    have ee : enC l g a = a + 3 + rdL l g 20 (a + 3) := by
      unfold enC
      rw [if_pos hs]
      omega
    rw [if_pos (tc.trans hs), show a + 1 + wqT (sgT l g a) = a + 3 by omega, mways_y h (by omega) (by omega), wbind rfl]
    dsimp only
    rw [if_neg (show ¬ rdL l g 20 (a + 3) = 0 by omega), ← ee, tail]
    refine ⟨_, rfl, ⟨?_, fun k hk => ?_, fun _ => ⟨upd_eq _ _ _, fun k hk => ?_⟩⟩, fun j hj => ?_⟩
    · rw [upd_ne _ _ (by omega)]
      unfold twT
      rw [if_neg (by omega), tc]
    · rw [upd_ne _ _ (by omega)]
      unfold twT
      rw [if_neg (by omega), td k hk]
    · rw [upd_ne _ _ (by omega)]
      unfold twT
      rw [if_pos (by omega), show 26 * i + 6 + k - (26 * i + 6) = k by omega]
    · rw [upd_ne _ _ (by omega)]
      unfold twT
      rw [if_neg (by omega), tl j hj]
  · have ee : enC l g a = a + 1 + wqT (sgT l g a) := by
      unfold enC
      rw [if_neg hs, Nat.add_zero]
    rw [if_neg (fun q => hs (tc.symm.trans q)), ← ee, tail]
    exact ⟨_, rfl, ⟨tc, td, fun q => absurd q hs⟩, tl⟩
theorem m_end {n : Int32} {p y : Int32} {t : Nat → Int32} {F : Nat} : wh (M_clauses_s4 (nI l) g') (F + 1) (n, 0, p, y, t) = some (n, p, y, t) := by
  refine wh_inr ?_
  unfold M_clauses_s4
  dsimp only
  rw [if_pos rfl]
theorem parse_both (h : TX l g g') : ∀ (m i a : Nat) (rst t : Nat → Int32) (F1 F2 : Nat), i + (m + 1) = 12 → a ≤ l → m + 1 < F1 → m + 2 < F2 → ∃ X w, wh (C_fault_s9 (nI l) g) F1 (nI a, nI i, nI i, rst) = some X ∧ wh (M_clauses_s4 (nI l) g') F2 (nI i, 1, nI a, -1, t) = some w ∧ ((∃ f n st, f ≤ l ∧ cfE X = some (nI f, n, st) ∧ MR l f w) ∨ (∃ n st, i < n ∧ n ≤ 12 ∧ cfE X = some (-1, nI n, st) ∧ w.1 = nI n ∧ w.2.1 = nI l ∧ w.2.2.1 = -1 ∧ (∀ j, j < i → st j = rst j) ∧ (∀ j, j < 26 * i → w.2.2.2 j = t j) ∧ ∀ j, i ≤ j → j < n → ∃ b, st j = nI b ∧ GC l g b ∧ TC l g w.2.2.2 j b)) := by
  have hl := h.1
  intro m
  induction m with
  | zero =>
    intro i a rst t F1 F2 hi ha h1 h2
    obtain ⟨E1, rfl⟩ : ∃ E1, F1 = E1 + 1 := ⟨F1 - 1, by omega⟩
    obtain ⟨E2, rfl⟩ : ∃ E2, F2 = E2 + 1 + 1 := ⟨F2 - 2, by omega⟩
    rcases lt_ok (sg_ok h a) with ⟨e1, _⟩ | ⟨e1, e2, e3, e4, e5⟩
    · obtain ⟨t', et⟩ := m_bad1 h (i := i) (by omega) (by omega) t e1
      refine ⟨_, (nI (i + 1), nI a, nI a, t'), wh_inr (c_bad1 h (by omega) (by omega) (nI i) rst e1), ?_, Or.inl ⟨a, nI i, rst, ha, rfl, Or.inl rfl⟩⟩
      rw [wh_inl et]
      exact m_end
    · have ea : a < l := sg_lt (l := l) (g := g) (fun q => by rw [q] at e2; exact absurd e2 (by decide))
      rcases Nat.lt_or_ge (rdD l g (wqT (sgT l g a)) (a + 1)) (wqT (sgT l g a)) with d | d
      · obtain ⟨t', et⟩ := m_bad2 h (i := i) (by omega) (by omega) t e1 e3 e4 d
        refine ⟨_, (nI (i + 1), nI (a + 1 + rdD l g (wqT (sgT l g a)) (a + 1)), nI (a + 1 + rdD l g (wqT (sgT l g a)) (a + 1)), t'), wh_inr (c_bad2 h (by omega) (by omega) (nI i) rst e1 e2 d), ?_, Or.inl ⟨_, _, _, dc_l (by omega), rfl, Or.inl rfl⟩⟩
        rw [wh_inl et]
        exact m_end
      · have d' : rdD l g (wqT (sgT l g a)) (a + 1) = wqT (sgT l g a) := by
          have := dc_le l g (wqT (sgT l g a)) (a + 1)
          omega
        by_cases b3 : sgT l g a = 119 ∧ rdL l g 20 (a + 3) = 0
        · obtain ⟨t', et⟩ := m_bad3 h (i := i) (by omega) (by omega) t (e5 b3.1) e3 e4 d' b3.1 b3.2
          have dl := dc_l (l := l) (g := g) (n := wqT (sgT l g a)) (a := a + 1) (by omega)
          rw [d', e5 b3.1] at dl
          refine ⟨_, (nI (i + 1), nI (a + 3), nI (a + 3), t'), wh_inr (c_bad3 h (by omega) (by omega) (nI i) rst (e5 b3.1) e2 d' b3.1 b3.2), ?_, Or.inl ⟨a + 3, _, _, by omega, rfl, Or.inl rfl⟩⟩
          rw [wh_inl et]
          exact m_end
        · have hG : GC l g a := ⟨ea, e1, e2, d', fun q => ⟨e5 q, Nat.pos_of_ne_zero fun z => b3 ⟨q, z⟩⟩⟩
          obtain ⟨el, ea2⟩ := en_l h hG
          obtain ⟨t', et, eT, eL⟩ := m_good h (i := i) (by omega) (by omega) t e3 e4 hG
          rw [if_neg (fun q => absurd q.2 (by omega)), if_neg (fun q => absurd q.2 (by omega)), Nat.add_zero] at et
          have cg := c_good h (i := i) (by omega) (by omega) (nI i) rst hG
          by_cases q : enC l g a = l
          · refine ⟨Sum.inr (Sum.inr (Sum.inr (Sum.inl (nI (i + 1), upd rst i (nI a))))), (nI (i + 1), nI (enC l g a), -1, t'), wh_inr (cg.trans ?_), ?_, Or.inr ⟨i + 1, upd rst i (nI a), by omega, by omega, rfl, rfl, ?_, rfl, fun j hj => upd_ne _ _ (by omega), eL, fun j j1 j2 => ?_⟩⟩
            · unfold C_fault_j123
              rw [q, if_pos rfl]
            · rw [wh_inl et]
              exact m_end
            · show nI (enC l g a) = nI l
              rw [q]
            · have e : j = i := by omega
              subst e
              exact ⟨a, upd_eq _ _ _, hG, eT⟩
          · refine ⟨Sum.inr (Sum.inr (Sum.inr (Sum.inr (Sum.inl (nI (enC l g a), nI (i + 1), upd rst i (nI a)))))), (nI (i + 1), nI (enC l g a), -1, t'), wh_inr (cg.trans ?_), ?_, Or.inl ⟨enC l g a, _, _, el, rfl, Or.inr ⟨rfl, rfl, by omega⟩⟩⟩
            · unfold C_fault_j123
              rw [if_neg (fun r => q ((nI_eq (by omega) (by omega)).mp r)), sign_eq h (by omega), wbind rfl]
              by_cases r : sgT l g (enC l g a) = 59
              · rw [if_pos r, if_pos (show nI (i + 1) = 12 by rw [show i + 1 = 12 by omega]; rfl)]
              · rw [if_neg r]
            · rw [wh_inl et]
              exact m_end
  | succ m ih =>
    intro i a rst t F1 F2 hi ha h1 h2
    obtain ⟨E1, rfl⟩ : ∃ E1, F1 = E1 + 1 := ⟨F1 - 1, by omega⟩
    obtain ⟨E2, rfl⟩ : ∃ E2, F2 = E2 + 1 + 1 := ⟨F2 - 2, by omega⟩
    rcases lt_ok (sg_ok h a) with ⟨e1, _⟩ | ⟨e1, e2, e3, e4, e5⟩
    · obtain ⟨t', et⟩ := m_bad1 h (i := i) (by omega) (by omega) t e1
      refine ⟨_, (nI (i + 1), nI a, nI a, t'), wh_inr (c_bad1 h (by omega) (by omega) (nI i) rst e1), ?_, Or.inl ⟨a, nI i, rst, ha, rfl, Or.inl rfl⟩⟩
      rw [wh_inl et]
      exact m_end
    · have ea : a < l := sg_lt (l := l) (g := g) (fun q => by rw [q] at e2; exact absurd e2 (by decide))
      rcases Nat.lt_or_ge (rdD l g (wqT (sgT l g a)) (a + 1)) (wqT (sgT l g a)) with d | d
      · obtain ⟨t', et⟩ := m_bad2 h (i := i) (by omega) (by omega) t e1 e3 e4 d
        refine ⟨_, (nI (i + 1), nI (a + 1 + rdD l g (wqT (sgT l g a)) (a + 1)), nI (a + 1 + rdD l g (wqT (sgT l g a)) (a + 1)), t'), wh_inr (c_bad2 h (by omega) (by omega) (nI i) rst e1 e2 d), ?_, Or.inl ⟨_, _, _, dc_l (by omega), rfl, Or.inl rfl⟩⟩
        rw [wh_inl et]
        exact m_end
      · have d' : rdD l g (wqT (sgT l g a)) (a + 1) = wqT (sgT l g a) := by
          have := dc_le l g (wqT (sgT l g a)) (a + 1)
          omega
        by_cases b3 : sgT l g a = 119 ∧ rdL l g 20 (a + 3) = 0
        · obtain ⟨t', et⟩ := m_bad3 h (i := i) (by omega) (by omega) t (e5 b3.1) e3 e4 d' b3.1 b3.2
          have dl := dc_l (l := l) (g := g) (n := wqT (sgT l g a)) (a := a + 1) (by omega)
          rw [d', e5 b3.1] at dl
          refine ⟨_, (nI (i + 1), nI (a + 3), nI (a + 3), t'), wh_inr (c_bad3 h (by omega) (by omega) (nI i) rst (e5 b3.1) e2 d' b3.1 b3.2), ?_, Or.inl ⟨a + 3, _, _, by omega, rfl, Or.inl rfl⟩⟩
          rw [wh_inl et]
          exact m_end
        · have hG : GC l g a := ⟨ea, e1, e2, d', fun q => ⟨e5 q, Nat.pos_of_ne_zero fun z => b3 ⟨q, z⟩⟩⟩
          obtain ⟨el, ea2⟩ := en_l h hG
          obtain ⟨t', et, eT, eL⟩ := m_good h (i := i) (by omega) (by omega) t e3 e4 hG
          have cg := c_good h (i := i) (by omega) (by omega) (nI i) rst hG
          by_cases q : enC l g a = l
          · have s59 : ¬ (sgT l g (enC l g a) = 59 ∧ i + 1 < 12) := fun r => by
              have : sgT l g (enC l g a) = -1 := by
                unfold sgT
                rw [if_neg (by omega)]
              rw [this] at r
              exact absurd r.1 (by decide)
            rw [if_neg s59, if_neg s59, Nat.add_zero] at et
            refine ⟨Sum.inr (Sum.inr (Sum.inr (Sum.inl (nI (i + 1), upd rst i (nI a))))), (nI (i + 1), nI (enC l g a), -1, t'), wh_inr (cg.trans ?_), ?_, Or.inr ⟨i + 1, upd rst i (nI a), by omega, by omega, rfl, rfl, ?_, rfl, fun j hj => upd_ne _ _ (by omega), eL, fun j j1 j2 => ?_⟩⟩
            · unfold C_fault_j123
              rw [q, if_pos rfl]
            · rw [wh_inl et]
              exact m_end
            · show nI (enC l g a) = nI l
              rw [q]
            · have e : j = i := by omega
              subst e
              exact ⟨a, upd_eq _ _ _, hG, eT⟩
          · by_cases r : sgT l g (enC l g a) = 59
            · rw [if_pos ⟨r, by omega⟩, if_pos ⟨r, by omega⟩] at et
              obtain ⟨X, w, x1, x2, x3⟩ := ih (i + 1) (enC l g a + 1) (upd rst i (nI a)) t' E1 (E2 + 1) (by omega) (by omega) (by omega) (by omega)
              refine ⟨X, w, ?_, ?_, ?_⟩
              · rw [wh_inl (cg.trans (?_ : _ = some (Sum.inl (nI (enC l g a + 1), nI (i + 1), nI (i + 1), upd rst i (nI a)))))]
                · exact x1
                · unfold C_fault_j123
                  rw [if_neg (fun r => q ((nI_eq (by omega) (by omega)).mp r)), sign_eq h (by omega), wbind rfl, if_pos r, if_neg (show ¬ nI (i + 1) = 12 from fun z => absurd ((nI_eq (a := i + 1) (b := 12) (by omega) (by decide)).mp z) (by omega)), nI_1, nI_1]
              · rw [wh_inl et]
                exact x2
              · rcases x3 with ⟨f, n, st, f1, f2, f3⟩ | ⟨n, st, n1, n2, n3, n4, n5, n6, n7, n8, n9⟩
                · exact Or.inl ⟨f, n, st, f1, f2, f3⟩
                · refine Or.inr ⟨n, st, by omega, n2, n3, n4, n5, n6, fun j hj => (n7 j (by omega)).trans (upd_ne _ _ (by omega)), fun j hj => (n8 j (by omega)).trans (eL j hj), fun j j1 j2 => ?_⟩
                  by_cases e : j = i
                  · subst e
                    exact ⟨a, (n7 j (by omega)).trans (upd_eq _ _ _), hG, TC_ext e1 n8 eT⟩
                  · exact n9 j (by omega) j2
            · have s59 : ¬ (sgT l g (enC l g a) = 59 ∧ i + 1 < 12) := fun z => r z.1
              rw [if_neg s59, if_neg s59, Nat.add_zero] at et
              refine ⟨Sum.inr (Sum.inr (Sum.inr (Sum.inr (Sum.inl (nI (enC l g a), nI (i + 1), upd rst i (nI a)))))), (nI (i + 1), nI (enC l g a), -1, t'), wh_inr (cg.trans ?_), ?_, Or.inl ⟨enC l g a, _, _, el, rfl, Or.inr ⟨rfl, rfl, by omega⟩⟩⟩
              · unfold C_fault_j123
                rw [if_neg (fun r => q ((nI_eq (by omega) (by omega)).mp r)), sign_eq h (by omega), wbind rfl, if_neg r]
              · rw [wh_inl et]
                exact m_end
theorem parse_eq (h : TX l g g') (rst tto : Nat → Int32) : ∃ F n st, C_fault (nI l) g rst = some (F, n, st) ∧ ∃ q, M_clauses (nI l) 0 (-1) g' tto = some q ∧ q.2.2.1 = F ∧ ((∃ f, f ≤ l ∧ F = nI f) ∨ (F = -1 ∧ ∃ m, m ≤ 12 ∧ n = nI m ∧ q.1 = nI m ∧ ∀ j, j < m → ∃ b, st j = nI b ∧ GC l g b ∧ TC l g q.2.2.2 j b)) := by
  have hl := h.1
  obtain ⟨X, w, x1, x2, x3⟩ := parse_both h 11 0 0 rst tto FU FU rfl (Nat.zero_le _) (by have := FU_big; omega) (by have := FU_big; omega)
  have x1 : wh (C_fault_s9 (nI l) g) FU ((0:Int32), (0:Int32), (0:Int32), rst) = some X := x1
  have x2 : wh (M_clauses_s4 (nI l) g') FU ((0:Int32), (1:Int32), (0:Int32), (-1:Int32), tto) = some w := x2
  rw [C_fault_E, x1, wbind rfl]
  unfold M_clauses M_clauses_j172 M_fails M_fails_j16
  rw [x2, wbind rfl]
  rcases x3 with ⟨f, n, st, f1, f2, f3⟩ | ⟨n, st, n1, n2, n3, n4, n5, n6, n7, n8, n9⟩
  · refine ⟨nI f, n, st, f2, ?_⟩
    rcases f3 with f3 | ⟨f3, f4, f5⟩
    · have ne : ¬ w.2.2.1 = -1 := by rw [f3]; exact nI_ne_m1 f (by omega)
      by_cases c : nI l ≤ w.2.1
      · rw [if_pos c]
        exact ⟨_, rfl, f3, Or.inl ⟨f, f1, rfl⟩⟩
      · rw [if_neg c, if_neg ne, wbind rfl]
        exact ⟨_, rfl, f3, Or.inl ⟨f, f1, rfl⟩⟩
    · rw [if_neg (by rw [f4]; exact nI_ge f5 (by omega)), if_pos f3, wbind rfl]
      exact ⟨_, rfl, f4, Or.inl ⟨f, f1, rfl⟩⟩
  · refine ⟨-1, nI n, st, n3, ?_⟩
    rw [if_pos (by rw [n5]; exact nI_le (Nat.le_refl _) (by omega))]
    exact ⟨_, rfl, n6, Or.inr ⟨rfl, n, n2, rfl, n4, fun j hj => n9 j (Nat.zero_le _) hj⟩⟩
end CLS
