/-! THE TEXT, read by both sides -/
def rdS (x : Int32) : Prop := x = -1 ∨ ∃ c, c < 128 ∧ x = nI c
def sgT (l : Nat) (g : Nat → Int32) (a : Nat) : Int32 := if a < l then g a else -1
def dgT (x : Int32) : Int32 := if x < (48:Int32) then (-1:Int32) else (if (57:Int32) < x then (-1:Int32) else (x - (48:Int32)))
def wyT (x : Int32) : Int32 := if x = (100:Int32) then 1 else if x = (108:Int32) then 2 else if x = (114:Int32) then 0 else if x = (117:Int32) then 3 else -1
def wqT (x : Int32) : Nat := (C_digitsOf x).toNatClampNeg
theorem dg_c : ∀ c, c < 128 → if 48 ≤ c ∧ c ≤ 57 then dgT (nI c) = nI (c - 48) ∧ M_isIn (nI c) 48 57 = 1 ∧ nI c - 48 = nI (c - 48) else dgT (nI c) = -1 ∧ M_isIn (nI c) 48 57 = 0 := by decide +kernel
theorem dg_ok {x : Int32} (h : rdS x) : (dgT x = -1 ∧ M_isIn x 48 57 = 0) ∨ ∃ d, d ≤ 9 ∧ dgT x = nI d ∧ M_isIn x 48 57 = 1 ∧ x - 48 = nI d := by
  rcases h with e | ⟨c, hc, e⟩
  · subst e
    exact Or.inl (by decide)
  · subst e
    have t := dg_c c hc
    by_cases q : 48 ≤ c ∧ c ≤ 57
    · rw [if_pos q] at t
      exact Or.inr ⟨c - 48, by omega, t⟩
    · rw [if_neg q] at t
      exact Or.inl t
theorem dg_neg {x : Int32} (h : rdS x) : dgT x < 0 ↔ dgT x = -1 := by
  rcases dg_ok h with ⟨e, _⟩ | ⟨d, hd, e, _⟩
  · rw [e]
    exact ⟨fun _ => rfl, fun _ => by decide⟩
  · rw [e]
    exact ⟨fun q => absurd q (nI_pos (by omega)), fun q => absurd q (nI_ne_m1 d (by omega))⟩
theorem wy_ok (x : Int32) : wyT x = -1 ∨ ∃ k, k < 4 ∧ wyT x = nI k := by
  unfold wyT
  (repeat' split) <;> first | exact Or.inl rfl | exact Or.inr ⟨0, by decide, rfl⟩ | exact Or.inr ⟨1, by decide, rfl⟩ | exact Or.inr ⟨2, by decide, rfl⟩ | exact Or.inr ⟨3, by decide, rfl⟩
theorem wy_neg (x : Int32) : wyT x < 0 ↔ wyT x = -1 := by
  rcases wy_ok x with e | ⟨d, hd, e⟩
  · rw [e]
    exact ⟨fun _ => rfl, fun _ => by decide⟩
  · rw [e]
    exact ⟨fun q => absurd q (nI_pos (by omega)), fun q => absurd q (nI_ne_m1 d (by omega))⟩
theorem lt_c : ∀ c, c < 128 → (C_digitsOf (nI c) = -1 ∧ M_isLetter (nI c) = 0 ∧ M_wants (nI c) = 0 ∧ ¬ nI c = 119) ∨ (wqT (nI c) ≤ 4 ∧ C_digitsOf (nI c) = nI (wqT (nI c)) ∧ M_isLetter (nI c) = 1 ∧ M_wants (nI c) = nI (wqT (nI c)) ∧ (nI c = 119 → wqT (nI c) = 2)) := by decide +kernel
theorem lt_ok {x : Int32} (h : rdS x) : (C_digitsOf x = -1 ∧ M_isLetter x = 0 ∧ M_wants x = 0 ∧ ¬ x = 119) ∨ (wqT x ≤ 4 ∧ C_digitsOf x = nI (wqT x) ∧ M_isLetter x = 1 ∧ M_wants x = nI (wqT x) ∧ (x = 119 → wqT x = 2)) := by
  rcases h with e | ⟨c, hc, e⟩
  · subst e
    exact Or.inl (by decide)
  · subst e
    exact lt_c c hc
/-- how many digits, letters stand from a place on -/
def rdD (l : Nat) (g : Nat → Int32) : Nat → Nat → Nat
  | 0, _ => 0
  | n + 1, a => if dgT (sgT l g a) = -1 then 0 else rdD l g n (a + 1) + 1
def rdL (l : Nat) (g : Nat → Int32) : Nat → Nat → Nat
  | 0, _ => 0
  | n + 1, a => if wyT (sgT l g a) = -1 then 0 else rdL l g n (a + 1) + 1
theorem dc_le (l : Nat) (g : Nat → Int32) : ∀ n a, rdD l g n a ≤ n
  | 0, a => Nat.le_refl _
  | n + 1, a => by
    have := dc_le l g n (a + 1)
    show (if dgT (sgT l g a) = -1 then 0 else rdD l g n (a + 1) + 1) ≤ n + 1
    split <;> omega
theorem lt_le (l : Nat) (g : Nat → Int32) : ∀ n a, rdL l g n a ≤ n
  | 0, a => Nat.le_refl _
  | n + 1, a => by
    have := lt_le l g n (a + 1)
    show (if wyT (sgT l g a) = -1 then 0 else rdL l g n (a + 1) + 1) ≤ n + 1
    split <;> omega
theorem dc_in (l : Nat) (g : Nat → Int32) : ∀ n a k, k < rdD l g n a → ¬ dgT (sgT l g (a + k)) = -1
  | 0, a, k, h => absurd h (Nat.not_lt_zero _)
  | n + 1, a, k, h => by
    have h : k < (if dgT (sgT l g a) = -1 then 0 else rdD l g n (a + 1) + 1) := h
    by_cases q : dgT (sgT l g a) = -1
    · rw [if_pos q] at h
      exact absurd h (Nat.not_lt_zero _)
    · rw [if_neg q] at h
      cases k with
      | zero => exact q
      | succ k =>
        have := dc_in l g n (a + 1) k (by omega)
        rw [show a + (k + 1) = a + 1 + k by omega]
        exact this
theorem lt_in (l : Nat) (g : Nat → Int32) : ∀ n a k, k < rdL l g n a → ¬ wyT (sgT l g (a + k)) = -1
  | 0, a, k, h => absurd h (Nat.not_lt_zero _)
  | n + 1, a, k, h => by
    have h : k < (if wyT (sgT l g a) = -1 then 0 else rdL l g n (a + 1) + 1) := h
    by_cases q : wyT (sgT l g a) = -1
    · rw [if_pos q] at h
      exact absurd h (Nat.not_lt_zero _)
    · rw [if_neg q] at h
      cases k with
      | zero => exact q
      | succ k =>
        have := lt_in l g n (a + 1) k (by omega)
        rw [show a + (k + 1) = a + 1 + k by omega]
        exact this
theorem dc_st (l : Nat) (g : Nat → Int32) : ∀ n a, rdD l g n a < n → dgT (sgT l g (a + rdD l g n a)) = -1
  | 0, a, h => absurd h (Nat.not_lt_zero _)
  | n + 1, a, h => by
    have e : rdD l g (n + 1) a = (if dgT (sgT l g a) = -1 then 0 else rdD l g n (a + 1) + 1) := rfl
    by_cases q : dgT (sgT l g a) = -1
    · rw [e, if_pos q]
      exact q
    · rw [e, if_neg q] at h ⊢
      have := dc_st l g n (a + 1) (by omega)
      rw [show a + (rdD l g n (a + 1) + 1) = a + 1 + rdD l g n (a + 1) by omega]
      exact this
theorem lt_st (l : Nat) (g : Nat → Int32) : ∀ n a, rdL l g n a < n → wyT (sgT l g (a + rdL l g n a)) = -1
  | 0, a, h => absurd h (Nat.not_lt_zero _)
  | n + 1, a, h => by
    have e : rdL l g (n + 1) a = (if wyT (sgT l g a) = -1 then 0 else rdL l g n (a + 1) + 1) := rfl
    by_cases q : wyT (sgT l g a) = -1
    · rw [e, if_pos q]
      exact q
    · rw [e, if_neg q] at h ⊢
      have := lt_st l g n (a + 1) (by omega)
      rw [show a + (rdL l g n (a + 1) + 1) = a + 1 + rdL l g n (a + 1) by omega]
      exact this
theorem sg_lt {l : Nat} {g : Nat → Int32} {a : Nat} (h : ¬ sgT l g a = -1) : a < l := by
  rcases Nat.lt_or_ge a l with c | c
  · exact c
  · exact absurd (if_neg (by omega)) h
theorem dc_l {l : Nat} {g : Nat → Int32} {n a : Nat} (ha : a ≤ l) : a + rdD l g n a ≤ l := by
  rcases Nat.eq_zero_or_pos (rdD l g n a) with e | e
  · omega
  · have := dc_in l g n a (rdD l g n a - 1) (by omega)
    have := sg_lt (l := l) (g := g) (a := a + (rdD l g n a - 1)) (fun q => by rw [q] at this; exact this (by decide))
    omega
theorem lt_l {l : Nat} {g : Nat → Int32} {n a : Nat} (ha : a ≤ l) : a + rdL l g n a ≤ l := by
  rcases Nat.eq_zero_or_pos (rdL l g n a) with e | e
  · omega
  · have := lt_in l g n a (rdL l g n a - 1) (by omega)
    have := sg_lt (l := l) (g := g) (a := a + (rdL l g n a - 1)) (fun q => by rw [q] at this; exact this (by decide))
    omega
def TX (l : Nat) (g g' : Nat → Int32) : Prop := l ≤ 100 ∧ ∀ i, i < l → ∃ c : Nat, c < 128 ∧ g i = nI c ∧ g' i = nI c
section TXT
variable {l : Nat} {g g' : Nat → Int32}
theorem sg_ok (h : TX l g g') (a : Nat) : rdS (sgT l g a) := by
  unfold sgT
  by_cases c : a < l
  · rw [if_pos c]
    obtain ⟨x, x1, x2, _⟩ := h.2 a c
    exact Or.inr ⟨x, x1, x2⟩
  · rw [if_neg c]
    exact Or.inl rfl
theorem sg_eq (h : TX l g g') (a : Nat) : sgT l g' a = sgT l g a := by
  unfold sgT
  by_cases c : a < l
  · rw [if_pos c, if_pos c]
    obtain ⟨x, x1, x2, x3⟩ := h.2 a c
    rw [x2, x3]
  · rw [if_neg c, if_neg c]
theorem sign_eq (h : TX l g g') {a : Nat} (ha : a ≤ 1000) : C_sign (nI a) (nI l) g = some (sgT l g a) := by
  have hl := h.1
  unfold C_sign C_sign_j27 C_sign_j28 sgT
  rw [if_neg (nI_pos (by omega))]
  by_cases c : a < l
  · rw [if_neg (nI_ge c (by omega)), if_neg (show ¬ (100:Int32) ≤ nI a from nI_ge (a := a) (b := 100) (by omega) (by decide)), grd_t (gi_nI (by omega) (by decide)), nI_clamp (by omega), if_pos c]
  · rw [if_pos (nI_le (by omega) (by omega)), if_neg c]
theorem here_eq (h : TX l g g') {a : Nat} (ha : a ≤ 1000) : M_here (nI l) (nI a) g' = some (sgT l g a) := by
  have hl := h.1
  rw [← sg_eq h]
  unfold M_here M_here_j24 sgT
  by_cases c : a < l
  · rw [if_neg (nI_ge c (by omega)), grd_t (gi_nI (by omega) (by decide)), nI_clamp (by omega), if_pos c]
  · rw [if_pos (nI_le (by omega) (by omega)), if_neg c]
theorem digit_eq (h : TX l g g') {a : Nat} (ha : a ≤ 1000) : C_digit (nI a) (nI l) g = some (dgT (sgT l g a)) := by
  unfold C_digit
  rw [sign_eq h ha, wbind rfl]
  rfl
theorem way_eq (h : TX l g g') {a : Nat} (ha : a ≤ 1000) : C_way (nI a) (nI l) g = some (wyT (sgT l g a)) := by
  unfold C_way
  rw [sign_eq h ha, wbind rfl]
  unfold wyT
  (repeat' split) <;> rfl
theorem letters_eq (h : TX l g g') {a : Nat} (ha : a ≤ 900) : C_letters (nI a) (nI l) g = some (nI (rdL l g 20 a)) := by
  have key : ∀ m k fuel, k + m = 20 → m < fuel → wh (C_letters_s4 (nI a) (nI l) g) fuel (nI k, nI k) = some (nI (k + rdL l g m (a + k))) := fun m => by
    induction m with
    | zero =>
      intro k fuel hk hf
      obtain ⟨F, rfl⟩ : ∃ F, fuel = F + 1 := ⟨fuel - 1, by omega⟩
      refine wh_inr ?_
      unfold C_letters_s4
      dsimp only
      rw [if_pos (show (20:Int32) ≤ nI k from nI_le (a := 20) (b := k) (by omega) (by omega))]
      rfl
    | succ m ih =>
      intro k fuel hk hf
      obtain ⟨F, rfl⟩ : ∃ F, fuel = F + 1 := ⟨fuel - 1, by omega⟩
      have e : rdL l g (m + 1) (a + k) = (if wyT (sgT l g (a + k)) = -1 then 0 else rdL l g m (a + k + 1) + 1) := rfl
      by_cases q : wyT (sgT l g (a + k)) = -1
      · rw [e, if_pos q]
        refine wh_inr ?_
        unfold C_letters_s4
        dsimp only
        rw [if_neg (show ¬ (20:Int32) ≤ nI k from nI_ge (a := k) (b := 20) (by omega) (by decide)), nI_add, way_eq h (by omega), wbind rfl, if_pos ((wy_neg _).mpr q)]
        rfl
      · rw [e, if_neg q]
        have E : C_letters_s4 (nI a) (nI l) g (nI k, nI k) = some (Sum.inl (nI (k + 1), nI (k + 1))) := by
          unfold C_letters_s4
          dsimp only
          rw [if_neg (show ¬ (20:Int32) ≤ nI k from nI_ge (a := k) (b := 20) (by omega) (by decide)), nI_add, way_eq h (by omega), wbind rfl, if_neg (fun r => q ((wy_neg _).mp r)), nI_1]
        rw [wh_inl E, ih (k + 1) F (by omega) (by omega)]
        congr 2
        rw [show a + (k + 1) = a + k + 1 by omega]
        omega
  have := key 20 0 FU rfl (by have := FU_big; omega)
  unfold C_letters
  rw [show ((0:Int32), (0:Int32)) = (nI 0, nI 0) from rfl, this, wbind rfl, Nat.zero_add, Nat.add_zero]
def chT (k : Nat) : Int32 := if k = 0 then 114 else if k = 1 then 100 else if k = 2 then 108 else 117
theorem ch_eq : ∀ k, k < 4 → J_String_charAt (nI k) = some (chT k) := by decide +kernel
theorem wayOf_eq (x : Int32) : M_wayOf x = some (wyT x) := by
  have E : ∀ k, k < 4 → M_wayOf_s2 x (nI k) = if chT k = x then some (Sum.inr (Sum.inl (nI k))) else some (Sum.inl (nI (k + 1))) := fun k hk => by
    unfold M_wayOf_s2
    rw [if_neg (show ¬ (4:Int32) ≤ nI k from nI_ge (a := k) (b := 4) hk (by decide)), ch_eq k hk, wbind rfl, nI_1]
  have fin : ∀ m, m < 4 → chT m = x → (∀ k, k < m → ¬ chT k = x) → M_wayOf x = some (nI m) := fun m hm hx hk => by
    unfold M_wayOf
    rw [show (0:Int32) = nI 0 from rfl, wh_for (st := M_wayOf_s2 x) (r := Sum.inl (nI m)) (fun k => nI k) m (fun k q => by rw [E k (by omega), if_neg (hk k q)]) (by rw [E m hm, if_pos hx]) (by omega), wbind rfl]
    rfl
  by_cases h0 : x = 114
  · subst h0
    rw [fin 0 (by decide) rfl (fun k hk => absurd hk (Nat.not_lt_zero _))]
    rfl
  by_cases h1 : x = 100
  · subst h1
    rw [fin 1 (by decide) rfl (by decide)]
    rfl
  by_cases h2 : x = 108
  · subst h2
    rw [fin 2 (by decide) rfl (by decide)]
    rfl
  by_cases h3 : x = 117
  · subst h3
    rw [fin 3 (by decide) rfl (by decide)]
    rfl
  have w : wyT x = -1 := by
    unfold wyT
    rw [if_neg h1, if_neg h2, if_neg h0, if_neg h3]
  rw [w]
  unfold M_wayOf
  rw [show (0:Int32) = nI 0 from rfl, wh_for (st := M_wayOf_s2 x) (r := Sum.inr ()) (fun k => nI k) 4 (fun k q => by
    rw [E k q, if_neg]
    rcases (show k = 0 ∨ k = 1 ∨ k = 2 ∨ k = 3 by omega) with e | e | e | e <;> subst e
    · exact fun r => h0 r.symm
    · exact fun r => h1 r.symm
    · exact fun r => h2 r.symm
    · exact fun r => h3 r.symm) (by
    unfold M_wayOf_s2
    rw [if_pos (show (4:Int32) ≤ nI 4 by decide)]) (by decide), wbind rfl]
  rfl
theorem mdigit_y (h : TX l g g') {a : Nat} (ha : a ≤ 900) (hd : ¬ dgT (sgT l g a) = -1) : M_digit (nI l) (nI a) (-1) g' = some (dgT (sgT l g a), nI (a + 1), -1) := by
  have hl := h.1
  have al : a < l := sg_lt (l := l) (g := g) (fun q => by rw [q] at hd; exact hd (by decide))
  rcases dg_ok (sg_ok h a) with ⟨e, _⟩ | ⟨d, hd9, e1, e2, e3⟩
  · exact absurd e hd
  · unfold M_digit
    rw [if_pos rfl, here_eq h (by omega), wbind rfl, e2, if_neg (show ¬ (1:Int32) = 0 by decide), Int32.add_sub_cancel, grd_t (gi_nI (by omega) (by decide)), nI_clamp (by omega), nI_1, e1, ← e3]
    congr 2
    rw [← sg_eq h]
    unfold sgT
    rw [if_pos al]
theorem mdigit_n (h : TX l g g') {a : Nat} (ha : a ≤ 900) (hd : dgT (sgT l g a) = -1) : M_digit (nI l) (nI a) (-1) g' = some (0, nI a, nI a) := by
  rcases dg_ok (sg_ok h a) with ⟨_, e2⟩ | ⟨d, hd9, e1, e2, e3⟩
  · unfold M_digit M_digit_j22 M_fails M_fails_j16
    rw [if_pos rfl, here_eq h (by omega), wbind rfl, e2, if_pos rfl, if_pos rfl]
    rfl
  · rw [e1] at hd
    exact absurd hd (nI_ne_m1 d (by omega))
theorem mdigit_f {x y : Int32} (hy : ¬ y = -1) : M_digit (nI l) x y g' = some (0, x, y) := by
  unfold M_digit M_digit_j22 M_fails M_fails_j16
  rw [if_neg hy, if_neg hy]
  rfl
/-- the digits of a clause -/
def tdT (l : Nat) (g : Nat → Int32) (c a : Nat) (t : Nat → Int32) (k : Nat) : Nat → Int32 := fun j => if c + 1 ≤ j ∧ j < c + 1 + k then dgT (sgT l g (a + (j - (c + 1)))) else t j
theorem td_0 (c a : Nat) (t : Nat → Int32) : tdT l g c a t 0 = t := by
  funext j
  unfold tdT
  rw [if_neg (by omega)]
theorem td_s (c a : Nat) (t : Nat → Int32) (k : Nat) : upd (tdT l g c a t k) (c + 1 + k) (dgT (sgT l g (a + k))) = tdT l g c a t (k + 1) := by
  funext j
  unfold tdT upd
  by_cases q : j = c + 1 + k
  · subst q
    rw [if_pos rfl, if_pos (by omega), show c + 1 + k - (c + 1) = k by omega]
  · rw [if_neg q]
    dsimp only
    by_cases q2 : c + 1 ≤ j ∧ j < c + 1 + k
    · rw [if_pos q2, if_pos (by omega)]
    · rw [if_neg q2, if_neg (by omega)]
theorem m53_ok (h : TX l g g') {c a w : Nat} (hc : c + 26 ≤ 312) (ha : a ≤ 500) (hw : w ≤ 4) {t : Nat → Int32} (ht : M_wants (t c) = nI w) (hd : rdD l g w a = w) : wh (M_clauses_s53 (nI c) (nI l) g') FU ((0:Int32), nI a, (-1:Int32), t) = some (nI (a + w), -1, tdT l g c a t w) := by
  rw [show ((0:Int32), nI a, (-1:Int32), t) = (nI 0, nI (a + 0), (-1:Int32), tdT l g c a t 0) by rw [td_0]; rfl]
  have tc : ∀ k, tdT l g c a t k c = t c := fun k => by
    unfold tdT
    rw [if_neg (by omega)]
  refine wh_for (st := M_clauses_s53 (nI c) (nI l) g') (fun k => (nI k, nI (a + k), (-1:Int32), tdT l g c a t k)) w (fun k hk => ?_) ?_ (by omega)
  · unfold M_clauses_s53
    dsimp only
    rw [grd_t (gi_nI (by omega) (by decide)), nI_clamp (by omega), if_neg (show ¬ M_wants (tdT l g c a t k c) ≤ nI k by rw [tc, ht]; exact nI_ge hk (by omega)), mdigit_y h (by omega) (dc_in l g w a k (by omega)), wbind rfl, nI_1 c, nI_add, grd_t (gi_nI (by omega) (by decide)), nI_clamp (by omega), nI_1]
    dsimp only
    rw [td_s]
    rfl
  · unfold M_clauses_s53
    dsimp only
    rw [grd_t (gi_nI (by omega) (by decide)), nI_clamp (by omega), if_pos (show M_wants (tdT l g c a t w c) ≤ nI w by rw [tc, ht]; exact nI_le (Nat.le_refl _) (by omega))]
theorem m53_no (h : TX l g g') {c a w : Nat} (hc : c + 26 ≤ 312) (ha : a ≤ 500) (hw : w ≤ 4) {t : Nat → Int32} (ht : M_wants (t c) = nI w) (hd : rdD l g w a < w) : ∃ t', wh (M_clauses_s53 (nI c) (nI l) g') FU ((0:Int32), nI a, (-1:Int32), t) = some (nI (a + rdD l g w a), nI (a + rdD l g w a), t') ∧ t' c = t c := by
  have hl := h.1
  obtain ⟨r, r1, r2, r3, r4⟩ := wh_tot (st := M_clauses_s53 (nI c) (nI l) g') (fun m s => ∃ k, k + m = w ∧ s.1 = nI k ∧ s.2.2.2 c = t c ∧ ((k ≤ rdD l g w a ∧ s.2.1 = nI (a + k) ∧ s.2.2.1 = -1) ∨ (rdD l g w a < k ∧ s.2.1 = nI (a + rdD l g w a) ∧ s.2.2.1 = nI (a + rdD l g w a)))) (B := fun r => r.1 = nI (a + rdD l g w a) ∧ r.2.1 = nI (a + rdD l g w a) ∧ r.2.2 c = t c) (fun m s ⟨k, hk, s1, s2, s3⟩ => by
    obtain ⟨x1, x2, x3, x4⟩ := s
    dsimp only at s1 s2 s3
    subst s1
    rcases Nat.lt_or_ge k w with q | q
    · right
      rcases s3 with ⟨q1, q2, q3⟩ | ⟨q1, q2, q3⟩
      · subst q2 q3
        by_cases e : k = rdD l g w a
        · refine ⟨m - 1, (nI (k + 1), nI (a + k), nI (a + k), upd x4 (c + 1 + k) 0), by omega, ?_, k + 1, by omega, rfl, ?_, Or.inr ⟨by omega, by rw [e], by rw [e]⟩⟩
          · unfold M_clauses_s53
            dsimp only
            rw [grd_t (gi_nI (by omega) (by decide)), nI_clamp (by omega), if_neg (show ¬ M_wants (x4 c) ≤ nI k by rw [s2, ht]; exact nI_ge q (by omega)), mdigit_n h (by omega) (by rw [e]; exact dc_st l g w a hd), wbind rfl, nI_1 c, nI_add, grd_t (gi_nI (by omega) (by decide)), nI_clamp (by omega), nI_1]
          · exact (upd_ne _ _ (by omega)).trans s2
        · refine ⟨m - 1, (nI (k + 1), nI (a + k + 1), -1, upd x4 (c + 1 + k) (dgT (sgT l g (a + k)))), by omega, ?_, k + 1, by omega, rfl, ?_, Or.inl ⟨by omega, rfl, rfl⟩⟩
          · unfold M_clauses_s53
            dsimp only
            rw [grd_t (gi_nI (by omega) (by decide)), nI_clamp (by omega), if_neg (show ¬ M_wants (x4 c) ≤ nI k by rw [s2, ht]; exact nI_ge q (by omega)), mdigit_y h (by omega) (dc_in l g w a k (by omega)), wbind rfl, nI_1 c, nI_add, grd_t (gi_nI (by omega) (by decide)), nI_clamp (by omega), nI_1]
          · exact (upd_ne _ _ (by omega)).trans s2
      · subst q2 q3
        have d4 := dc_le l g w a
        refine ⟨m - 1, (nI (k + 1), nI (a + rdD l g w a), nI (a + rdD l g w a), upd x4 (c + 1 + k) 0), by omega, ?_, k + 1, by omega, rfl, ?_, Or.inr ⟨by omega, rfl, rfl⟩⟩
        · unfold M_clauses_s53
          dsimp only
          rw [grd_t (gi_nI (by omega) (by decide)), nI_clamp (by omega), if_neg (show ¬ M_wants (x4 c) ≤ nI k by rw [s2, ht]; exact nI_ge q (by omega)), mdigit_f (nI_ne_m1 _ (by omega)), wbind rfl, nI_1 c, nI_add, grd_t (gi_nI (by omega) (by decide)), nI_clamp (by omega), nI_1]
        · exact (upd_ne _ _ (by omega)).trans s2
    · left
      rcases s3 with ⟨q1, q2, q3⟩ | ⟨q1, q2, q3⟩
      · omega
      · refine ⟨(x2, x3, x4), ?_, q2, q3, s2⟩
        unfold M_clauses_s53
        dsimp only
        rw [grd_t (gi_nI (by omega) (by decide)), nI_clamp (by omega), if_pos (show M_wants (x4 c) ≤ nI k by rw [s2, ht]; exact nI_le q (by omega))]) FU w ((0:Int32), nI a, (-1:Int32), t) (by have := FU_big; omega) ⟨0, by omega, rfl, rfl, Or.inl ⟨Nat.zero_le _, rfl, rfl⟩⟩
  obtain ⟨y1, y2, y3⟩ := r
  dsimp only at r2 r3 r4
  subst r2 r3
  exact ⟨y3, r1, r4⟩
/-- the letters of a clause -/
def twT (l : Nat) (g : Nat → Int32) (c a : Nat) (t : Nat → Int32) (k : Nat) : Nat → Int32 := fun j => if c + 6 ≤ j ∧ j < c + 6 + k then wyT (sgT l g (a + (j - (c + 6)))) else t j
theorem tw_0 (c a : Nat) (t : Nat → Int32) : twT l g c a t 0 = t := by
  funext j
  unfold twT
  rw [if_neg (by omega)]
theorem tw_s (c a : Nat) (t : Nat → Int32) (k : Nat) : upd (twT l g c a t k) (c + 6 + k) (wyT (sgT l g (a + k))) = twT l g c a t (k + 1) := by
  funext j
  unfold twT upd
  by_cases q : j = c + 6 + k
  · subst q
    rw [if_pos rfl, if_pos (by omega), show c + 6 + k - (c + 6) = k by omega]
  · rw [if_neg q]
    dsimp only
    by_cases q2 : c + 6 ≤ j ∧ j < c + 6 + k
    · rw [if_pos q2, if_pos (by omega)]
    · rw [if_neg q2, if_neg (by omega)]
theorem mways_y (h : TX l g g') {c a : Nat} (hc : c + 26 ≤ 312) (ha : a ≤ 500) (t : Nat → Int32) : M_ways (nI c) (nI l) (nI a) (-1) g' t = some (nI (a + rdL l g 20 a), if rdL l g 20 a = 0 then nI a else -1, upd (twT l g c a t (rdL l g 20 a)) (c + 5) (nI (rdL l g 20 a))) := by
  have hn := lt_le l g 20 a
  have w1 : wh (M_ways_s2 (nI c) (nI l) (-1) g') FU ((0:Int32), nI a, t) = some (nI (rdL l g 20 a), nI (a + rdL l g 20 a), twT l g c a t (rdL l g 20 a)) := by
    rw [show ((0:Int32), nI a, t) = (nI 0, nI (a + 0), twT l g c a t 0) by rw [tw_0]; rfl]
    refine wh_for (st := M_ways_s2 (nI c) (nI l) (-1) g') (fun k => (nI k, nI (a + k), twT l g c a t k)) (rdL l g 20 a) (fun k hk => ?_) ?_ (by omega)
    · unfold M_ways_s2
      dsimp only
      rw [if_pos rfl, if_neg (show ¬ (20:Int32) ≤ nI k from nI_ge (a := k) (b := 20) (by omega) (by decide)), here_eq h (by omega), wbind rfl, wayOf_eq, wbind rfl, if_neg (lt_in l g 20 a k hk), wbind rfl, wayOf_eq, wbind rfl, show nI c + (6:Int32) = nI (c + 6) from nI_add c 6, nI_add, grd_t (gi_nI (by omega) (by decide)), nI_clamp (by omega), nI_1, nI_1, tw_s]
      rfl
    · unfold M_ways_s2
      dsimp only
      rw [if_pos rfl]
      by_cases q : rdL l g 20 a = 20
      · rw [if_pos (show (20:Int32) ≤ nI (rdL l g 20 a) from nI_le (a := 20) (by omega) (by omega))]
      · rw [if_neg (show ¬ (20:Int32) ≤ nI (rdL l g 20 a) from nI_ge (b := 20) (by omega) (by decide)), here_eq h (by omega), wbind rfl, wayOf_eq, wbind rfl, if_pos (lt_st l g 20 a (by omega))]
  unfold M_ways M_ways_j69 M_fails M_fails_j16
  rw [w1, wbind rfl]
  dsimp only
  have gg : gi (nI (c + 5)) 312 = true := gi_nI (by omega) (by decide)
  rw [show nI c + (5:Int32) = nI (c + 5) from nI_add c 5, nI_clamp (show c + 5 < 2 ^ 31 by omega), if_pos rfl]
  by_cases q : rdL l g 20 a = 0
  · rw [if_pos (show nI (rdL l g 20 a) = 0 by rw [q]; rfl), wbind rfl, grd_t gg, if_pos q, q]
    rfl
  · rw [if_neg (show ¬ nI (rdL l g 20 a) = 0 from nI_ne0 (by omega) (by omega)), if_neg q, grd_t gg]
theorem mways_f {c a : Nat} {y : Int32} (hc : c + 26 ≤ 312) (hy : ¬ y = -1) (t : Nat → Int32) : ∃ t', M_ways (nI c) (nI l) (nI a) y g' t = some (nI a, y, t') := by
  have w1 : wh (M_ways_s2 (nI c) (nI l) y g') FU ((0:Int32), nI a, t) = some ((0:Int32), nI a, t) := by
    have hF : FU = (FU - 1) + 1 := by have := FU_big; omega
    rw [hF]
    refine wh_inr ?_
    unfold M_ways_s2
    dsimp only
    rw [if_neg hy]
  unfold M_ways M_ways_j69 M_fails M_fails_j16
  rw [w1, wbind rfl]
  dsimp only
  rw [if_pos rfl, if_neg hy, wbind rfl, show nI c + (5:Int32) = nI (c + 5) from nI_add c 5, grd_t (gi_nI (by omega) (by decide))]
  exact ⟨_, rfl⟩
end TXT
