/-! shift, judge -/
theorem sum64 (x y : Int32) : (x.toInt64 + y.toInt64).toInt = x.toInt + y.toInt := by
  have h1 := Int32.toInt_lt x
  have h2 := Int32.toInt_lt y
  have h3 := Int32.le_toInt x
  have h4 := Int32.le_toInt y
  rw [Int64.toInt_add, Int32.toInt_toInt64, Int32.toInt_toInt64, Int.bmod_eq_of_le_mul_two]
  · omega
  · omega
theorem lt64 {x y z : Int32} : (z.toInt64 < x.toInt64 + y.toInt64) ↔ z.toInt < x.toInt + y.toInt := by
  rw [Int64.lt_iff_toInt_lt, sum64, Int32.toInt_toInt64]
theorem le64 {x y z : Int32} : (x.toInt64 + y.toInt64 ≤ z.toInt64) ↔ x.toInt + y.toInt ≤ z.toInt := by
  rw [Int64.le_iff_toInt_le, sum64, Int32.toInt_toInt64]
theorem lt64' {x y z : Int32} : (x.toInt64 + y.toInt64 < z.toInt64) ↔ x.toInt + y.toInt < z.toInt := by
  rw [Int64.lt_iff_toInt_lt, sum64, Int32.toInt_toInt64]
theorem hasPart_eq (i n : Int32) {l : Nat} (hl : l ≤ 60) : (∃ a m : Nat, i = nI a ∧ n = nI m ∧ a + m ≤ l ∧ T_hasPart i n (nI l) = 1) ∨ (T_hasPart i n (nI l) = 0 ∧ ¬ (0 ≤ i.toInt ∧ 0 ≤ n.toInt ∧ i.toInt + n.toInt ≤ l)) := by
  have t0 : (0 : Int32).toInt = 0 := by decide
  have tl : (nI l).toInt = l := nI_toInt (by omega)
  have h1 := Int32.toInt_lt i
  have h3 := Int32.le_toInt i
  unfold T_hasPart
  by_cases c1 : i < 0
  · right
    rw [if_pos c1]
    have := Int32.lt_iff_toInt_lt.mp c1
    exact ⟨rfl, by omega⟩
  by_cases c2 : n < 0
  · right
    rw [if_neg c1, if_pos c2]
    have := Int32.lt_iff_toInt_lt.mp c2
    exact ⟨rfl, by omega⟩
  obtain ⟨a, ha, ea⟩ := nI_of c1
  obtain ⟨m, hm, em⟩ := nI_of c2
  have ta : i.toInt = a := by rw [ea, nI_toInt ha]
  have tm : n.toInt = m := by rw [em, nI_toInt hm]
  by_cases c3 : l < a
  · right
    rw [if_neg c1, if_neg c2, if_pos (by rw [Int32.lt_iff_toInt_lt, tl, ta]; omega)]
    exact ⟨rfl, by omega⟩
  have e : (nI l - i).toInt = (l : Int) - a := by
    rw [ea]
    exact pk_sub_toInt (by omega) (by omega)
  by_cases c4 : l < a + m
  · right
    rw [if_neg c1, if_neg c2, if_neg (by rw [Int32.lt_iff_toInt_lt, tl, ta]; omega), if_pos (by rw [Int32.lt_iff_toInt_lt, e, tm]; omega)]
    exact ⟨rfl, by omega⟩
  · left
    refine ⟨a, m, ea, em, by omega, ?_⟩
    rw [if_neg c1, if_neg c2, if_neg (by rw [Int32.lt_iff_toInt_lt, tl, ta]; omega), if_neg (by rw [Int32.lt_iff_toInt_lt, e, tm]; omega)]
/-- the first m items of f from a on -/
def tkL (f g : Nat → Int64) (a k : Nat) : Nat → Int64 := fun i => if i < k then f (a + i) else g i
theorem shift1_eq {mit : Nat → Int64} {t a m : Nat} (ht : t < 6) (h : a + m ≤ 60) : wh (M_shift_s118 (nI t) (nI a) (nI m) mit) FU ((0:Int32), (fun _ => 0)) = some (tkL mit (fun _ => 0) (60 * t + a) m) := by
  have h := wh_for (st := M_shift_s118 (nI t) (nI a) (nI m) mit) (r := tkL mit (fun _ => 0) (60 * t + a) m) (fun k => (nI k, tkL mit (fun _ => 0) (60 * t + a) k)) m (fun k hk => by
      unfold M_shift_s118
      dsimp only
      rw [if_neg (nI_ge hk (by omega)), place_eq, nI_add, grd_t (gi_nI (by omega) (by decide)), grd_t (gi_nI (by omega) (by decide)), nI_clamp (by omega), nI_clamp (by omega), nI_1]
      congr 3
      funext i
      simp only [vp_updL, tkL]
      by_cases e : i = k
      · subst e; rw [if_pos rfl, if_pos (by omega)]
      · rw [if_neg e]
        by_cases e2 : i < k
        · rw [if_pos e2, if_pos (by omega)]
        · rw [if_neg e2, if_neg (by omega)]) (by
      unfold M_shift_s118
      dsimp only
      rw [if_pos (nI_le (Nat.le_refl _) (by omega))]) (by omega)
  have e : tkL mit (fun _ => 0) (60 * t + a) 0 = (fun _ => 0) := by
    funext i
    simp only [tkL]
    rw [if_neg (by omega)]
  rw [e] at h
  exact h
def ptL (w g : Nat → Int64) (b k : Nat) : Nat → Int64 := fun i => if b ≤ i ∧ i < b + k then w (i - b) else g i
theorem shift2_eq {mit w : Nat → Int64} {u b m : Nat} (hu : u < 6) (h : b + m ≤ 60) : wh (M_shift_s153 (nI u) (nI b) (nI m) w) FU ((0:Int32), mit) = some (ptL w mit (60 * u + b) m) := by
  have h := wh_for (st := M_shift_s153 (nI u) (nI b) (nI m) w) (r := ptL w mit (60 * u + b) m) (fun k => (nI k, ptL w mit (60 * u + b) k)) m (fun k hk => by
      unfold M_shift_s153
      dsimp only
      rw [if_neg (nI_ge hk (by omega)), place_eq, nI_add, grd_t (gi_nI (by omega) (by decide)), grd_t (gi_nI (by omega) (by decide)), nI_clamp (by omega), nI_clamp (by omega), nI_1]
      congr 3
      funext i
      simp only [vp_updL, ptL]
      by_cases e : i = 60 * u + b + k
      · subst e
        rw [if_pos rfl, if_pos (by omega)]
        congr 1
        omega
      · rw [if_neg e]
        by_cases e2 : 60 * u + b ≤ i ∧ i < 60 * u + b + k
        · rw [if_pos e2, if_pos (by omega)]
        · rw [if_neg e2, if_neg (by omega)]) (by
      unfold M_shift_s153
      dsimp only
      rw [if_pos (nI_le (Nat.le_refl _) (by omega))]) (by omega)
  have e : ptL w mit (60 * u + b) 0 = mit := by
    funext i
    simp only [ptL]
    rw [if_neg (by omega)]
  rw [e] at h
  exact h
/-- the reference's shift -/
theorem M_shift_eq {tp : Nat → tTp} {mso mmy : Nat → Int32} {mit : Nat → Int64} {t u : Nat} (ht : t < 6) (hu : u < 6) (i j n : Int32) (h : IT tp mso mmy mit) :
    ∃ r, M_shift (nI t) i (nI u) j n mso mmy mit = some r ∧
    ((mso t = -1 ∨ mso u = -1) ∧ r = (-11, mit, none) ∨ ¬ mso t = -1 ∧ ¬ mso u = -1 ∧
    (¬ mso t = mso u ∧ r = (-12, mit, none) ∨ mso t = mso u ∧
    ((T_hasPart i n (mmy t) = 0 ∨ T_hasPart j n (mmy u) = 0) ∧ r = (-13, mit, none) ∨
     ∃ a b m : Nat, i = nI a ∧ j = nI b ∧ n = nI m ∧ T_hasPart i n (mmy t) = 1 ∧ T_hasPart j n (mmy u) = 1 ∧ a + m ≤ 60 ∧ b + m ≤ 60 ∧ r.1 = nI m ∧ r.2.1 = ptL (tkL mit (fun _ => 0) (60 * t + a) m) mit (60 * u + b) m))) := by
  obtain ⟨l, a1, a2, a3, a4, a5, a6, a7⟩ := h t ht
  obtain ⟨l', b1, b2, b3, b4, b5, b6_, b7⟩ := h u hu
  have t0 : (0 : Int32).toInt = 0 := by decide
  have tl : (nI l).toInt = l := nI_toInt (by omega)
  have tl' : (nI l').toInt = l' := nI_toInt (by omega)
  unfold M_shift
  rw [(isTape_y ht).2, (isTape_y hu).2, if_neg (show ¬ (1 : Int32) = 0 by decide), if_neg (show ¬ (1 : Int32) = 0 by decide)]
  have gt : gi (nI t) 6 = true := gi_nI ht (by decide)
  have gu : gi (nI u) 6 = true := gi_nI hu (by decide)
  have ct : (nI t).toNatClampNeg = t := nI_clamp (by omega)
  have cu : (nI u).toNatClampNeg = u := nI_clamp (by omega)
  rw [grd_t gt, ct, cu]
  by_cases c1 : mso t = -1
  · rw [if_pos c1]
    exact ⟨_, rfl, Or.inl ⟨Or.inl c1, rfl⟩⟩
  rw [if_neg c1, grd_t gu]
  by_cases c2 : mso u = -1
  · rw [if_pos c2]
    exact ⟨_, rfl, Or.inl ⟨Or.inr c2, rfl⟩⟩
  rw [if_neg c2, grd_t gt, grd_t gu]
  by_cases c3 : mso t = mso u
  rotate_left
  · rw [if_neg c3]
    exact ⟨_, rfl, Or.inr ⟨c1, c2, Or.inl ⟨c3, rfl⟩⟩⟩
  rw [if_pos c3, grd_t gt, grd_t gu, a6, b6_]
  have bad : ∀ (hb : ¬ (0 ≤ i.toInt ∧ 0 ≤ n.toInt ∧ i.toInt + n.toInt ≤ l) ∨ ¬ (0 ≤ j.toInt ∧ 0 ≤ n.toInt ∧ j.toInt + n.toInt ≤ l')), (if n < (0:Int32) then (M_shift_j106 mit) else (if i < (0:Int32) then (M_shift_j106 mit) else (if j < (0:Int32) then (M_shift_j106 mit) else (if ((nI l).toInt64) < (i.toInt64 + n.toInt64) then (M_shift_j106 mit) else (if (j.toInt64 + n.toInt64) ≤ ((nI l').toInt64) then (Option.bind (wh (M_shift_s118 (nI t) i n mit) FU ((0:Int32), (fun _ => 0))) (fun w17 => Option.bind (wh (M_shift_s153 (nI u) j n w17) FU ((0:Int32), mit)) (fun w18 => some (n, w18, some w17)))) else (M_shift_j106 mit)))))) = some (-13, mit, none) := by
    intro hb
    by_cases d1 : n < 0
    · rw [if_pos d1]; rfl
    rw [if_neg d1]
    by_cases d2 : i < 0
    · rw [if_pos d2]; rfl
    rw [if_neg d2]
    by_cases d3 : j < 0
    · rw [if_pos d3]; rfl
    rw [if_neg d3]
    by_cases d4 : (nI l).toInt64 < i.toInt64 + n.toInt64
    · rw [if_pos d4]; rfl
    rw [if_neg d4, if_neg]
    · rfl
    · intro d5
      have e5 := le64.mp d5
      have e4 : ¬ _ := fun q => d4 (lt64.mpr q)
      rw [Int32.lt_iff_toInt_lt, t0] at d1 d2 d3
      rw [tl'] at e5
      rw [tl] at e4
      omega
  rcases hasPart_eq i n a1 with ⟨a, m, ea, em, ham, e1⟩ | ⟨e1, e2⟩
  rotate_left
  · rw [bad (Or.inl e2)]
    exact ⟨_, rfl, Or.inr ⟨c1, c2, Or.inr ⟨c3, Or.inl ⟨Or.inl e1, rfl⟩⟩⟩⟩
  rcases hasPart_eq j n b1 with ⟨b, m', eb, em', hbm, f1⟩ | ⟨f1, f2⟩
  rotate_left
  · rw [bad (Or.inr f2)]
    exact ⟨_, rfl, Or.inr ⟨c1, c2, Or.inr ⟨c3, Or.inl ⟨Or.inr f1, rfl⟩⟩⟩⟩
  have hmm : m' = m := by
    have := em.symm.trans em'
    by_cases q : m < 2 ^ 31 ∧ m' < 2 ^ 31
    · exact ((nI_eq q.1 q.2).mp this).symm
    · omega
  subst hmm
  have ti : i.toInt = a := by rw [ea, nI_toInt (by omega)]
  have tj : j.toInt = b := by rw [eb, nI_toInt (by omega)]
  have tn : n.toInt = m' := by rw [em, nI_toInt (by omega)]
  refine ⟨(nI m', ptL (tkL mit (fun _ => 0) (60 * t + a) m') mit (60 * u + b) m', some (tkL mit (fun _ => 0) (60 * t + a) m')), ?_, Or.inr ⟨c1, c2, Or.inr ⟨c3, Or.inr ⟨a, b, m', ea, eb, em, e1, f1, by omega, by omega, rfl, rfl⟩⟩⟩⟩
  rw [if_neg (by rw [Int32.lt_iff_toInt_lt, t0, tn]; omega), if_neg (by rw [Int32.lt_iff_toInt_lt, t0, ti]; omega), if_neg (by rw [Int32.lt_iff_toInt_lt, t0, tj]; omega), if_neg (by rw [lt64, tl, ti, tn]; omega), if_pos (by rw [le64, tl', tj, tn]; omega), ea, eb, em, shift1_eq ht (by omega)]
  show Option.bind (wh (M_shift_s153 (nI u) (nI b) (nI m') (tkL mit (fun _ => 0) (60 * t + a) m')) FU ((0:Int32), mit)) _ = _
  rw [shift2_eq hu (by omega)]
  rfl
/-- what the class copies -/
theorem cpy_eq {tp : Nat → tTp} {mso mmy : Nat → Int32} {mit : Nat → Int64} {t u a b m : Nat} (ht : t < 6) (hu : u < 6) (h : IT tp mso mmy mit) (h1 : a + m ≤ 60) (h2 : b + m ≤ 60) :
    IT (tpU tp u ((tp u).1, (tp u).2.1, va_cpy (tp t).2.2 (tp u).2.2 a b m)) mso mmy (ptL (tkL mit (fun _ => 0) (60 * t + a) m) mit (60 * u + b) m) := by
  obtain ⟨l, a1, a2, a3, a4, a5, a6, a7⟩ := h t ht
  obtain ⟨l', b1, b2, b3, b4, b5, b6_, b7⟩ := h u hu
  refine IT_upd h ⟨l', b1, b2, b3, b4, b5, b6_, fun i hi => ?_⟩ (fun v hv hne => ⟨rfl, rfl, fun i hi => ?_⟩)
  · show va_cpy (tp t).2.2 (tp u).2.2 a b m i = _
    simp only [va_cpy, ptL, tkL]
    by_cases c : b ≤ i ∧ i < b + m
    · rw [if_pos c, if_pos (by omega), if_pos (by omega), a7 _ (by omega)]
      congr 1
      omega
    · rw [if_neg c, if_neg (by omega), b7 i hi]
  · simp only [ptL]
    rw [if_neg (by omega)]
theorem p_shift0 {tp : Nat → tTp} {mso mmy : Nat → Int32} {mit : Nat → Int64} {t : Nat} (ht : t < 6) (i j n : Int32) (h : IT tp mso mmy mit) : ∃ q, X_shift_2 (nI t) i (nI t) j n (tp t).1 (tp t).2.1 (tp t).2.2 = some q ∧ ∃ q', M_shift (nI t) i (nI t) j n mso mmy mit = some q' ∧ q'.1 = q.1 ∧ IT (tpU tp t ((tp t).1, (tp t).2.1, q.2)) mso mmy q'.2.1 := by
  obtain ⟨l, a1, a2, a3, a4, a5, a6, a7⟩ := h t ht
  have same : IT (tpU tp t ((tp t).1, (tp t).2.1, (tp t).2.2)) mso mmy mit := by rw [tpU_same]; exact h
  obtain ⟨r, hr, hc⟩ := M_shift_eq ht ht i j n h
  unfold X_shift_2
  rw [(isTape_y ht).1, if_neg (show ¬ (1 : Int32) = 0 by decide), if_neg (show ¬ (1 : Int32) = 0 by decide), a2, hr, a5]
  rcases hc with ⟨c, rfl⟩ | ⟨c1, c2, ⟨c3, rfl⟩ | ⟨c3, ⟨c4, rfl⟩ | ⟨a, b, m, ea, eb, em, d1, d2, d3, d4, d5, d6⟩⟩⟩
  · rw [if_pos (by rcases c with c | c <;> exact c)]
    rw [← a2, ← a5]
    exact ⟨_, rfl, _, rfl, rfl, same⟩
  · exact absurd rfl c3
  · rw [a6] at c4
    rw [if_neg c1, if_neg c1, if_pos rfl]
    refine ⟨(-13, (tp t).2.2), ?_, _, rfl, rfl, by rw [← a5, ← a2]; exact same⟩
    rcases c4 with c4 | c4
    · rw [if_pos c4]; rfl
    · rw [if_pos c4]; split <;> rfl
  · rw [a6] at d1 d2
    rw [if_neg c1, if_neg c1, if_pos rfl, d1, d2, if_neg (show ¬ (1 : Int32) = 0 by decide), if_neg (show ¬ (1 : Int32) = 0 by decide)]
    unfold T_take
    rw [d1, d2, if_neg (show ¬ (1 : Int32) = 0 by decide), if_neg (show ¬ (1 : Int32) = 0 by decide), ea, eb, em, nI_clamp (by omega), nI_clamp (by omega), nI_clamp (by omega), grd_t (by
      unfold cpB
      rw [nI_clamp (by omega), nI_clamp (by omega), nI_clamp (by omega)]
      exact decide_eq_true ⟨nI_pos' (by omega), nI_pos' (by omega), nI_pos' (by omega), by omega, by omega⟩)]
    refine ⟨_, rfl, _, rfl, d5, ?_⟩
    rw [d6, ← a2, ← a5]
    exact cpy_eq ht ht h d3 d4
theorem p_shift1 {tp : Nat → tTp} {mso mmy : Nat → Int32} {mit : Nat → Int64} {t u : Nat} (ht : t < 6) (hu : u < 6) (i j n : Int32) (h : IT tp mso mmy mit) : ∃ q, X_shift_3 (nI t) i (nI u) j n (tp t).1 (tp t).2.1 (tp t).2.2 (tp u).1 (tp u).2.1 (tp u).2.2 = some q ∧ ∃ q', M_shift (nI t) i (nI u) j n mso mmy mit = some q' ∧ q'.1 = q.1 ∧ IT (tpU tp u ((tp u).1, (tp u).2.1, q.2)) mso mmy q'.2.1 := by
  obtain ⟨l, a1, a2, a3, a4, a5, a6, a7⟩ := h t ht
  obtain ⟨l', b1, b2, b3, b4, b5, b6_, b7⟩ := h u hu
  have same : IT (tpU tp u ((tp u).1, (tp u).2.1, (tp u).2.2)) mso mmy mit := by rw [tpU_same]; exact h
  obtain ⟨r, hr, hc⟩ := M_shift_eq ht hu i j n h
  unfold X_shift_3
  rw [(isTape_y ht).1, (isTape_y hu).1, if_neg (show ¬ (1 : Int32) = 0 by decide), if_neg (show ¬ (1 : Int32) = 0 by decide), a2, b2, hr, a5, b5]
  rcases hc with ⟨c, rfl⟩ | ⟨c1, c2, ⟨c3, rfl⟩ | ⟨c3, ⟨c4, rfl⟩ | ⟨a, b, m, ea, eb, em, d1, d2, d3, d4, d5, d6⟩⟩⟩
  · refine ⟨(-11, (tp u).2.2), ?_, _, rfl, rfl, by rw [← b5, ← b2]; exact same⟩
    rcases c with c | c
    · rw [if_pos c]; rfl
    · rw [if_pos c]; split <;> rfl
  · rw [if_neg c1, if_neg c2, if_neg c3]
    refine ⟨_, rfl, _, rfl, rfl, by rw [← b5, ← b2]; exact same⟩
  · rw [a6, b6_] at c4
    rw [if_neg c1, if_neg c2, if_pos c3]
    refine ⟨(-13, (tp u).2.2), ?_, _, rfl, rfl, by rw [← b5, ← b2]; exact same⟩
    rcases c4 with c4 | c4
    · rw [if_pos c4]; rfl
    · rw [if_pos c4]; split <;> rfl
  · rw [a6] at d1
    rw [b6_] at d2
    rw [if_neg c1, if_neg c2, if_pos c3, d1, d2, if_neg (show ¬ (1 : Int32) = 0 by decide), if_neg (show ¬ (1 : Int32) = 0 by decide)]
    unfold T_take_2
    rw [d1, d2, if_neg (show ¬ (1 : Int32) = 0 by decide), if_neg (show ¬ (1 : Int32) = 0 by decide), ea, eb, em, nI_clamp (by omega), nI_clamp (by omega), nI_clamp (by omega), grd_t (by
      unfold cpB
      rw [nI_clamp (by omega), nI_clamp (by omega), nI_clamp (by omega)]
      exact decide_eq_true ⟨nI_pos' (by omega), nI_pos' (by omega), nI_pos' (by omega), by omega, by omega⟩)]
    refine ⟨_, rfl, _, rfl, d5, ?_⟩
    rw [d6, ← b2, ← b5]
    exact cpy_eq ht hu h d3 d4
theorem shift_83 (v1 v2 v3 v4 v5 a1 a2 : Int32) (a3 : Nat → Int64) (b1 b2 : Int32) (b3 : Nat → Int64) : X_shift_8 v1 v2 v3 v4 v5 b1 b2 b3 a1 a2 a3 = X_shift_3 v1 v2 v3 v4 v5 a1 a2 a3 b1 b2 b3 := rfl
