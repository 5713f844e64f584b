/-! image, undo -/
theorem copies_eq (ms k : Nat → Int32) : ∃ k', M_copies ms k = some k' ∧ ∀ j, j < 122 → k' j = ms j := by
  unfold M_copies
  have := wh_tot (st := M_copies_s2 ms) (B := fun r => ∀ j, j < 122 → r j = ms j) (fun m t => ∃ i, i + m = 122 ∧ t.1 = nI i ∧ ∀ j, j < i → t.2 j = ms j) ?_ FU 122 ((0:Int32), k) (by have := FU_big; omega) ⟨0, rfl, rfl, fun j hj => absurd hj (Nat.not_lt_zero _)⟩
  · obtain ⟨r, e, h⟩ := this
    exact ⟨r, wbind e, h⟩
  rintro m ⟨y, f⟩ ⟨i, hm, e1, h⟩
  dsimp only at e1 h
  subst e1
  unfold M_copies_s2
  dsimp only
  by_cases c : i < 122
  · right
    rw [if_neg (show ¬ (122 : Int32) ≤ nI i from nI_ge (a := i) (b := 122) c (by decide)), grd_t (gi_nI c (by decide)), grd_t (gi_nI c (by decide)), nI_clamp (by omega), nI_1]
    refine ⟨m - 1, _, by omega, rfl, i + 1, by omega, rfl, fun j hj => ?_⟩
    dsimp only
    rw [upd_at]
    by_cases e : j = i
    · rw [if_pos e, e]
    · rw [if_neg e]; exact h j (by omega)
  · left
    have : i = 122 := by omega
    subst this
    rw [if_pos (by decide)]
    exact ⟨f, rfl, h⟩
theorem copies2_eq (ms k : Nat → Int32) : ∃ k', M_copies_2 ms k = some k' ∧ ∀ j, j < 122 → k' j = k j := by
  unfold M_copies_2
  have := wh_tot (st := M_copies_2_s2 k) (B := fun r => ∀ j, j < 122 → r j = k j) (fun m t => ∃ i, i + m = 122 ∧ t.1 = nI i ∧ ∀ j, j < i → t.2 j = k j) ?_ FU 122 ((0:Int32), ms) (by have := FU_big; omega) ⟨0, rfl, rfl, fun j hj => absurd hj (Nat.not_lt_zero _)⟩
  · obtain ⟨r, e, h⟩ := this
    exact ⟨r, wbind e, h⟩
  rintro m ⟨y, f⟩ ⟨i, hm, e1, h⟩
  dsimp only at e1 h
  subst e1
  unfold M_copies_2_s2
  dsimp only
  by_cases c : i < 122
  · right
    rw [if_neg (show ¬ (122 : Int32) ≤ nI i from nI_ge (a := i) (b := 122) c (by decide)), grd_t (gi_nI c (by decide)), grd_t (gi_nI c (by decide)), nI_clamp (by omega), nI_1]
    refine ⟨m - 1, _, by omega, rfl, i + 1, by omega, rfl, fun j hj => ?_⟩
    dsimp only
    rw [upd_at]
    by_cases e : j = i
    · rw [if_pos e, e]
    · rw [if_neg e]; exact h j (by omega)
  · left
    have : i = 122 := by omega
    subst this
    rw [if_pos (by decide)]
    exact ⟨f, rfl, h⟩
/-- rows copied one by one -/
theorem rcopy1 {l : Nat} (hl : l ≤ 4) {ns : Int32} {o q : Nat → Int32} (hs : ns = nI l) (ko kq : Nat → Int32) : ∃ o' q', R_copy ns o q ko kq = some (nI l, o', q') ∧ ∀ i, i < l → o' i = o i ∧ q' i = q i := by
  unfold R_copy R_emptied
  rw [wbind rfl]
  have := wh_tot (st := R_copy_s7 ns o q) (B := fun r => r.1 = nI l ∧ ∀ i, i < l → r.2.1 i = o i ∧ r.2.2 i = q i) (fun m t => ∃ i, i + m = l ∧ t.1 = nI i ∧ t.2.1 = nI i ∧ ∀ j, j < i → t.2.2.1 j = o j ∧ t.2.2.2 j = q j) ?_ FU l ((0:Int32), (0:Int32), ko, kq) (by have := FU_big; omega) ⟨0, by omega, rfl, rfl, fun j hj => absurd hj (Nat.not_lt_zero _)⟩
  · obtain ⟨⟨a, b, c⟩, e, h1, h2⟩ := this
    dsimp only at h1
    subst h1
    exact ⟨b, c, wbind e, h2⟩
  rintro m ⟨y, z, f, g⟩ ⟨i, hm, e1, e2, h⟩
  dsimp only at e1 e2 h
  subst e1 e2
  unfold R_copy_s7
  dsimp only
  by_cases c : i < l
  · right
    rw [hs, if_neg (nI_ge c (by omega)), R_one_eq (by omega), wbind rfl, R_other_eq (by omega), wbind rfl, R_append_eq _ _ (by omega), if_neg (by omega), wbind rfl, nI_1]
    refine ⟨m - 1, _, by omega, rfl, i + 1, by omega, rfl, rfl, fun j hj => ?_⟩
    dsimp only
    rw [upd_at, upd_at]
    by_cases e : j = i
    · rw [if_pos e, if_pos e, e]; exact ⟨rfl, rfl⟩
    · rw [if_neg e, if_neg e]; exact h j (by omega)
  · left
    have : i = l := by omega
    subst this
    rw [hs, if_pos (nI_le (Nat.le_refl _) (by omega))]
    exact ⟨_, rfl, rfl, h⟩
theorem rcopy2 {l : Nat} (hl : l ≤ 8) {ns : Int32} {o q : Nat → Int32} (hs : ns = nI l) (ko kq : Nat → Int32) : ∃ o' q', R_copy_2 ns o q ko kq = some (nI l, o', q') ∧ ∀ i, i < l → o' i = o i ∧ q' i = q i := by
  unfold R_copy_2 R_emptied
  rw [wbind rfl]
  have := wh_tot (st := R_copy_2_s7 ns o q) (B := fun r => r.1 = nI l ∧ ∀ i, i < l → r.2.1 i = o i ∧ r.2.2 i = q i) (fun m t => ∃ i, i + m = l ∧ t.1 = nI i ∧ t.2.1 = nI i ∧ ∀ j, j < i → t.2.2.1 j = o j ∧ t.2.2.2 j = q j) ?_ FU l ((0:Int32), (0:Int32), ko, kq) (by have := FU_big; omega) ⟨0, by omega, rfl, rfl, fun j hj => absurd hj (Nat.not_lt_zero _)⟩
  · obtain ⟨⟨a, b, c⟩, e, h1, h2⟩ := this
    dsimp only at h1
    subst h1
    exact ⟨b, c, wbind e, h2⟩
  rintro m ⟨y, z, f, g⟩ ⟨i, hm, e1, e2, h⟩
  dsimp only at e1 e2 h
  subst e1 e2
  unfold R_copy_2_s7
  dsimp only
  by_cases c : i < l
  · right
    rw [hs, if_neg (nI_ge c (by omega)), R_one_2_eq (by omega), wbind rfl, R_other_2_eq (by omega), wbind rfl, R_append_2_eq _ _ (by omega), if_neg (by omega), wbind rfl, nI_1]
    refine ⟨m - 1, _, by omega, rfl, i + 1, by omega, rfl, rfl, fun j hj => ?_⟩
    dsimp only
    rw [upd_at, upd_at]
    by_cases e : j = i
    · rw [if_pos e, if_pos e, e]; exact ⟨rfl, rfl⟩
    · rw [if_neg e, if_neg e]; exact h j (by omega)
  · left
    have : i = l := by omega
    subst this
    rw [hs, if_pos (nI_le (Nat.le_refl _) (by omega))]
    exact ⟨_, rfl, rfl, h⟩
theorem rcopy45 (a b ko kq : Nat → Int32) (ks : Int32) : R_copy_4 a b ks ko kq = R_copy ks ko kq a b ∧ R_copy_5 a b ks ko kq = R_copy_2 ks ko kq a b := ⟨rfl, rfl⟩
theorem IL_cp {vld : Nat → Nat → Prop} {cap ci base : Nat} {sz : Int32} {o q ms : Nat → Int32} (h : IL vld cap ci base sz o q ms) : ∃ l : Nat, l ≤ cap ∧ sz = nI l ∧ ∀ o' q' : Nat → Int32, (∀ i, i < l → o' i = o i ∧ q' i = q i) → IL vld cap ci base (nI l) o' q' ms := by
  obtain ⟨l, h1, h2, h3, h4⟩ := h
  refine ⟨l, h1, h2, fun o' q' hh => ⟨l, h1, rfl, h3, fun i hi => ?_⟩⟩
  obtain ⟨a, b, k1, k2, k3, k4, k5⟩ := h4 i hi
  obtain ⟨e1, e2⟩ := hh i hi
  exact ⟨a, b, k1, e1.trans k2, e2.trans k3, k4, k5⟩
theorem TL_ext {w : Int64} {mt mt' : Nat → Int32} {H : Nat → Int} (h : TL w mt H) (e : ∀ c, c < 36 → mt' c = mt c) : TL w mt' H := by
  obtain ⟨h1, h2, h3, h4⟩ := h
  refine ⟨h1, fun c hc => ?_, h3, fun v k hv hk hU => ?_⟩
  · rw [e c hc]
    rcases h2 c hc with q | ⟨d, hd, q1, q2, q3⟩
    · exact Or.inl q
    · exact Or.inr ⟨d, hd, q1, by rw [e d hd]; exact q2, q3⟩
  · rw [h4 v k hv hk hU]
    have : tw mt' v k = tw mt v k := by
      unfold tw
      cases h1 : iiB (tg_lp v k) with
      | false => rfl
      | true => rw [e _ (fr_ix (w := 0) (iiB_t h1)).2]
    rw [this]
theorem cpy0 {f g : Nat → Int32} {n j : Nat} (h : j < n) : va_cpy f g 0 0 n j = f j := by
  rw [pk_cpy_in (by omega) (by omega)]
  congr 1
  omega
section IMG
variable {rg mrg : Int64} {ld ps pl ss es gs : Int32} {mt pw so sq eo eq go gq ms : Nat → Int32}
/-- a state copied: the same over other arrays -/
theorem St_copy (h : St rg ld mt ps pl pw ss so sq es eo eq gs go gq mrg ms) {ms' : Nat → Int32} (hms : ∀ j, j < 122 → ms' j = ms j) (kmt kpw kso ksq keo keq kgo kgq : Nat → Int32) : ∃ so' sq' eo' eq' go' gq', P_copy ps pl pw kpw = some (ps, pl, va_cpy pw kpw 0 0 40) ∧ R_copy ss so sq kso ksq = some (ss, so', sq') ∧ R_copy_2 es eo eq keo keq = some (es, eo', eq') ∧ R_copy_2 gs go gq kgo kgq = some (gs, go', gq') ∧ St rg ld (va_cpy mt kmt 0 0 36) ps pl (va_cpy pw kpw 0 0 40) ss so' sq' es eo' eq' gs go' gq' mrg ms' := by
  obtain ⟨h1, h2, h3, h4, h5, h6⟩ := h
  have h2' : IA rg ld mt ms' := IA_ext (hms 0 (by decide)) (fun c hc => hms _ (by omega)) h2
  have h3' : IP ps pl pw ms' := IP_ext (hms 1 (by decide)) (hms 2 (by decide)) (fun i hi => hms _ (by omega)) h3
  have h4' := IL_ext (hms 3 (by decide)) (fun j _ b => hms j (by omega)) h4
  have h5' := IL_ext (hms 4 (by decide)) (fun j _ b => hms j (by omega)) h5
  have h6' := IL_ext (hms 5 (by decide)) (fun j _ b => hms j (by omega)) h6
  obtain ⟨l4, c4, s4, g4⟩ := IL_cp h4'
  obtain ⟨l5, c5, s5, g5⟩ := IL_cp h5'
  obtain ⟨l6, c6, s6, g6⟩ := IL_cp h6'
  obtain ⟨o4, q4, e4, f4⟩ := rcopy1 c4 (o := so) (q := sq) s4 kso ksq
  obtain ⟨o5, q5, e5, f5⟩ := rcopy2 c5 (o := eo) (q := eq) s5 keo keq
  obtain ⟨o6, q6, e6, f6⟩ := rcopy2 c6 (o := go) (q := gq) s6 kgo kgq
  rw [← s4] at e4
  rw [← s5] at e5
  rw [← s6] at e6
  refine ⟨o4, q4, o5, q5, o6, q6, rfl, e4, e5, e6, h1, ?_, ?_, ?_, ?_, ?_⟩
  · rcases h2' with ⟨a, b, c⟩ | ⟨a, b, c, d⟩
    · exact Or.inl ⟨a, b, c⟩
    · exact Or.inr ⟨a, b, fun c' hc' => by rw [cpy0 hc']; exact c c' hc', trivial⟩
  · obtain ⟨l, vs, ws, k1, k2, k3, k4, k5, k6, k7⟩ := h3'
    refine ⟨l, vs, ws, k1, k2, k3, k4, k5, k6, fun i hi => ?_⟩
    obtain ⟨j1, j2, j3, j4, j5⟩ := k7 i hi
    exact ⟨j1, j2, j3, by rw [cpy0 (by omega)]; exact j4, j5⟩
  · have := g4 o4 q4 f4
    rw [← s4] at this
    exact this
  · have := g5 o5 q5 f5
    rw [← s5] at this
    exact this
  · have := g6 o6 q6 f6
    rw [← s6] at this
    exact this
theorem IA_zb {w : Int64} (h : IA w ld mt ms) : zb ld = true := by
  rcases IA_01 h with ⟨a, _⟩ | ⟨a, _⟩ <;> rw [a] <;> decide
theorem TI_copy (h : TI rg ld mt) (k : Nat → Int32) : TI rg ld (va_cpy mt k 0 0 36) := fun q => by
  obtain ⟨H, hH⟩ := h q
  exact ⟨H, TL_ext hH (fun c hc => cpy0 hc)⟩
theorem p_image (h : St rg ld mt ps pl pw ss so sq es eo eq gs go gq mrg ms) (hI : TI rg ld mt) (kmt kpw kso ksq keo keq kgo kgq mkp : Nat → Int32) : ∃ q, X_image rg ld mt ps pl pw ss so sq es eo eq gs go gq kmt kpw kso ksq keo keq kgo kgq = some q ∧ ∃ q', M_image mrg ms mkp = some q' ∧ q'.1 = q.1 ∧ q.2.1 = 1 ∧ q'.2.2.1 = 1 ∧ St q.2.2.1 q.2.2.2.1 q.2.2.2.2.1 q.2.2.2.2.2.1 q.2.2.2.2.2.2.1 q.2.2.2.2.2.2.2.1 q.2.2.2.2.2.2.2.2.1 q.2.2.2.2.2.2.2.2.2.1 q.2.2.2.2.2.2.2.2.2.2.1 q.2.2.2.2.2.2.2.2.2.2.2.1 q.2.2.2.2.2.2.2.2.2.2.2.2.1 q.2.2.2.2.2.2.2.2.2.2.2.2.2.1 q.2.2.2.2.2.2.2.2.2.2.2.2.2.2.1 q.2.2.2.2.2.2.2.2.2.2.2.2.2.2.2.1 q.2.2.2.2.2.2.2.2.2.2.2.2.2.2.2.2 q'.2.1 q'.2.2.2 ∧ TI q.2.2.1 q.2.2.2.1 q.2.2.2.2.1 := by
  have e := h.1.1
  have hR := h.1.2
  subst e
  obtain ⟨k', c1, c2⟩ := copies_eq ms mkp
  obtain ⟨so', sq', eo', eq', go', gq', e1, e2, e3, e4, hS⟩ := St_copy h c2 kmt kpw kso ksq keo keq kgo kgq
  unfold X_image S_copy M_image
  rw [grd_t (IA_zb h.2.1), e1, wbind rfl, e2, wbind rfl, e3, wbind rfl, e4, wbind rfl, wbind rfl, c1, wbind rfl, cells_eq, wbind rfl]
  refine ⟨_, rfl, _, rfl, ?_, rfl, rfl, hS, TI_copy hI kmt⟩
  dsimp only
  rw [bitCount_36 hR]
theorem p_undo {im mik : Int32} (h : St rg ld mt ps pl pw ss so sq es eo eq gs go gq mrg ms) (hI : TI rg ld mt) {krg mkr : Int64} {kld kps kpl kss kes kgs : Int32} {kmt kpw kso ksq keo keq kgo kgq mkp : Nat → Int32} (hk : (im = 0 ∧ mik = 0) ∨ (im = 1 ∧ mik = 1 ∧ St krg kld kmt kps kpl kpw kss kso ksq kes keo keq kgs kgo kgq mkr mkp ∧ TI krg kld kmt)) : ∃ q, X_undo im rg ld mt ps pl pw ss so sq es eo eq gs go gq krg kld kmt kps kpl kpw kss kso ksq kes keo keq kgs kgo kgq = some q ∧ ∃ q', M_undo mrg mkr mik ms mkp = some q' ∧ q'.1 = q.1 ∧ St q.2.1 q.2.2.1 q.2.2.2.1 q.2.2.2.2.1 q.2.2.2.2.2.1 q.2.2.2.2.2.2.1 q.2.2.2.2.2.2.2.1 q.2.2.2.2.2.2.2.2.1 q.2.2.2.2.2.2.2.2.2.1 q.2.2.2.2.2.2.2.2.2.2.1 q.2.2.2.2.2.2.2.2.2.2.2.1 q.2.2.2.2.2.2.2.2.2.2.2.2.1 q.2.2.2.2.2.2.2.2.2.2.2.2.2.1 q.2.2.2.2.2.2.2.2.2.2.2.2.2.2.1 q.2.2.2.2.2.2.2.2.2.2.2.2.2.2.2 q'.2.1 q'.2.2 ∧ TI q.2.1 q.2.2.1 q.2.2.2.1 := by
  unfold X_undo M_undo
  rcases hk with ⟨i0, m0⟩ | ⟨i1, m1, hS, hT⟩
  · rw [i0, m0, if_pos rfl, if_pos rfl]
    exact ⟨_, rfl, _, rfl, rfl, h, hI⟩
  · have e := hS.1.1
    have hR := hS.1.2
    subst e
    obtain ⟨k', c1, c2⟩ := copies2_eq ms mkp
    obtain ⟨so', sq', eo', eq', go', gq', e1, e2, e3, e4, hS'⟩ := St_copy hS c2 mt pw so sq eo eq go gq
    have e1' : P_copy_2 pw kps kpl kpw = some (kps, kpl, va_cpy kpw pw 0 0 40) := rfl
    unfold S_copy_2
    rw [i1, m1, if_neg (show ¬ (1:Int32) = 0 by decide), if_neg (show ¬ (1:Int32) = 0 by decide), grd_t (IA_zb hS.2.1), e1', wbind rfl, (rcopy45 so sq kso ksq kss).1, e2, wbind rfl, (rcopy45 eo eq keo keq kes).2, e3, wbind rfl, (rcopy45 go gq kgo kgq kgs).2, e4, wbind rfl, wbind rfl, c1, wbind rfl, cells_eq, wbind rfl]
    refine ⟨_, rfl, _, rfl, ?_, hS', TI_copy hT mt⟩
    dsimp only
    rw [bitCount_36 hR]
end IMG
