/-! heights by a tiling: the class's way and the reference's -/
theorem two_eq {v k : Nat} (hv : v < 49) (hk : k < 4) (mt : Nat → Int32) : S_areTwo (G_leftOf (nI v) (nI k)) (G_rightOf (nI v) (nI k)) 1 mt = some (bI (tw mt v k)) := by
  obtain ⟨_, _, t3, t4⟩ := st_tbl v hv k hk
  have cI' : ∀ p, ceI p = if iiB p = true then nI (ixp p) else -1 := fun p => by
    unfold ceI
    by_cases c : 1 ≤ p / 8 ∧ p / 8 ≤ 6 ∧ 1 ≤ p % 8 ∧ p % 8 ≤ 6
    · rw [if_pos c, if_pos (iiB_of c)]; rfl
    · rw [if_neg c, if_neg (fun q => c (iiB_t q))]
  unfold S_areTwo S_areTwo_j35 S_areTwo_j36
  rw [t3, t4, if_neg (show ¬ (1:Int32) = 0 by decide), cI', cI']
  unfold tw
  cases h1 : iiB (tg_lp v k) with
  | false => rfl
  | true =>
    obtain ⟨_, l1⟩ := fr_ix (w := 0) (iiB_t h1)
    rw [if_pos rfl, show G_isCell (nI (ixp (tg_lp v k))) = 1 from (by decide : ∀ k, k < 36 → G_isCell (nI k) = 1) _ l1, if_neg (show ¬ (1 : Int32) = 0 by decide)]
    cases h2 : iiB (tg_rp v k) with
    | false => rfl
    | true =>
      obtain ⟨_, l2⟩ := fr_ix (w := 0) (iiB_t h2)
      rw [if_pos rfl, show G_isCell (nI (ixp (tg_rp v k))) = 1 from (by decide : ∀ k, k < 36 → G_isCell (nI k) = 1) _ l2, if_neg (show ¬ (1 : Int32) = 0 by decide), grd_t (gi_nI l1 (by decide)), nI_clamp (by omega)]
      by_cases c : mt (ixp (tg_lp v k)) = nI (ixp (tg_rp v k))
      · rw [if_pos c, decide_eq_true c]; rfl
      · rw [if_neg c, decide_eq_false c]; rfl
theorem bit_if {α : Type} {s : Int64} {i : Nat} (hi : i < 64) (x y : α) : (if (((s.toUInt64 >>> ((nI i).toInt64.toUInt64 &&& Int64.toUInt64 63)).toInt64) &&& (1:Int64)) = (0:Int64) then x else y) = if b6 s i then y else x := by
  cases h : b6 s i with
  | false => rw [if_pos ((b6_test hi).mpr h)]; rfl
  | true => rw [if_neg (fun q => by rw [(b6_test hi).mp q] at h; cases h)]; rfl
section RAISE
variable {w : Int64} {mt : Nat → Int32} {H : Nat → Int}
theorem rb_eq (hT : TL w mt H) {st : Nat → Int32} (hst : ∀ v, v < 49 → tg_okS (fr w) v (st v)) {v : Nat} (hv : v < 49) {s : Int64} (hsv : b6 s v = true) {ra : Nat → Int32} (hra : ∀ x, x < 49 → b6 s x = true → ra x = iZ (H x)) : ∃ more ra', O_raiseBehind (nI v) s 1 mt st ra = some (more, ra') ∧ (∀ x, x < 49 → (b6 s x || b6 more x) = true → ra' x = iZ (H x)) ∧ (∀ i, i < 64 → b6 more i = true → i < 49 ∧ tg_of (fr w) i = true) ∧ (∀ k, k < 4 → tg_U (fr w) v k = true → (b6 s (tg_nx v k) || b6 more (tg_nx v k)) = true) := by
  unfold O_raiseBehind
  rw [isV_y v hv, if_neg (show ¬ (1:Int32) = 0 by decide)]
  have := wh_tot (st := O_raiseBehind_s16 (nI v) s 1 mt st) (B := fun r => (∀ x, x < 49 → (b6 s x || b6 r.1 x) = true → r.2 x = iZ (H x)) ∧ (∀ i, i < 64 → b6 r.1 i = true → i < 49 ∧ tg_of (fr w) i = true) ∧ (∀ k, k < 4 → tg_U (fr w) v k = true → (b6 s (tg_nx v k) || b6 r.1 (tg_nx v k)) = true))
    (fun m t => ∃ k, k + m = 4 ∧ t.2.1 = nI k ∧ (∀ x, x < 49 → (b6 s x || b6 t.1 x) = true → t.2.2 x = iZ (H x)) ∧ (∀ i, i < 64 → b6 t.1 i = true → i < 49 ∧ tg_of (fr w) i = true) ∧ (∀ j, j < k → j < 4 → tg_U (fr w) v j = true → (b6 s (tg_nx v j) || b6 t.1 (tg_nx v j)) = true)) ?_ FU 4 ((0:Int64), (0:Int32), ra) (by have := FU_big; omega) ⟨0, rfl, rfl, fun x hx h => by
      dsimp only at h
      rw [b6_0, Bool.or_false] at h
      exact hra x hx h, fun i _ h => by (dsimp only at h; rw [b6_0] at h; cases h), fun j hj => absurd hj (Nat.not_lt_zero _)⟩
  · obtain ⟨⟨a, b⟩, e, h1, h2, h3⟩ := this
    exact ⟨a, b, wbind e, h1, h2, h3⟩
  rintro m ⟨mo, y, r⟩ ⟨k, hk, e1, h1, h2, h3⟩
  dsimp only at e1 h1 h2 h3
  subst e1
  unfold O_raiseBehind_s16 O_raiseBehind_j130
  dsimp only
  rcases Nat.lt_or_ge k 4 with c | c
  rotate_left
  · left
    have : k = 4 := by omega
    subst this
    rw [if_pos (by decide)]
    exact ⟨_, rfl, h1, h2, fun j hj => h3 j hj hj⟩
  right
  have am : O_isAmong (st v) (nI k) (0:Int32) = bI (tg_U (fr w) v k) := by
    show O_isAmong (st v) (nI k) (nI 0) = _
    rw [isAmong_eq (by omega), hst v hv _ (by omega), Nat.add_zero]
    unfold tg_s
    rw [if_pos c]
  rw [if_neg (show ¬ (4 : Int32) ≤ nI k from nI_ge (a := k) (b := 4) c (by decide)), grd_t (gi_nI hv (by decide)), nI_clamp (by omega), am, nI_1]
  cases hU : tg_U (fr w) v k with
  | false =>
    rw [if_pos (show bI false = 0 from rfl), if_pos rfl]
    refine ⟨m - 1, _, by omega, rfl, k + 1, by omega, rfl, h1, h2, fun j hj hj4 hUj => ?_⟩
    by_cases e : j = k
    · rw [e, hU] at hUj; cases hUj
    · exact h3 j (by omega) hj4 hUj
  | true =>
    have hd := tg_A_vd (fr_Fr w) hv c (tg_UA hU).2
    have hy := tg_vd_lt hv c hd
    have oy := A_nx (fr_Fr w) hv c (tg_UA hU).2
    obtain ⟨_, _, t3⟩ := st_tbl3 v hv k c
    have t3 := t3 hd
    rw [if_neg (show ¬ bI true = 0 by decide), t3, isV_y _ hy, if_neg (show ¬ (1:Int32) = 0 by decide), if_neg (show ¬ (1:Int32) = 0 by decide), bit_if (by omega)]
    cases hsy : b6 s (tg_nx v k) with
    | true =>
      rw [if_pos rfl]
      refine ⟨m - 1, _, by omega, rfl, k + 1, by omega, rfl, h1, h2, fun j hj hj4 hUj => ?_⟩
      by_cases e : j = k
      · rw [e, hsy]; rfl
      · exact h3 j (by omega) hj4 hUj
    | false =>
      rw [if_neg (by decide), two_eq hv c, wbind rfl, grd_t (gi_nI hv (by decide)), grd_t (gi_nI hy (by decide)), nI_clamp (by omega), h1 v hv (by rw [hsv]; rfl)]
      have eH : iZ (H v) + (if bI (tw mt v k) = (0:Int32) then (1:Int32) else (-3:Int32)) = iZ (H (tg_nx v k)) := by
        rw [hT.2.2.2 v k hv c hU, ← iZ_add, bI_if]
        cases tw mt v k <;> rfl
      rw [eH]
      have b6n : ∀ i, i < 64 → b6 (mo ||| ((1:Int64) <<< ((nI (tg_nx v k)).toInt64 &&& 63))) i = (b6 mo i || decide (i = tg_nx v k)) := fun i hi => by rw [b6_or, b6_bit (by omega) hi]
      refine ⟨m - 1, _, by omega, rfl, k + 1, by omega, rfl, fun x hx hb => ?_, fun i hi hb => ?_, fun j hj hj4 hUj => ?_⟩
      · dsimp only at hb ⊢
        rw [b6n x (by omega)] at hb
        rw [upd_at]
        by_cases e : x = tg_nx v k
        · rw [if_pos e, e]
        · rw [if_neg e]
          rw [decide_eq_false e, Bool.or_false] at hb
          exact h1 x hx hb
      · dsimp only at hb
        rw [b6n i hi, Bool.or_eq_true] at hb
        rcases hb with hb | hb
        · exact h2 i hi hb
        · rw [of_decide_eq_true hb]
          exact ⟨hy, oy⟩
      · dsimp only
        have hj49 := tg_vd_lt hv hj4 (tg_A_vd (fr_Fr w) hv hj4 (tg_UA hUj).2)
        rw [b6n _ (by omega)]
        by_cases e : j = k
        · rw [e, decide_eq_true rfl, Bool.or_true, Bool.or_true]
        · have := h3 j (by omega) hj4 hUj
          rw [Bool.or_eq_true] at this
          rcases this with q | q
          · rw [q]; rfl
          · rw [q, Bool.true_or, Bool.or_true]
theorem raise_round (hT : TL w mt H) {st : Nat → Int32} (hst : ∀ v, v < 49 → tg_okS (fr w) v (st v)) {s : Int64} {ra : Nat → Int32} (hra : ∀ x, x < 49 → b6 s x = true → ra x = iZ (H x)) (hs : ∀ i, i < 64 → b6 s i = true → i < 49 ∧ tg_of (fr w) i = true) : ∃ s' ra', wh (O_raise_s42 1 mt st) FU (s, (0:Int32), ra) = some (s', ra') ∧ (∀ x, x < 49 → b6 s' x = true → ra' x = iZ (H x)) ∧ (∀ i, i < 64 → b6 s' i = true → i < 49 ∧ tg_of (fr w) i = true) ∧ (∀ i, b6 s i = true → b6 s' i = true) ∧ (∀ v k, v < 49 → k < 4 → b6 s v = true → tg_U (fr w) v k = true → b6 s' (tg_nx v k) = true) := by
  have := wh_tot (st := O_raise_s42 1 mt st) (B := fun r => (∀ x, x < 49 → b6 r.1 x = true → r.2 x = iZ (H x)) ∧ (∀ i, i < 64 → b6 r.1 i = true → i < 49 ∧ tg_of (fr w) i = true) ∧ (∀ i, b6 s i = true → b6 r.1 i = true) ∧ (∀ v k, v < 49 → k < 4 → b6 s v = true → tg_U (fr w) v k = true → b6 r.1 (tg_nx v k) = true))
    (fun m t => ∃ i, i + m = 49 ∧ t.2.1 = nI i ∧ (∀ x, x < 49 → b6 t.1 x = true → t.2.2 x = iZ (H x)) ∧ (∀ i, i < 64 → b6 t.1 i = true → i < 49 ∧ tg_of (fr w) i = true) ∧ (∀ i, b6 s i = true → b6 t.1 i = true) ∧ (∀ v k, v < i → v < 49 → k < 4 → b6 s v = true → tg_U (fr w) v k = true → b6 t.1 (tg_nx v k) = true)) ?_ FU 49 (s, (0:Int32), ra) (by have := FU_big; omega) ⟨0, rfl, rfl, hra, hs, fun _ h => h, fun v k hv => absurd hv (Nat.not_lt_zero _)⟩
  · obtain ⟨⟨a, b⟩, e, h⟩ := this
    exact ⟨a, b, e, h⟩
  rintro m ⟨t, y, r⟩ ⟨i, hi, e1, h1, h2, h3, h4⟩
  dsimp only at e1 h1 h2 h3 h4
  subst e1
  unfold O_raise_s42 O_raise_j71
  dsimp only
  rcases Nat.lt_or_ge i 49 with c | c
  rotate_left
  · left
    have : i = 49 := by omega
    subst this
    rw [if_pos (by decide)]
    exact ⟨_, rfl, h1, h2, h3, fun v k hv => h4 v k hv hv⟩
  right
  rw [if_neg (show ¬ (49 : Int32) ≤ nI i from nI_ge (a := i) (b := 49) c (by decide)), bit_if (by omega)]
  cases hti : b6 t i with
  | false =>
    rw [if_neg (by decide), nI_1]
    refine ⟨m - 1, _, by omega, rfl, i + 1, by omega, rfl, h1, h2, h3, fun v k hv hv49 hk hb hU => ?_⟩
    by_cases e : v = i
    · rw [e] at hb
      rw [h3 i hb] at hti; cases hti
    · exact h4 v k (by omega) hv49 hk hb hU
  | true =>
    obtain ⟨mo, r', z1, z2, z3, z4⟩ := rb_eq hT hst c hti h1
    rw [if_pos rfl, z1, wbind rfl, nI_1]
    refine ⟨m - 1, _, by omega, rfl, i + 1, by omega, rfl, fun x hx hb => ?_, fun j hj hb => ?_, fun j hb => ?_, fun v k hv hv49 hk hb hU => ?_⟩
    · dsimp only at hb ⊢
      rw [b6_or] at hb
      exact z2 x hx hb
    · dsimp only at hb
      rw [b6_or, Bool.or_eq_true] at hb
      rcases hb with hb | hb
      · exact h2 j hj hb
      · exact z3 j hj hb
    · dsimp only
      rw [b6_or, h3 j hb]; rfl
    · dsimp only
      rw [b6_or]
      by_cases e : v = i
      · rw [e] at hU ⊢
        exact z4 k hk hU
      · rw [h4 v k (by omega) hv49 hk hb hU]; rfl
theorem raise_eq (hT : TL w mt H) {si ti le to : Int32} {ow co : Int64} {st wa wv wh' lo hi : Nat → Int32} (hL : LK w si ti le to ow co st wa wv wh' lo hi) (ora : Nat → Int32) : ∃ ra, O_raise 1 mt ow co st wh' ora = some ra ∧ ∀ x, x < 49 → tg_of (fr w) x = true → ra x = iZ (H x) := by
  obtain ⟨_, _, hst, hco, hX, _, _⟩ := hL
  have hs := (til_t hT.1).1
  obtain ⟨_, _, hX⟩ := hX hs
  have P1 := (wd_pP hs).1
  unfold O_raise
  have hcnt0 : ∃ i, i < 49 ∧ b6 ow i = true := ⟨wdv w 0, (wd_ok hs 0).1, by
    rw [hX.1 _ (by have := (wd_ok hs 0).1; omega)]
    exact wdon_iff.mpr ⟨0, by omega, rfl⟩⟩
  have := wh_tot (st := O_raise_s23 1 mt co st) (B := fun ra => ∀ x, x < 49 → tg_of (fr w) x = true → ra x = iZ (H x))
    (fun m t => ∃ r, r + m = 49 ∧ t.2.1 = nI r ∧ (∀ x, x < 49 → b6 t.1 x = true → t.2.2 x = iZ (H x)) ∧ (∀ i, i < 64 → b6 t.1 i = true → i < 49 ∧ tg_of (fr w) i = true) ∧ (∀ i, b6 ow i = true → b6 t.1 i = true) ∧ r + 1 ≤ cnt (b6 t.1) 49) ?_ FU 49 (ow, (0:Int32), va_cpy wh' ora (0:Int32).toNatClampNeg (0:Int32).toNatClampNeg (49:Int32).toNatClampNeg) (by have := FU_big; omega) ⟨0, rfl, rfl, fun x hx hb => by
      dsimp only at hb ⊢
      have e : va_cpy wh' ora (0:Int32).toNatClampNeg (0:Int32).toNatClampNeg (49:Int32).toNatClampNeg x = wh' x := by
        show va_cpy wh' ora 0 0 49 x = _
        rw [pk_cpy_in (by omega) (by omega)]
        congr 1
        omega
      rw [e]
      rw [hX.1 x (by omega)] at hb
      obtain ⟨j, j1, j2⟩ := wdon_iff.mp hb
      rw [← j2, (hX.2 j j1).2.2, hT.2.2.1 j j1], fun i hi hb => by
      dsimp only at hb
      rw [hX.1 i hi] at hb
      obtain ⟨j, j1, j2⟩ := wdon_iff.mp hb
      rw [← j2]
      exact ⟨(wd_ok hs j).1, wd_of hs j⟩, fun _ h => h, by
      obtain ⟨i, i1, i2⟩ := hcnt0
      have := cnt_lt (f := fun _ => false) (g := b6 ow) 49 (fun _ _ h => by cases h) ⟨i, i1, rfl, i2⟩
      dsimp only
      omega⟩
  · obtain ⟨ra, e, h⟩ := this
    exact ⟨ra, wbind e, h⟩
  rintro m ⟨t, y, ra⟩ ⟨r, hm, e1, h1, h2, h3, h4⟩
  dsimp only at e1 h1 h2 h3 h4
  subst e1
  have hle := cnt_le (b6 t) 49
  unfold O_raise_s23
  dsimp only
  rw [if_neg (show ¬ (49 : Int32) ≤ nI r from nI_ge (a := r) (b := 49) (by omega) (by decide))]
  by_cases c : t = co
  · left
    rw [if_pos c]
    refine ⟨ra, rfl, fun x hx ox => h1 x hx ?_⟩
    rw [c, hco x (by omega), decide_eq_true hx, ox]; rfl
  · right
    obtain ⟨s', ra', z1, z2, z3, z4, z5⟩ := raise_round hT hst h1 h2
    rw [if_neg c, z1, wbind rfl, nI_1]
    refine ⟨m - 1, _, by omega, rfl, r + 1, by omega, rfl, z2, z3, fun i hi => z4 i (h3 i hi), ?_⟩
    dsimp only
    -- something is settled that was not
    have hex : ∃ y, y < 49 ∧ tg_of (fr w) y = true ∧ b6 t y = false := by
      by_cases q : ∃ y, y < 49 ∧ tg_of (fr w) y = true ∧ b6 t y = false
      · exact q
      · refine absurd (b6_ext fun i hi => ?_) c
        rw [hco i hi]
        cases e : b6 t i with
        | true =>
          obtain ⟨a, b⟩ := h2 i hi e
          rw [decide_eq_true a, b]; rfl
        | false =>
          by_cases hi49 : i < 49
          · cases o : tg_of (fr w) i with
            | false => rw [Bool.and_false]
            | true => exact absurd ⟨i, hi49, o, e⟩ q
          · rw [decide_eq_false hi49]; rfl
    obtain ⟨y, hy, oy, by'⟩ := hex
    have b0 : b6 t (wdv w 0) = true := h3 _ (by
      rw [hX.1 _ (by have := (wd_ok hs 0).1; omega)]
      exact wdon_iff.mpr ⟨0, by omega, rfl⟩)
    obtain ⟨mm, pp⟩ := reach_w hs (wd_of hs 0) oy
    obtain ⟨a, k, a49, k4', aU, a1, a2⟩ := bp_exit (b6 t) b0 pp by'
    have := cnt_lt (f := b6 t) (g := b6 s') 49 (fun i _ h => z4 i h) ⟨tg_nx a k, tg_vd_lt a49 k4' (tg_A_vd (fr_Fr w) a49 k4' (tg_UA aU).2), a2, z5 a k a49 k4' a1 aU⟩
    omega
/-! the reference's -/
def hbO (w : Int64) (H : Nat → Int) (S : Nat → Bool) (by' ib : Nat → Int32) : Prop := ∀ v, v < 49 → ib v = bI (S v) ∧ (S v = true → tg_of (fr w) v = true ∧ by' v = iZ (H v))
theorem rise_eq (hT : TL w mt H) {ms : Nat → Int32} (hms : ∀ c, c < 36 → mt c = ms (6 + c)) {v k : Nat} (hv : v < 49) (hk : k < 4) : M_rise (nI v) (nI k) w ms = some (if tw mt v k then -3 else 1) := by
  obtain ⟨a1, a2, a3, a4⟩ := st_tbl2 v hv k hk
  obtain ⟨l1, l2⟩ := rp_64 hv hk
  have no : ¬ (fr w (tg_lp v k) = true ∧ fr w (tg_rp v k) = true) → tw mt v k = false := fun h => by
    cases e : tw mt v k with
    | false => rfl
    | true =>
      have := tw_F hT e
      exact absurd ⟨this.1, this.2.1⟩ h
  unfold M_rise M_rise_j18
  rw [hasL_eq hv hk, hasR_eq hv hk, bI_if, bI_if, a1, a2, a3, a4]
  cases h1 : fr w (tg_lp v k) with
  | false => rw [no (by rw [h1]; simp)]; rfl
  | true =>
    cases h2 : fr w (tg_rp v k) with
    | false => rw [no (by rw [h2]; simp)]; rfl
    | true =>
      have i1 := tg_in (fr_Fr w) h1
      have i2 := tg_in (fr_Fr w) h2
      obtain ⟨_, _, t3⟩ := rc_tbl _ l2
      obtain ⟨_, _, t4⟩ := rc_tbl _ l1
      obtain ⟨_, q1⟩ := fr_ix (w := w) i1
      have e1 : (6:Int32) * rwI (tg_lp v k) + clI (tg_lp v k) = nI (ixp (tg_lp v k)) := t3 ⟨i1.1, i1.2.1⟩ ⟨i1.2.2.1, i1.2.2.2⟩
      have e2 : (6:Int32) * rwI (tg_rp v k) + clI (tg_rp v k) = nI (ixp (tg_rp v k)) := t4 ⟨i2.1, i2.2.1⟩ ⟨i2.2.2.1, i2.2.2.2⟩
      rw [if_pos rfl, if_pos rfl, e1, e2, show (6:Int32) + nI (ixp (tg_lp v k)) = nI (6 + ixp (tg_lp v k)) from nI_add 6 _, grd_t (gi_nI (by omega) (by decide)), nI_clamp (by omega), ← hms _ q1]
      unfold tw
      rw [iiB_of i1, iiB_of i2, Bool.true_and, Bool.true_and]
      by_cases c : mt (ixp (tg_lp v k)) = nI (ixp (tg_rp v k))
      · rw [if_pos c, decide_eq_true c]; rfl
      · rw [if_neg c, decide_eq_false c]; rfl
theorem hb_in (hT : TL w mt H) {ms : Nat → Int32} (hms : ∀ c, c < 36 → mt c = ms (6 + c)) {v : Nat} (hv : v < 49) {S0 : Nat → Bool} (hpre : Prop) : ∀ (n k : Nat) (mo : Int32) (by' ib : Nat → Int32) (S : Nat → Bool), n + k = 4 → hbO w H S by' ib → (∀ i, S0 i = true → S i = true) → ((mo = 0 ∧ S = S0 ∧ hpre ∧ ∀ j, j < k → j < 4 → tg_U (fr w) v j = true → S0 v = S0 (tg_nx v j)) ∨ (mo = 1 ∧ cnt S0 49 < cnt S 49)) → ∀ N, n < N → ∃ mo' by'' ib' S', wh (M_heights_s69 (nI v) w ms) N (mo, nI k, by', ib) = some (mo', by'', ib') ∧ hbO w H S' by'' ib' ∧ (∀ i, S0 i = true → S' i = true) ∧ ((mo' = 0 ∧ S' = S0 ∧ hpre ∧ ∀ j, j < 4 → tg_U (fr w) v j = true → S0 v = S0 (tg_nx v j)) ∨ (mo' = 1 ∧ cnt S0 49 < cnt S' 49)) := by
  intro n
  induction n with
  | zero =>
    intro k mo by' ib S hk h1 h2 h3 N hN
    have : k = 4 := by omega
    subst this
    refine ⟨mo, by', ib, S, ?_, h1, h2, ?_⟩
    · rw [show N = (N - 1) + 1 by omega]
      refine wh_inr ?_
      unfold M_heights_s69
      dsimp only
      rw [if_pos (by decide)]
    · rcases h3 with ⟨a, b, c, d⟩ | h
      · exact Or.inl ⟨a, b, c, fun j hj => d j hj hj⟩
      · exact Or.inr h
  | succ n ih =>
    intro k mo by' ib S hk h1 h2 h3 N hN
    have hk4 : k < 4 := by omega
    have g4 : ¬ (4 : Int32) ≤ nI k := nI_ge (a := k) (b := 4) hk4 (by decide)
    have skip : M_heights_s69 (nI v) w ms (mo, nI k, by', ib) = some (Sum.inl (mo, nI (k + 1), by', ib)) → (tg_U (fr w) v k = true → S v = S (tg_nx v k)) → ∃ mo' by'' ib' S', wh (M_heights_s69 (nI v) w ms) N (mo, nI k, by', ib) = some (mo', by'', ib') ∧ hbO w H S' by'' ib' ∧ (∀ i, S0 i = true → S' i = true) ∧ ((mo' = 0 ∧ S' = S0 ∧ hpre ∧ ∀ j, j < 4 → tg_U (fr w) v j = true → S0 v = S0 (tg_nx v j)) ∨ (mo' = 1 ∧ cnt S0 49 < cnt S' 49)) := fun e c => by
      rw [show N = (N - 1) + 1 by omega, wh_inl e]
      refine ih (k + 1) mo by' ib S (by omega) h1 h2 ?_ (N - 1) (by omega)
      rcases h3 with ⟨a, b, c', d⟩ | h
      · refine Or.inl ⟨a, b, c', fun j hj hj4 hU => ?_⟩
        by_cases ej : j = k
        · rw [ej] at hU ⊢
          rw [← b]
          exact c hU
        · exact d j (by omega) hj4 hU
      · exact Or.inr h
    cases hU : tg_U (fr w) v k with
    | false =>
      refine skip ?_ (fun q => by rw [hU] at q; cases q)
      unfold M_heights_s69 M_heights_j206
      dsimp only
      rw [if_neg g4, isUp_eq hv hk4, hU, if_pos (show bI false = 0 from rfl), nI_1]
    | true =>
      have hd := tg_A_vd (fr_Fr w) hv hk4 (tg_UA hU).2
      have hy := tg_vd_lt hv hk4 hd
      have oy := A_nx (fr_Fr w) hv hk4 (tg_UA hU).2
      have ov := A_of hk4 (tg_UA hU).2
      obtain ⟨t3, _, _⟩ := st_tbl3 v hv k hk4
      have t3 : M_onBy (nI v) (nI k) = nI (tg_nx v k) := by rw [t3, hd]; rfl
      obtain ⟨i1, b1⟩ := h1 v hv
      obtain ⟨i2, b2⟩ := h1 _ hy
      have step := hT.2.2.2 v k hv hk4 hU
      have hne : tg_nx v k ≠ v := by
        intro q
        have := (tg_back hv hk4 hd).1
        have k2 := (k4_tbl v hv k hk4 hd).1 (tg_UA hU).1
        rw [q] at k2
        omega
      by_cases e : S v = S (tg_nx v k)
      · refine skip ?_ (fun _ => e)
        unfold M_heights_s69 M_heights_j206
        dsimp only
        rw [if_neg g4, isUp_eq hv hk4, hU, if_neg (show ¬ bI true = 0 by decide), grd_t (gi_nI hv (by decide)), t3, grd_t (gi_nI hy (by decide)), nI_clamp (by omega), nI_clamp (by omega)]
        simp only [i1, i2]
        rw [if_pos (by rw [e]), nI_1]
      · have hne2 : ¬ bI (S v) = bI (S (tg_nx v k)) := by
          intro q
          apply e
          cases h : S v <;> cases h' : S (tg_nx v k) <;> rw [h, h'] at q <;> first | rfl | exact absurd q (by decide)
        have est : ∃ by'' ib', M_heights_s69 (nI v) w ms (mo, nI k, by', ib) = some (Sum.inl (1, nI (k + 1), by'', ib')) ∧ (∀ x, by'' x = if x = v then iZ (H v) else if x = tg_nx v k then iZ (H (tg_nx v k)) else by' x) ∧ (∀ x, ib' x = if x = v ∨ x = tg_nx v k then 1 else ib x) := by
          have ib2 : ∀ x, upd (upd ib v 1) (tg_nx v k) 1 x = if x = v ∨ x = tg_nx v k then 1 else ib x := fun x => by
            rw [upd_at, upd_at]
            by_cases c1 : x = tg_nx v k
            · rw [if_pos c1, if_pos (Or.inr c1)]
            · rw [if_neg c1]
              by_cases c2 : x = v
              · rw [if_pos c2, if_pos (Or.inl c2)]
              · rw [if_neg c2, if_neg (by rintro (q | q); exact c2 q; exact c1 q)]
          unfold M_heights_s69 M_heights_j154 M_heights_j188 M_heights_j206
          dsimp only
          rw [if_neg g4, isUp_eq hv hk4, hU, if_neg (show ¬ bI true = 0 by decide), grd_t (gi_nI hv (by decide)), t3, grd_t (gi_nI hy (by decide)), nI_clamp (show v < 2 ^ 31 by omega), nI_clamp (show tg_nx v k < 2 ^ 31 by omega)]
          simp only [i1, i2]
          rw [if_neg hne2, rise_eq hT hms hv hk4, wbind rfl, nI_1]
          have gt1 : ∀ {α : Type} (k : Option α), grd (gi (nI v) 49) k = k := fun k => grd_t (gi_nI hv (by decide))
          have gt2 : ∀ {α : Type} (q : Option α), grd (gi (nI (tg_nx v k)) 49) q = q := fun q => grd_t (gi_nI hy (by decide))
          simp only [gt1, gt2]
          cases hSv : S v with
          | true =>
            have hby := (b1 hSv).2
            simp only [if_neg (show ¬ bI true = 0 by decide)]
            rw [upd_ne _ _ hne.symm, hby]
            refine ⟨_, _, rfl, fun x => ?_, ib2⟩
            rw [upd_at, upd_at]
            by_cases c1 : x = v
            · rw [if_pos c1, if_pos c1]
            · rw [if_neg c1, if_neg c1]
              by_cases c2 : x = tg_nx v k
              · rw [if_pos c2, if_pos c2, step, ← iZ_add]
                congr 1
                cases tw mt v k <;> rfl
              · rw [if_neg c2, if_neg c2]
          | false =>
            have hSy : S (tg_nx v k) = true := by
              cases h : S (tg_nx v k) with
              | true => rfl
              | false => exact absurd (hSv.trans h.symm) e
            have hby := (b2 hSy).2
            simp only [if_pos (show bI false = 0 from rfl)]
            rw [upd_eq, hby]
            refine ⟨_, _, rfl, fun x => ?_, ib2⟩
            rw [upd_at, upd_at]
            by_cases c1 : x = v
            · rw [if_pos c1, if_pos c1, show H v = H (tg_nx v k) - (if tw mt v k = true then -3 else 1) by omega, ← iZ_sub]
              congr 1
              cases tw mt v k <;> rfl
            · rw [if_neg c1, if_neg c1]
        obtain ⟨by'', ib', es, q1, q2⟩ := est
        rw [show N = (N - 1) + 1 by omega, wh_inl es]
        have mono : ∀ i, S i = true → (S i || decide (i = v) || decide (i = tg_nx v k)) = true := fun i h => by rw [h]; rfl
        have hc : cnt S 49 < cnt (fun i => S i || decide (i = v) || decide (i = tg_nx v k)) 49 := by
          refine cnt_lt 49 (fun i _ h => mono i h) ?_
          cases hSv : S v with
          | false => exact ⟨v, hv, hSv, by rw [decide_eq_true (show v = v from rfl), Bool.or_true]; rfl⟩
          | true =>
            refine ⟨tg_nx v k, hy, ?_, by rw [decide_eq_true (show tg_nx v k = tg_nx v k from rfl), Bool.or_true]⟩
            cases h : S (tg_nx v k) with
            | false => rfl
            | true => exact absurd (hSv.trans h.symm) e
        refine ih (k + 1) 1 by'' ib' (fun i => S i || decide (i = v) || decide (i = tg_nx v k)) (by omega) (fun x hx => ?_) (fun i h => mono i (h2 i h)) (Or.inr ⟨rfl, ?_⟩) (N - 1) (by omega)
        · rw [q1 x, q2 x]
          show _ = bI (S x || decide (x = v) || decide (x = tg_nx v k)) ∧ ((S x || decide (x = v) || decide (x = tg_nx v k)) = true → _)
          by_cases c1 : x = v
          · rw [if_pos (Or.inl c1), if_pos c1, decide_eq_true c1, Bool.or_true, Bool.true_or]
            exact ⟨rfl, fun _ => ⟨by rw [c1]; exact ov, by rw [c1]⟩⟩
          · by_cases c2 : x = tg_nx v k
            · rw [if_pos (Or.inr c2), if_neg c1, if_pos c2, decide_eq_true c2, Bool.or_true]
              exact ⟨rfl, fun _ => ⟨by rw [c2]; exact oy, by rw [c2]⟩⟩
            · rw [if_neg (by rintro (q | q); exact c1 q; exact c2 q), if_neg c1, if_neg c2, decide_eq_false c1, decide_eq_false c2, Bool.or_false, Bool.or_false]
              exact h1 x hx
        · rcases h3 with ⟨_, b, _, _⟩ | ⟨_, h⟩
          · rw [← b]; exact hc
          · omega
theorem hb_sweep (hT : TL w mt H) {ms : Nat → Int32} (hms : ∀ c, c < 36 → mt c = ms (6 + c)) {S0 : Nat → Bool} {by' ib : Nat → Int32} (h0 : hbO w H S0 by' ib) : ∃ mo by'' ib' S', wh (M_heights_s61 w ms) FU ((0:Int32), (0:Int32), by', ib) = some (mo, by'', ib') ∧ hbO w H S' by'' ib' ∧ (∀ i, S0 i = true → S' i = true) ∧ ((mo = 0 ∧ S' = S0 ∧ ∀ v j, v < 49 → j < 4 → tg_U (fr w) v j = true → S0 v = S0 (tg_nx v j)) ∨ (mo = 1 ∧ cnt S0 49 < cnt S' 49)) := by
  have := wh_tot (st := M_heights_s61 w ms) (B := fun r => ∃ S', hbO w H S' r.2.1 r.2.2 ∧ (∀ i, S0 i = true → S' i = true) ∧ ((r.1 = 0 ∧ S' = S0 ∧ ∀ v j, v < 49 → j < 4 → tg_U (fr w) v j = true → S0 v = S0 (tg_nx v j)) ∨ (r.1 = 1 ∧ cnt S0 49 < cnt S' 49)))
    (fun m t => ∃ i S, i + m = 49 ∧ t.2.1 = nI i ∧ hbO w H S t.2.2.1 t.2.2.2 ∧ (∀ i, S0 i = true → S i = true) ∧ ((t.1 = 0 ∧ S = S0 ∧ ∀ v j, v < i → j < 4 → tg_U (fr w) v j = true → S0 v = S0 (tg_nx v j)) ∨ (t.1 = 1 ∧ cnt S0 49 < cnt S 49))) ?_ FU 49 ((0:Int32), (0:Int32), by', ib) (by have := FU_big; omega) ⟨0, S0, rfl, rfl, h0, fun _ h => h, Or.inl ⟨rfl, rfl, fun v j hv => absurd hv (Nat.not_lt_zero _)⟩⟩
  · obtain ⟨⟨a, b, c⟩, e, S', h⟩ := this
    exact ⟨a, b, c, S', e, h⟩
  rintro m ⟨mo, y, b, ii⟩ ⟨i, S, hm, e1, h1, h2, h3⟩
  dsimp only at e1 h1 h2 h3
  subst e1
  unfold M_heights_s61
  dsimp only
  rcases Nat.lt_or_ge i 49 with c | c
  · right
    obtain ⟨mo', b', ii', S', z1, z2, z3, z4⟩ := hb_in hT hms c (S0 := S0) (∀ v j, v < i → j < 4 → tg_U (fr w) v j = true → S0 v = S0 (tg_nx v j)) 4 0 mo b ii S rfl h1 h2 (by
      rcases h3 with ⟨a, q, r⟩ | h
      · exact Or.inl ⟨a, q, r, fun j hj => absurd hj (Nat.not_lt_zero _)⟩
      · exact Or.inr h) FU (by have := FU_big; omega)
    have z1 : wh (M_heights_s69 (nI i) w ms) FU (mo, (0:Int32), b, ii) = some (mo', b', ii') := z1
    rw [if_neg (show ¬ (49 : Int32) ≤ nI i from nI_ge (a := i) (b := 49) c (by decide)), z1, wbind rfl, nI_1]
    refine ⟨m - 1, _, by omega, rfl, i + 1, S', by omega, rfl, z2, z3, ?_⟩
    rcases z4 with ⟨a, q, r, s⟩ | h
    · refine Or.inl ⟨a, q, fun v j hv hj hU => ?_⟩
      by_cases ev : v = i
      · rw [ev] at hU ⊢
        exact s j hj hU
      · exact r v j (by omega) hj hU
    · exact Or.inr h
  · left
    have : i = 49 := by omega
    subst this
    rw [if_pos (by decide)]
    exact ⟨_, rfl, S, h1, h2, h3⟩
theorem heights_eq (hT : TL w mt H) {ms : Nat → Int32} (hms : ∀ c, c < 36 → mt c = ms (6 + c)) {st he ow : Nat → Int32} (hM : wd_M w st he ow) (gby gib : Nat → Int32) : ∃ b ib, M_heights w ms he ow gby gib = some (b, ib) ∧ ∀ x, x < 49 → tg_of (fr w) x = true → b x = iZ (H x) := by
  have hs := (til_t hT.1).1
  have P1 := (wd_pP hs).1
  unfold M_heights
  have hi : ∃ b ib, wh (M_heights_s2 he ow) FU ((0:Int32), gby, gib) = some (b, ib) ∧ hbO w H (wdon w) b ib := by
    have := wh_tot (st := M_heights_s2 he ow) (B := fun r => hbO w H (wdon w) r.1 r.2)
      (fun m t => ∃ i, i + m = 49 ∧ t.1 = nI i ∧ ∀ v, v < i → t.2.2 v = bI (wdon w v) ∧ (wdon w v = true → tg_of (fr w) v = true ∧ t.2.1 v = iZ (H v))) ?_ FU 49 ((0:Int32), gby, gib) (by have := FU_big; omega) ⟨0, rfl, rfl, fun v hv => absurd hv (Nat.not_lt_zero _)⟩
    · obtain ⟨⟨b, ib⟩, e, h⟩ := this
      exact ⟨b, ib, e, h⟩
    rintro m ⟨y, b, ib⟩ ⟨i, hm, e1, h1⟩
    dsimp only at e1 h1
    subst e1
    unfold M_heights_s2 M_heights_j44
    dsimp only
    rcases Nat.lt_or_ge i 49 with c | c
    · right
      have zbb : ∀ b : Bool, zb (bI b) = true := fun b => by cases b <;> decide
      rw [if_neg (show ¬ (49 : Int32) ≤ nI i from nI_ge (a := i) (b := 49) c (by decide)), nI_clamp (by omega), hM.1 i c, bI_if, nI_1, zbb, gi_nI c (by decide)]
      rw [grd_t rfl, grd_t rfl, grd_t rfl, grd_t rfl, grd_t rfl]
      cases hon : wdon w i with
      | false =>
        refine ⟨m - 1, _, by omega, rfl, i + 1, by omega, rfl, fun v hv => ?_⟩
        dsimp only
        rw [upd_at, upd_at]
        by_cases e : v = i
        · rw [if_pos e, e, hon]
          exact ⟨rfl, fun q => by cases q⟩
        · rw [if_neg e, if_neg e]
          exact h1 v (by omega)
      | true =>
        refine ⟨m - 1, _, by omega, rfl, i + 1, by omega, rfl, fun v hv => ?_⟩
        dsimp only
        rw [upd_at, upd_at]
        by_cases e : v = i
        · rw [if_pos e, if_pos e, e, hon]
          obtain ⟨j, j1, j2⟩ := wdon_iff.mp hon
          refine ⟨rfl, fun _ => ⟨by rw [← j2]; exact wd_of hs j, ?_⟩⟩
          rw [← j2, (hM.2 j j1).2, hT.2.2.1 j j1]
        · rw [if_neg e, if_neg e]
          exact h1 v (by omega)
    · left
      have : i = 49 := by omega
      subst this
      rw [if_pos (by decide)]
      exact ⟨_, rfl, h1⟩
  obtain ⟨b, ib, e1, h1⟩ := hi
  rw [e1, wbind rfl]
  have := wh_tot (st := M_heights_s53 w ms) (B := fun r => ∀ x, x < 49 → tg_of (fr w) x = true → r.1 x = iZ (H x))
    (fun m t => ∃ S, hbO w H S t.2.1 t.2.2 ∧ (∀ i, wdon w i = true → S i = true) ∧ ((t.1 = 1 ∧ (49 - cnt S 49) + 1 ≤ m) ∨ (t.1 = 0 ∧ ∀ v j, v < 49 → j < 4 → tg_U (fr w) v j = true → S v = S (tg_nx v j)))) ?_ FU 60 ((1:Int32), b, ib) (by have := FU_big; omega) ⟨wdon w, h1, fun _ h => h, Or.inl ⟨rfl, by omega⟩⟩
  · obtain ⟨⟨b', ib'⟩, e, h⟩ := this
    exact ⟨b', ib', wbind e, h⟩
  rintro m ⟨mo, b', ib'⟩ ⟨S, g1, g2, g3⟩
  dsimp only at g1 g3
  unfold M_heights_s53
  dsimp only
  rcases g3 with ⟨q, hm⟩ | ⟨q, hcl⟩
  · right
    subst q
    obtain ⟨mo', b2, ib2, S', z1, z2, z3, z4⟩ := hb_sweep hT hms g1
    have c' := cnt_le S' 49
    rw [if_neg (show ¬ (1:Int32) = 0 by decide), z1, wbind rfl]
    refine ⟨m - 1, _, by omega, rfl, S', z2, fun i hi => z3 i (g2 i hi), ?_⟩
    rcases z4 with ⟨a, q, r⟩ | ⟨a, q⟩
    · subst q
      exact Or.inr ⟨a, r⟩
    · exact Or.inl ⟨a, by omega⟩
  · left
    rw [if_pos q]
    refine ⟨_, rfl, fun x hx ox => ?_⟩
    have sx : S x = true := by
      cases e : S x with
      | true => rfl
      | false =>
        obtain ⟨mm, pp⟩ := reach_w hs (wd_of hs 0) ox
        obtain ⟨a, k, a49, k4', aU, a1, a2⟩ := bp_exit S (g2 _ (wdon_iff.mpr ⟨0, by omega, rfl⟩)) pp e
        have := hcl a k a49 k4' aU
        rw [a1, a2] at this
        cases this
    exact ((g1 x hx).2 sx).2
end RAISE
