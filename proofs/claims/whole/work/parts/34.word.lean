/-! THE WORD: what goRound and writesWord find of a simple region -/
noncomputable def wd_l (w : Int64) : Nat := (J_Long_bitCount ((w &&& -w) - 1)).toNatClampNeg
noncomputable def wd_v (w : Int64) : Nat := 7 * (wd_l w / 6) + wd_l w % 6
noncomputable def wdv (w : Int64) (i : Nat) : Nat := tg_w (fr w) (wd_v w) i
noncomputable def wdw (w : Int64) (i : Nat) : Nat := tg_t (fr w) (wdv w i)
def sgZ (b : Bool) : Int := if b then 1 else -1
noncomputable def wd_h (w : Int64) : Nat → Int
  | 0 => 0
  | i + 1 => wd_h w i + sgZ (tg_b (tg_lp (wdv w i) (wdw w i)))
def wd_WP (w : Int64) (p : Nat) : Prop := 1 ≤ p ∧ p ≤ 49 ∧ wdv w p = wdv w 0 ∧ (∀ i j, i < j → j < p → wdv w i ≠ wdv w j) ∧ (∀ x k, x < 49 → k < 4 → tg_E (fr w) x k = true → ∃ i, i < p ∧ wdv w i = x ∧ wdw w i = k)
noncomputable def wd_p (w : Int64) : Nat := @dite _ (∃ p, wd_WP w p) (Classical.propDecidable _) (fun h => Classical.choose h) (fun _ => 0)
noncomputable def wdon (w : Int64) (v : Nat) : Bool := @decide (∃ j, j < wd_p w ∧ wdv w j = v) (Classical.propDecidable _)
theorem wdon_iff {w : Int64} {v : Nat} : wdon w v = true ↔ ∃ j, j < wd_p w ∧ wdv w j = v :=
  ⟨fun q => @of_decide_eq_true _ (Classical.propDecidable _) q, fun q => @decide_eq_true _ (Classical.propDecidable _) q⟩
theorem wd_start {w : Int64} (h : smp w = true) : ∃ l, l < 36 ∧ b6 w l = true ∧ (∀ i, i < l → b6 w i = false) ∧ J_Long_bitCount ((w &&& -w) - 1) = nI l ∧ wd_v w = 7 * (l / 6) + l % 6 ∧ wd_v w < 49 ∧ tg_E (fr w) (wd_v w) 0 = true := by
  obtain ⟨⟨p, hp, hF⟩, _, _⟩ := smp_t h
  have hi := tg_in (fr_Fr w) hF
  have hb : b6 w (6 * (p / 8 - 1) + (p % 8 - 1)) = true := by
    unfold fr at hF
    rw [Bool.and_eq_true] at hF
    exact hF.2
  obtain ⟨l, hl, h1, h2⟩ := b6_least w (fun q => by rw [q, b6_0] at hb; cases hb)
  have l36 : l < 36 := by
    rcases Nat.lt_or_ge l 36 with c | c
    · exact c
    · rw [h2 (6 * (p / 8 - 1) + (p % 8 - 1)) (by omega)] at hb
      cases hb
  have hc := low_count hl h1 h2
  have ev : wd_v w = 7 * (l / 6) + l % 6 := by
    unfold wd_v wd_l
    rw [hc, nI_clamp (by omega)]
  refine ⟨l, l36, h1, h2, hc, ev, by omega, ?_⟩
  rw [tg_E0, ev]
  have eq : tg_q (7 * (l / 6) + l % 6) = 8 * (l / 6) + l % 6 := by unfold tg_q; omega
  rw [eq]
  have e1 : fr w (8 * (l / 6) + l % 6 + 9) = true := by
    unfold fr
    rw [decide_eq_true (by omega), Bool.true_and, show 6 * ((8 * (l / 6) + l % 6 + 9) / 8 - 1) + ((8 * (l / 6) + l % 6 + 9) % 8 - 1) = l by omega, h1]
  have e2 : fr w (8 * (l / 6) + l % 6 + 1) = false := by
    unfold fr
    by_cases c : 1 ≤ l / 6
    · rw [show 6 * ((8 * (l / 6) + l % 6 + 1) / 8 - 1) + ((8 * (l / 6) + l % 6 + 1) % 8 - 1) = l - 6 by omega, h2 (l - 6) (by omega), Bool.and_false]
    · rw [decide_eq_false (by omega), Bool.false_and]
  rw [e1, e2]; rfl
theorem wd_ok {w : Int64} (h : smp w = true) (i : Nat) : wdv w i < 49 ∧ wdw w i < 4 ∧ tg_E (fr w) (wdv w i) (wdw w i) = true ∧ tg_vd (wdv w i) (wdw w i) = true ∧ wdv w (i + 1) = tg_nx (wdv w i) (wdw w i) := by
  obtain ⟨l, _, _, _, _, _, h49, hE⟩ := wd_start h
  obtain ⟨a, b⟩ := tg_w_ok (fr_Fr w) h49 ⟨0, by decide, hE⟩ i
  have hk := tg_t_lt (fr w) (wdv w i)
  have hEt := tg_t_E b
  exact ⟨a, hk, hEt, tg_E_vd (fr_Fr w) a hk hEt, rfl⟩
theorem wd_pP {w : Int64} (h : smp w = true) : wd_WP w (wd_p w) := by
  have hex : ∃ p, wd_WP w p := by
    obtain ⟨l, _, _, _, _, _, h49, hE⟩ := wd_start h
    obtain ⟨p, h1, h2, h3, h4, h5⟩ := tg_word (fr_Fr w) (smp_t h) h49 ⟨0, by decide, hE⟩
    refine ⟨p, h1, h2, h3, h4, fun x k hx hk he => ?_⟩
    obtain ⟨i, i1, i2, i3⟩ := h5 x k hx hk he
    exact ⟨i, i1, i2, by unfold wdw; rw [show wdv w i = x from i2]; exact i3⟩
  unfold wd_p
  rw [dif_pos hex]
  exact Classical.choose_spec hex
theorem wd_h_le (w : Int64) : ∀ i : Nat, -(i : Int) ≤ wd_h w i ∧ wd_h w i ≤ i
  | 0 => ⟨by show -(0:Int) ≤ 0; decide, by show (0:Int) ≤ 0; decide⟩
  | i + 1 => by
    obtain ⟨a, b⟩ := wd_h_le w i
    show -((i + 1 : Nat) : Int) ≤ wd_h w i + sgZ _ ∧ wd_h w i + sgZ _ ≤ ((i + 1 : Nat) : Int)
    unfold sgZ
    split <;> omega
theorem tg_t_min (F : Nat → Bool) (v : Nat) : ∀ k, k < tg_t F v → tg_E F v k = false := by
  intro k hk
  unfold tg_t at hk
  split at hk
  · omega
  · rename_i a
    split at hk
    · have : k = 0 := by omega
      subst this; simpa using a
    · rename_i b
      split at hk
      · rcases (show k = 0 ∨ k = 1 by omega) with q | q <;> subst q
        · simpa using a
        · simpa using b
      · rename_i c
        rcases (show k = 0 ∨ k = 1 ∨ k = 2 by omega) with q | q | q <;> subst q
        · simpa using a
        · simpa using b
        · simpa using c
theorem sg_h (w : Int64) (i : Nat) : iZ (wd_h w i) + sgI (tg_b (tg_lp (wdv w i) (wdw w i))) = iZ (wd_h w (i + 1)) := by
  show _ = iZ (wd_h w i + sgZ _)
  rw [← iZ_add]
  cases tg_b (tg_lp (wdv w i) (wdw w i)) <;> rfl
theorem isV_y : ∀ v, v < 49 → G_isVertex (nI v) = 1 := by decide
theorem onW_eq {v : Nat} (hv : v < 49) (x : Int64) : O_isOnWord (nI v) x = bI (b6 x v) := by
  unfold O_isOnWord
  rw [isV_y v hv, if_neg (show ¬ (1:Int32) = 0 by decide)]
  cases h : b6 x v with
  | true => rw [if_neg (fun q => by rw [(b6_test (by omega)).mp q] at h; cases h)]; rfl
  | false => rw [if_pos ((b6_test (by omega)).mpr h)]; rfl
theorem corn_eq {v : Nat} (hv : v < 49) (x : Int64) : O_isCorner (nI v) x = bI (b6 x v) := onW_eq hv x
/-- the way on -/
theorem gr_way {F : Nat → Bool} {v : Nat} (hv : v < 49) {st : Nat → Int32} (hs : tg_okS F v (st v)) : wh (O_goRound_s54 (nI v) st) FU (0:Int32) = some (nI (tg_t F v)) := by
  have ht := tg_t_lt F v
  have am : ∀ k, k < 3 → O_isAmong (st (nI v).toNatClampNeg) (nI k) (8:Int32) = bI (tg_E F v k) := fun k hk => by
    rw [nI_clamp (by omega)]
    show O_isAmong (st v) (nI k) (nI 8) = _
    rw [isAmong_eq (by omega), hs _ (by omega)]
    unfold tg_s
    rw [if_neg (by omega), if_neg (by omega), if_pos (by omega), Nat.add_sub_cancel]
  refine wh_for (st := O_goRound_s54 (nI v) st) (fun k => nI k) (tg_t F v) (fun k hk => ?_) ?_ (by omega)
  · unfold O_goRound_s54
    rw [if_neg (show ¬ (3 : Int32) ≤ nI k from nI_ge (a := k) (b := 3) (by omega) (by decide)), grd_t (gi_nI hv (by decide)), am k (by omega), tg_t_min F v k hk, if_pos (show bI false = 0 by decide), nI_1]
  · unfold O_goRound_s54
    by_cases c : tg_t F v = 3
    · rw [if_pos (by rw [c]; decide)]
    · rw [if_neg (show ¬ (3 : Int32) ≤ nI (tg_t F v) from nI_ge (a := tg_t F v) (b := 3) (by omega) (by decide)), grd_t (gi_nI hv (by decide)), am _ (by omega)]
      have : tg_E F v (tg_t F v) = true := by
        unfold tg_t at c ⊢
        split
        · assumption
        · rename_i a
          rw [if_neg a] at c
          split
          · assumption
          · rename_i b
            rw [if_neg b] at c
            split
            · assumption
            · rename_i d
              rw [if_neg d] at c
              exact absurd rfl c
      rw [this, if_neg (show ¬ bI true = 0 by decide)]
def wd_X (w : Int64) (ow : Int64) (wa wv wh' : Nat → Int32) : Prop := (∀ i, i < 64 → b6 ow i = wdon w i) ∧ ∀ j, j < wd_p w → wa j = nI (wdw w j) ∧ wv j = nI (wdv w j) ∧ wh' (wdv w j) = iZ (wd_h w j)
theorem goRound_eq {w : Int64} (h : smp w = true) {st : Nat → Int32} (hs : ∀ v, v < 49 → tg_okS (fr w) v (st v)) (owa owv owh : Nat → Int32) : ∃ ow wa wv wh', O_goRound w 0 0 0 st owa owv owh = some (nI (wd_p w), iZ (wd_h w (wd_p w)), ow, wa, wv, wh') ∧ wd_X w ow wa wv wh' := by
  obtain ⟨l, l36, _, _, hc, ev, h49, _⟩ := wd_start h
  obtain ⟨P1, P2, P3, P4, P5⟩ := wd_pP h
  unfold O_goRound
  rw [hc]
  have e0 : G_vertexAt (nI l / (6:Int32)) (nI l - nI l / (6:Int32) * (6:Int32)) = nI (wdv w 0) := by
    show _ = nI (wd_v w)
    rw [ev]
    exact (by decide +kernel : ∀ l, l < 36 → G_vertexAt (nI l / (6:Int32)) (nI l - nI l / (6:Int32) * (6:Int32)) = nI (7 * (l / 6) + l % 6)) l l36
  rw [e0]
  have := wh_tot (st := O_goRound_s30 st) (B := fun r => r.1 = nI (wd_p w) ∧ r.2.1 = iZ (wd_h w (wd_p w)) ∧ wd_X w r.2.2.1 r.2.2.2.1 r.2.2.2.2.1 r.2.2.2.2.2)
    (fun m s => ∃ k, k + m = wd_p w ∧ s.1 = nI (wdv w k) ∧ s.2.1 = nI k ∧ s.2.2.1 = nI k ∧ s.2.2.2.1 = iZ (wd_h w k) ∧ (∀ i, i < 64 → (b6 s.2.2.2.2.1 i = true ↔ ∃ j, j < k ∧ wdv w j = i)) ∧ ∀ j, j < k → s.2.2.2.2.2.1 j = nI (wdw w j) ∧ s.2.2.2.2.2.2.1 j = nI (wdv w j) ∧ s.2.2.2.2.2.2.2 (wdv w j) = iZ (wd_h w j)) ?_ FU (wd_p w) (nI (wdv w 0), (0:Int32), (0:Int32), (0:Int32), (0:Int64), owa, owv, owh) (by have := FU_big; omega) ⟨0, by omega, rfl, rfl, rfl, rfl, fun i _ => ⟨fun q => by (dsimp only at q; rw [b6_0] at q; cases q), fun ⟨j, j1, _⟩ => absurd j1 (Nat.not_lt_zero _)⟩, fun j hj => absurd hj (Nat.not_lt_zero _)⟩
  · obtain ⟨⟨a, b, ow, wa, wv, wh'⟩, e, h1, h2, h3⟩ := this
    dsimp only at h1 h2 h3
    subst h1
    subst h2
    exact ⟨ow, wa, wv, wh', wbind e, h3⟩
  · rintro m ⟨ver, i, le, to, ow, wa, wv, wh'⟩ ⟨k, hk, e1, e2, e3, e4, e5, e6⟩
    dsimp only at e1 e2 e3 e4 e5 e6
    subst e1 e2 e3 e4
    obtain ⟨v49, w4', vE, vvd, vnx⟩ := wd_ok h k
    have fin : ow = ow → k = wd_p w → wd_X w ow wa wv wh' := fun _ c => by
      subst c
      refine ⟨fun i hi => ?_, e6⟩
      rw [Bool.eq_iff_iff, wdon_iff]
      exact e5 i hi
    unfold O_goRound_s30
    dsimp only
    rcases Nat.lt_or_ge k (wd_p w) with q | q
    · right
      have nov : b6 ow (wdv w k) = false := by
        cases e : b6 ow (wdv w k) with
        | false => rfl
        | true =>
          obtain ⟨j, j1, j2⟩ := (e5 _ (by omega)).mp e
          exact absurd j2 (P4 j k j1 q)
      obtain ⟨t1, _, _, _⟩ := st_tbl (wdv w k) v49 (wdw w k) w4'
      obtain ⟨_, _, t3⟩ := st_tbl3 (wdv w k) v49 (wdw w k) w4'
      rw [if_neg (show ¬ (49 : Int32) ≤ nI k from nI_ge (a := k) (b := 49) (by omega) (by decide)), isV_y _ v49, if_neg (show ¬ (1:Int32) = 0 by decide), onW_eq v49, nov, if_pos (show bI false = 0 by decide), gr_way v49 (hs _ v49), wbind rfl, grd_t (gi_nI (by omega) (by decide)), grd_t (gi_nI v49 (by decide)), nI_clamp (by omega), nI_clamp (by omega), grd_t (gi_nI (show k < 49 by omega) (by decide))]
      show ∃ m' s', m' < m ∧ some (Sum.inl (nI (wdv w k) + G_stride (nI (wdw w k)), nI k + 1, nI k + 1, iZ (wd_h w k) + G_rise (nI (wdv w k)) (nI (wdw w k)), ow ||| ((1:Int64) <<< ((nI (wdv w k)).toInt64 &&& 63)), upd wa k (nI (wdw w k)), upd wv k (nI (wdv w k)), upd wh' (wdv w k) (iZ (wd_h w k)))) = some (Sum.inl s') ∧ _
      rw [t1, t3 vvd, ← vnx, sg_h, nI_1]
      refine ⟨m - 1, _, by omega, rfl, k + 1, by omega, rfl, rfl, rfl, rfl, fun i hi => ?_, fun j hj => ?_⟩
      · dsimp only
        rw [b6_or, b6_bit (by omega) hi, Bool.or_eq_true, e5 i hi, decide_eq_true_eq]
        constructor
        · rintro (⟨j, j1, j2⟩ | c)
          · exact ⟨j, by omega, j2⟩
          · exact ⟨k, by omega, c.symm⟩
        · rintro ⟨j, j1, j2⟩
          by_cases c : j = k
          · subst c; exact Or.inr j2.symm
          · exact Or.inl ⟨j, by omega, j2⟩
      · dsimp only
        rw [upd_at, upd_at, upd_at]
        by_cases c : j = k
        · subst c
          rw [if_pos rfl, if_pos rfl, if_pos rfl]
          exact ⟨rfl, rfl, rfl⟩
        · rw [if_neg c, if_neg c, if_neg (P4 j k (by omega) q)]
          exact e6 j (by omega)
    · left
      have c : k = wd_p w := by omega
      have X := fin rfl c
      by_cases c49 : k = 49
      · rw [if_pos (by rw [c49]; decide)]
        exact ⟨_, rfl, by rw [c], by rw [c], X⟩
      · have ov : b6 ow (wdv w k) = true := (e5 _ (by omega)).mpr ⟨0, by omega, by rw [c]; exact P3.symm⟩
        rw [if_neg (show ¬ (49 : Int32) ≤ nI k from nI_ge (a := k) (b := 49) (by omega) (by decide)), isV_y _ v49, if_neg (show ¬ (1:Int32) = 0 by decide), onW_eq v49, ov, if_neg (show ¬ bI true = 0 by decide)]
        exact ⟨_, rfl, by rw [c], by rw [c], X⟩
/-! the reference's -/
theorem mw_way {w : Int64} {v : Nat} (hv : v < 49) (hE : ∃ k, k < 4 ∧ tg_E (fr w) v k = true) : wh (M_writesWord_s94 (nI v) w) FU (0:Int32) = some (nI (tg_t (fr w) v)) := by
  have ht := tg_t_lt (fr w) v
  have st : ∀ k, k < 4 → M_writesWord_s94 (nI v) w (nI k) = if tg_E (fr w) v k then some (Sum.inr (nI k)) else some (Sum.inl (nI (k + 1))) := fun k hk => by
    obtain ⟨t1, _, _⟩ := st_tbl3 v hv k hk
    unfold M_writesWord_s94 M_writesWord_j124
    rw [t1, hasL_eq hv hk, hasR_eq hv hk, bI_if, bI_if, nI_1]
    cases hvd : tg_vd v k with
    | false =>
      have : tg_E (fr w) v k = false := by
        cases e : tg_E (fr w) v k with
        | false => rfl
        | true => rw [tg_E_vd (fr_Fr w) hv hk e] at hvd; cases hvd
      rw [this, if_pos (show oI false (tg_nx v k) = -1 from rfl)]
      rfl
    | true =>
      have := tg_vd_lt hv hk hvd
      rw [if_neg (show ¬ oI true (tg_nx v k) = -1 from nI_ne_m1 _ (by omega))]
      unfold tg_E
      cases fr w (tg_rp v k) <;> cases fr w (tg_lp v k) <;> rfl
  refine wh_for (st := M_writesWord_s94 (nI v) w) (fun k => nI k) (tg_t (fr w) v) (fun k hk => ?_) ?_ (by omega)
  · rw [st k (by omega), tg_t_min _ v k hk]; rfl
  · rw [st _ ht, tg_t_E hE]; rfl
def clr (f : Nat → Int32) (k : Nat) : Nat → Int32 := fun j => if j < k then 0 else f j
theorem clr_s (f : Nat → Int32) (k : Nat) : upd (clr f k) k 0 = clr f (k + 1) := by
  funext j
  rw [upd_at]
  unfold clr
  by_cases c : j = k
  · rw [if_pos c, if_pos (by omega)]
  · rw [if_neg c]
    by_cases c2 : j < k
    · rw [if_pos c2, if_pos (by omega)]
    · rw [if_neg c2, if_neg (by omega)]
theorem clr_0 (f : Nat → Int32) : clr f 0 = f := by
  funext j
  unfold clr
  rw [if_neg (Nat.not_lt_zero _)]
def wd_M (w : Int64) (gst ghe gow : Nat → Int32) : Prop := (∀ v, v < 49 → gow v = bI (wdon w v)) ∧ ∀ j, j < wd_p w → gst j = nI (wdw w j) ∧ ghe (wdv w j) = iZ (wd_h w j)
theorem writesWord_eq {w : Int64} (h : smp w = true) (gst ghe gow : Nat → Int32) : ∃ st he ow, M_writesWord w gst ghe gow = some (nI (wd_p w), iZ (wd_h w (wd_p w)), st, he, ow) ∧ wd_M w st he ow := by
  obtain ⟨l, l36, hb, hlb, hc, ev, h49, _⟩ := wd_start h
  obtain ⟨P1, P2, P3, P4, P5⟩ := wd_pP h
  unfold M_writesWord
  have h1 := wh_for (st := M_writesWord_s12) (r := clr gow 49) (fun k => (nI k, clr gow k)) 49 (fun k hk => by
      unfold M_writesWord_s12
      dsimp only
      rw [if_neg (show ¬ (49 : Int32) ≤ nI k from nI_ge (a := k) (b := 49) hk (by decide)), grd_t (gi_nI hk (by decide)), nI_clamp (by omega), clr_s, nI_1]) (by
      unfold M_writesWord_s12
      dsimp only
      rw [if_pos (by decide)]) (by decide)
  have h1 : wh (M_writesWord_s12) FU ((0:Int32), gow) = some (clr gow 49) := by rw [← clr_0 gow] at h1 ⊢; rw [clr_0] at h1 ⊢; exact (clr_0 gow) ▸ h1
  rw [h1, wbind rfl]
  have h2 : wh (M_writesWord_s33 w) FU (0:Int32) = some (nI l) := by
    refine wh_for (st := M_writesWord_s33 w) (fun k => nI k) l (fun k hk => ?_) ?_ (by omega)
    · unfold M_writesWord_s33
      rw [has_eq (by omega), hlb k hk, if_pos (show bI false = 0 by decide), nI_1]
    · unfold M_writesWord_s33
      rw [has_eq (by omega), hb, if_neg (show ¬ bI true = 0 by decide)]
  rw [h2, wbind rfl]
  have e0 : (7:Int32) * (nI l / (6:Int32)) + (nI l - nI l / (6:Int32) * (6:Int32)) = nI (wdv w 0) := by
    show _ = nI (wd_v w)
    rw [ev]
    exact (by decide +kernel : ∀ l, l < 36 → (7:Int32) * (nI l / (6:Int32)) + (nI l - nI l / (6:Int32) * (6:Int32)) = nI (7 * (l / 6) + l % 6)) l l36
  rw [e0]
  have := wh_tot (st := M_writesWord_s62 (nI (wdv w 0)) w) (B := fun r => r.1 = nI (wd_p w) ∧ r.2.1 = iZ (wd_h w (wd_p w)) ∧ wd_M w r.2.2.1 r.2.2.2.1 r.2.2.2.2)
    (fun m s => ∃ k, k + m = wd_p w ∧ s.1 = nI (wdv w k) ∧ s.2.1 = nI k ∧ s.2.2.1 = iZ (wd_h w k) ∧ (∀ v, v < 49 → s.2.2.2.2.2 v = 1 ∧ (∃ j, j < k ∧ wdv w j = v) ∨ s.2.2.2.2.2 v = 0 ∧ ¬ ∃ j, j < k ∧ wdv w j = v) ∧ ∀ j, j < k → s.2.2.2.1 j = nI (wdw w j) ∧ s.2.2.2.2.1 (wdv w j) = iZ (wd_h w j)) ?_ FU (wd_p w) (nI (wdv w 0), (0:Int32), (0:Int32), gst, ghe, clr gow 49) (by have := FU_big; omega) ⟨0, by omega, rfl, rfl, rfl, fun v hv => Or.inr ⟨by show clr gow 49 v = 0; unfold clr; rw [if_pos hv], fun ⟨j, j1, _⟩ => absurd j1 (Nat.not_lt_zero _)⟩, fun j hj => absurd hj (Nat.not_lt_zero _)⟩
  · obtain ⟨⟨a, b, st, he, ow⟩, e, h1, h2, h3⟩ := this
    dsimp only at h1 h2 h3
    subst h1
    subst h2
    exact ⟨st, he, ow, wbind e, h3⟩
  · rintro m ⟨ver, le, su, st, he, ow⟩ ⟨k, hk, e1, e2, e4, e5, e6⟩
    dsimp only at e1 e2 e4 e5 e6
    subst e1 e2 e4
    obtain ⟨v49, w4', vE, vvd, vnx⟩ := wd_ok h k
    unfold M_writesWord_s62
    dsimp only
    rcases Nat.lt_or_ge k (wd_p w) with q | q
    · right
      obtain ⟨_, t1, _, _⟩ := st_tbl (wdv w k) v49 (wdw w k) w4'
      obtain ⟨t3, _, _⟩ := st_tbl3 (wdv w k) v49 (wdw w k) w4'
      have body : M_writesWord_j74 (nI (wdv w k)) (nI k) (iZ (wd_h w k)) st he ow w = some (Sum.inl (nI (wdv w (k + 1)), nI (k + 1), iZ (wd_h w (k + 1)), upd st k (nI (wdw w k)), upd he (wdv w k) (iZ (wd_h w k)), upd ow (wdv w k) 1)) := by
        unfold M_writesWord_j74
        rw [grd_t (gi_nI v49 (by decide)), grd_t (gi_nI v49 (by decide)), mw_way v49 ⟨_, w4', vE⟩, wbind rfl, grd_t (gi_nI (by omega) (by decide)), nI_clamp (by omega), nI_clamp (by omega)]
        show some (Sum.inl (M_onBy (nI (wdv w k)) (nI (wdw w k)), nI k + 1, iZ (wd_h w k) + M_heightOf (nI (wdv w k)) (nI (wdw w k)), upd st k (nI (wdw w k)), upd he (wdv w k) (iZ (wd_h w k)), upd ow (wdv w k) 1)) = _
        rw [t1, t3, vvd, sg_h, nI_1, vnx]
        rfl
      have hb : (if nI k = (0:Int32) then M_writesWord_j74 (nI (wdv w k)) (nI k) (iZ (wd_h w k)) st he ow w else (if nI (wdv w k) = nI (wdv w 0) then (some (Sum.inr (nI k, iZ (wd_h w k), st, he, ow))) else M_writesWord_j74 (nI (wdv w k)) (nI k) (iZ (wd_h w k)) st he ow w)) = some (Sum.inl (nI (wdv w (k + 1)), nI (k + 1), iZ (wd_h w (k + 1)), upd st k (nI (wdw w k)), upd he (wdv w k) (iZ (wd_h w k)), upd ow (wdv w k) 1)) := by
        by_cases c : k = 0
        · rw [if_pos (by rw [c]; rfl), body]
        · have hne : ¬ nI (wdv w k) = nI (wdv w 0) := fun e => by
            have l0 := (wd_ok h 0).1
            exact absurd ((nI_eq (by omega) (by omega)).mp e).symm (P4 0 k (by omega) q)
          rw [if_neg (nI_ne0 (by omega) (by omega)), if_neg hne, body]
      rw [hb]
      refine ⟨m - 1, _, by omega, rfl, k + 1, by omega, rfl, rfl, rfl, fun v hv => ?_, fun j hj => ?_⟩
      · dsimp only
        rw [upd_at]
        by_cases c : v = wdv w k
        · rw [if_pos c]
          exact Or.inl ⟨rfl, k, by omega, c.symm⟩
        · rw [if_neg c]
          rcases e5 v hv with ⟨x, j, j1, j2⟩ | ⟨x, y⟩
          · exact Or.inl ⟨x, j, by omega, j2⟩
          · refine Or.inr ⟨x, fun ⟨j, j1, j2⟩ => ?_⟩
            by_cases c2 : j = k
            · subst c2; exact c j2.symm
            · exact y ⟨j, by omega, j2⟩
      · dsimp only
        rw [upd_at, upd_at]
        by_cases c : j = k
        · subst c
          rw [if_pos rfl, if_pos rfl]
          exact ⟨rfl, rfl⟩
        · rw [if_neg c, if_neg (P4 j k (by omega) q)]
          exact e6 j (by omega)
    · left
      have c : k = wd_p w := by omega
      rw [if_neg (nI_ne0 (by omega) (by omega)), if_pos (by rw [c, P3])]
      refine ⟨_, rfl, by rw [c], by rw [c], fun v hv => ?_, fun j hj => e6 j (by omega)⟩
      rcases e5 v hv with ⟨x, y⟩ | ⟨x, y⟩
      · rw [c] at y
        dsimp only
        rw [x, wdon_iff.mpr y]; rfl
      · rw [c] at y
        have : wdon w v = false := by
          cases e : wdon w v with
          | false => rfl
          | true => exact absurd (wdon_iff.mp e) y
        dsimp only
        rw [x, this]; rfl
