/-! what a look finds -/
theorem dd_lt {w : Int64} (h : smp w = true) {a b : Nat} (ha : a < 49) (hb : b < 49) (oa : tg_of (fr w) a = true) (ob : tg_of (fr w) b = true) : dd w a b < 49 := by
  obtain ⟨oc, st, _, hst, _⟩ := findSteps_eq w (fun _ => 0)
  obtain ⟨d, q, _, hd⟩ := spread_eq (fr_Fr w) (s := 0) (Or.inl rfl) ha hst (fun _ => 0) (fun _ => 0)
  exact (dd_bD (reach_w h oa ob) (hd b hb)).2
theorem bp_of {F : Nat → Bool} (hF : tg_Fr F) {s : Nat} (hs : s = 0 ∨ s = 4) {a : Nat} (oa : tg_of F a = true) : ∀ {m b : Nat}, bp (tg_G F s) m a b → tg_of F b = true
  | 0, _, h => by cases (show a = _ from h); exact oa
  | m + 1, _, ⟨c, w, h, hw, hc, hg, e⟩ => by
    rw [← e]
    rcases hs with q | q <;> subst q
    · rw [tg_G0 F hw] at hg
      exact A_nx hF hc hw (tg_UA hg).2
    · rw [tg_G4 F hw] at hg
      exact A_nx hF hc hw (tg_DA hg).2
theorem bD_off {F : Nat → Bool} (hF : tg_Fr F) {s : Nat} (hs : s = 0 ∨ s = 4) {a b : Nat} {z : Int32} (oa : tg_of F a = true) (ob : tg_of F b = false) (h : bD (tg_G F s) a b z) : z = -1 := by
  rcases h with ⟨h, _⟩ | ⟨m, _, _, h, _⟩
  · exact h
  · rw [bp_of hF hs oa h] at ob
    cases ob
noncomputable def fhG (w : Int64) (x : Nat) : Nat → Int := fun i => wd_h w i + dd w (wdv w i) x
noncomputable def flG (w : Int64) (x : Nat) : Nat → Int := fun i => -(wd_h w i - dd w x (wdv w i))
noncomputable def fhV (w : Int64) (x : Nat) : Nat → Int32
  | 0 => 1000
  | i + 1 => if tg_of (fr w) x then iZ (mnZ (fhG w x) i) else 1000
noncomputable def flV (w : Int64) (x : Nat) : Nat → Int32
  | 0 => -1000
  | i + 1 => if tg_of (fr w) x then iZ (-mnZ (flG w x) i) else -1000
theorem fhG_b {w : Int64} (h : smp w = true) {x : Nat} (hx : x < 49) (ox : tg_of (fr w) x = true) {i : Nat} (hi : i < wd_p w) : -100 ≤ fhG w x i ∧ fhG w x i ≤ 100 := by
  have h1 := wd_h_le w i
  have h2 := dd_lt h (wd_ok h i).1 hx (wd_of h i) ox
  have h3 := (wd_pP h).2.1
  unfold fhG
  omega
theorem flG_b {w : Int64} (h : smp w = true) {x : Nat} (hx : x < 49) (ox : tg_of (fr w) x = true) {i : Nat} (hi : i < wd_p w) : -100 ≤ flG w x i ∧ flG w x i ≤ 100 := by
  have h1 := wd_h_le w i
  have h2 := dd_lt h hx (wd_ok h i).1 ox (wd_of h i)
  have h3 := (wd_pP h).2.1
  unfold flG
  omega
theorem mnZ_b {f : Nat → Int} {n : Nat} (h : ∀ i, i ≤ n → -100 ≤ f i ∧ f i ≤ 100) : -100 ≤ mnZ f n ∧ mnZ f n ≤ 100 := by
  obtain ⟨⟨i, i1, i2⟩, _⟩ := mnZ_spec f n
  rw [i2]
  exact h i i1
theorem fh_min {w : Int64} (h : smp w = true) {x : Nat} (hx : x < 49) (ox : tg_of (fr w) x = true) {i : Nat} (hi : i < wd_p w) : J_Math_min (fhV w x i) (iZ (wd_h w i) + nI (dd w (wdv w i) x)) = fhV w x (i + 1) := by
  have b := fhG_b h hx ox hi
  rw [iZ_nI, iZ_add, show wd_h w i + (dd w (wdv w i) x : Int) = fhG w x i from rfl]
  show _ = if tg_of (fr w) x then iZ (mnZ (fhG w x) i) else 1000
  rw [ox, if_pos rfl]
  unfold J_Math_min
  cases i with
  | zero =>
    rw [if_pos]
    · rfl
    · show iZ _ < 1000
      rw [Int32.lt_iff_toInt_lt, iZ_toInt (by unfold sm; omega)]
      show _ < (1000 : Int)
      omega
  | succ i =>
    show (if iZ (fhG w x (i + 1)) < (if tg_of (fr w) x then iZ (mnZ (fhG w x) i) else 1000) then _ else (if tg_of (fr w) x then iZ (mnZ (fhG w x) i) else 1000)) = _
    rw [ox, if_pos rfl]
    have b2 := mnZ_b (f := fhG w x) (n := i) (fun j hj => fhG_b h hx ox (by omega))
    by_cases c : fhG w x (i + 1) < mnZ (fhG w x) i
    · rw [if_pos ((iZ_lt (by unfold sm; omega) (by unfold sm; omega)).mpr c)]
      unfold mnZ
      rw [if_pos c]
    · rw [if_neg (fun q => c ((iZ_lt (by unfold sm; omega) (by unfold sm; omega)).mp q))]
      show _ = iZ (if fhG w x (i + 1) < mnZ (fhG w x) i then fhG w x (i + 1) else mnZ (fhG w x) i)
      rw [if_neg c]
theorem fl_max {w : Int64} (h : smp w = true) {x : Nat} (hx : x < 49) (ox : tg_of (fr w) x = true) {i : Nat} (hi : i < wd_p w) : J_Math_max (flV w x i) (iZ (wd_h w i) - nI (dd w x (wdv w i))) = flV w x (i + 1) := by
  have b := flG_b h hx ox hi
  have eg : wd_h w i - (dd w x (wdv w i) : Int) = -flG w x i := by unfold flG; omega
  rw [iZ_nI, iZ_sub, eg]
  show _ = if tg_of (fr w) x then iZ (-mnZ (flG w x) i) else -1000
  rw [ox, if_pos rfl]
  unfold J_Math_max
  cases i with
  | zero =>
    rw [if_pos]
    · rfl
    · show -1000 < iZ _
      rw [Int32.lt_iff_toInt_lt, iZ_toInt (by unfold sm; omega)]
      show (-1000 : Int) < _
      omega
  | succ i =>
    show (if (if tg_of (fr w) x then iZ (-mnZ (flG w x) i) else -1000) < iZ (-flG w x (i + 1)) then _ else (if tg_of (fr w) x then iZ (-mnZ (flG w x) i) else -1000)) = _
    rw [ox, if_pos rfl]
    have b2 := mnZ_b (f := flG w x) (n := i) (fun j hj => flG_b h hx ox (by omega))
    by_cases c : flG w x (i + 1) < mnZ (flG w x) i
    · rw [if_pos ((iZ_lt (by unfold sm; omega) (by unfold sm; omega)).mpr (by omega))]
      unfold mnZ
      rw [if_pos c]
    · rw [if_neg (fun q => c (by have := (iZ_lt (by unfold sm; omega) (by unfold sm; omega)).mp q; omega))]
      show _ = iZ (-(if flG w x (i + 1) < mnZ (flG w x) i then flG w x (i + 1) else mnZ (flG w x) i))
      rw [if_neg c]
theorem fh_off {w : Int64} {x : Nat} (ox : tg_of (fr w) x = false) : ∀ i, fhV w x i = 1000
  | 0 => rfl
  | i + 1 => by
    show (if tg_of (fr w) x then _ else _) = _
    rw [ox]; rfl
theorem fl_off {w : Int64} {x : Nat} (ox : tg_of (fr w) x = false) : ∀ i, flV w x i = -1000
  | 0 => rfl
  | i + 1 => by
    show (if tg_of (fr w) x then _ else _) = _
    rw [ox]; rfl
theorem fh_in {w : Int64} (h : smp w = true) {ow : Int64} {wa wv wh' : Nat → Int32} (hX : wd_X w ow wa wv wh') {i : Nat} (hi : i < wd_p w) {d hi0 : Nat → Int32} (hd : ∀ x, x < 49 → bD (tg_G (fr w) 0) (wdv w i) x (d x)) (h0 : ∀ x, x < 49 → hi0 x = fhV w x i) : ∃ r, wh (O_findHighs_s51 (iZ (wd_h w i)) ow wh' d) FU ((0:Int32), hi0) = some r ∧ ((∃ hi1, r = Sum.inr hi1 ∧ (∀ x, x < 49 → hi1 x = fhV w x (i + 1)) ∧ ∀ j, j < wd_p w → wd_h w j ≤ mnZ (fhG w (wdv w j)) i) ∨ (∃ hi1, r = Sum.inl hi1 ∧ ∃ j, j < wd_p w ∧ mnZ (fhG w (wdv w j)) i < wd_h w j)) := by
  have oi := wd_of h i
  refine wh_tot (st := O_findHighs_s51 (iZ (wd_h w i)) ow wh' d) (B := fun r => ((∃ hi1, r = Sum.inr hi1 ∧ (∀ x, x < 49 → hi1 x = fhV w x (i + 1)) ∧ ∀ j, j < wd_p w → wd_h w j ≤ mnZ (fhG w (wdv w j)) i) ∨ (∃ hi1, r = Sum.inl hi1 ∧ ∃ j, j < wd_p w ∧ mnZ (fhG w (wdv w j)) i < wd_h w j)))
    (fun m s => ∃ k, k + m = 49 ∧ s.1 = nI k ∧ (∀ x, x < 49 → s.2 x = if x < k then fhV w x (i + 1) else fhV w x i) ∧ ∀ j, j < wd_p w → wdv w j < k → wd_h w j ≤ mnZ (fhG w (wdv w j)) i) ?_ FU 49 ((0:Int32), hi0) (by have := FU_big; omega) ⟨0, rfl, rfl, fun x hx => by (rw [if_neg (Nat.not_lt_zero _)]; exact h0 x hx), fun j _ c => absurd c (Nat.not_lt_zero _)⟩
  rintro m ⟨y, f⟩ ⟨k, hk, e1, h1, h2⟩
  dsimp only at e1 h1
  subst e1
  rcases Nat.lt_or_ge k 49 with q | q
  rotate_left
  · left
    have : k = 49 := by omega
    subst this
    refine ⟨Sum.inr f, ?_, Or.inl ⟨f, rfl, fun x hx => by rw [h1 x hx, if_pos hx], fun j hj => h2 j hj (wd_ok h j).1⟩⟩
    unfold O_findHighs_s51
    dsimp only
    rw [if_pos (by decide)]
  have g49 : ¬ (49 : Int32) ≤ nI k := nI_ge (a := k) (b := 49) q (by decide)
  -- the value at k becomes the next one
  have stp : ∃ f' : Nat → Int32, (∀ x, x < 49 → f' x = if x < k + 1 then fhV w x (i + 1) else fhV w x i) ∧ O_findHighs_s51 (iZ (wd_h w i)) ow wh' d (nI k, f) = O_findHighs_j89 (nI k) f' ow wh' := by
    have fk : f k = fhV w k i := by rw [h1 k q, if_neg (Nat.lt_irrefl _)]
    have same : ∀ f' : Nat → Int32, (∀ x, x < 49 → x ≠ k → f' x = f x) → f' k = fhV w k (i + 1) → ∀ x, x < 49 → f' x = if x < k + 1 then fhV w x (i + 1) else fhV w x i := fun f' a b x hx => by
      by_cases c : x = k
      · subst c; rw [if_pos (Nat.lt_succ_self _), b]
      · rw [a x hx c, h1 x hx]
        have : (x < k + 1) ↔ (x < k) := by omega
        simp only [this]
    cases ok : tg_of (fr w) k with
    | true =>
      obtain ⟨dk, _⟩ := dd_bD (reach_w h oi ok) (hd k q)
      refine ⟨upd f k (fhV w k (i + 1)), same _ (fun x _ c => upd_ne _ _ c) (upd_eq _ _ _), ?_⟩
      unfold O_findHighs_s51
      dsimp only
      rw [if_neg g49, grd_t (gi_nI q (by decide)), nI_clamp (by omega), dk, if_neg (nI_pos (by have := dd_lt h (wd_ok h i).1 q oi ok; omega)), grd_t (gi_nI q (by decide)), grd_t (gi_nI q (by decide)), grd_t (gi_nI q (by decide)), fk, fh_min h q ok hi]
    | false =>
      refine ⟨f, same f (fun _ _ _ => rfl) (by rw [fk, fh_off ok, fh_off ok]), ?_⟩
      unfold O_findHighs_s51
      dsimp only
      rw [if_neg g49, grd_t (gi_nI q (by decide)), nI_clamp (by omega), bD_off (fr_Fr w) (Or.inl rfl) oi ok (hd k q), if_pos (by decide)]
  obtain ⟨f', hf', est⟩ := stp
  rw [est]
  unfold O_findHighs_j89 O_findHighs_j114
  rw [onW_eq q, hX.1 k (by omega), bI_if]
  cases hon : wdon w k with
  | false =>
    right
    refine ⟨m - 1, (nI k + 1, f'), by omega, rfl, k + 1, by omega, nI_1 k, hf', fun j hj c => ?_⟩
    by_cases e : wdv w j = k
    · have : wdon w k = true := wdon_iff.mpr ⟨j, hj, e⟩
      rw [hon] at this; cases this
    · exact h2 j hj (by omega)
  | true =>
    obtain ⟨j, hj, ej⟩ := wdon_iff.mp hon
    have ok := wd_of h j
    rw [ej] at ok
    have b1 := wd_h_le w j
    have p49 := (wd_pP h).2.1
    have b2 := mnZ_b (f := fhG w k) (n := i) (fun l hl => fhG_b h q ok (by omega))
    have hwk : wh' k = iZ (wd_h w j) := by rw [← ej]; exact (hX.2 j hj).2.2
    have f'k : f' k = iZ (mnZ (fhG w k) i) := by
      rw [hf' k q, if_pos (Nat.lt_succ_self _)]
      show (if tg_of (fr w) k then _ else _) = _
      rw [ok, if_pos rfl]
    rw [if_pos rfl, grd_t (gi_nI q (by decide)), grd_t (gi_nI q (by decide)), nI_clamp (by omega), hwk, f'k]
    by_cases c : wd_h w j ≤ mnZ (fhG w k) i
    · right
      rw [if_pos ((iZ_le (by unfold sm; omega) (by unfold sm; omega)).mpr c)]
      refine ⟨m - 1, (nI k + 1, f'), by omega, rfl, k + 1, by omega, nI_1 k, hf', fun j' hj' c' => ?_⟩
      by_cases e : wdv w j' = k
      · have : j' = j := by
          have P4 := (wd_pP h).2.2.2.1
          rcases Nat.lt_trichotomy j' j with z | z | z
          · exact absurd (e.trans ej.symm) (P4 j' j z hj)
          · exact z
          · exact absurd (ej.trans e.symm) (P4 j j' z hj')
        rw [this, ej]
        exact c
      · exact h2 j' hj' (by omega)
    · left
      rw [if_neg (fun z => c ((iZ_le (by unfold sm; omega) (by unfold sm; omega)).mp z))]
      exact ⟨_, rfl, Or.inr ⟨f', rfl, j, hj, by rw [ej]; omega⟩⟩
theorem level0 {v : Nat} (hv : v < 49) (a b c d : Nat → Int32) : O_level (nI v) 0 a b c d = some (a v) := by
  unfold O_level
  rw [isV_y v hv, if_neg (show ¬ (1:Int32) = 0 by decide), if_pos rfl, grd_t (gi_nI hv (by decide)), nI_clamp (by omega)]
theorem findHighs_eq {w : Int64} (h : smp w = true) (h0 : wd_h w (wd_p w) = 0) {ow : Int64} {wa wv wh' st : Nat → Int32} (hX : wd_X w ow wa wv wh') (hst : ∀ v, v < 49 → tg_okS (fr w) v (st v)) (olo ohi ora odi oqu : Nat → Int32) : ∃ r hi d q, O_findHighs (nI (wd_p w)) ow st wv wh' olo ohi ora odi oqu = some (bI r, hi, d, q) ∧ (r = til w) ∧ (r = true → ∀ x, x < 49 → tg_of (fr w) x = true → hi x = iZ (hiZ w x)) := by
  have P1 := (wd_pP h).1
  have P2 := (wd_pP h).2.1
  unfold O_findHighs
  rw [fillI_eq, wbind rfl]
  have := wh_tot (st := O_findHighs_s12 (nI (wd_p w)) ow st wv wh' olo ora) (B := fun r => (∃ hi d q, r = Sum.inr (hi, d, q) ∧ tilP w ∧ ∀ x, x < 49 → hi x = fhV w x (wd_p w)) ∨ (∃ hi d q, r = Sum.inl (hi, d, q) ∧ ¬ tilP w))
    (fun m s => ∃ i, i + m = wd_p w ∧ s.1 = nI i ∧ (∀ x, x < 49 → s.2.1 x = fhV w x i) ∧ ∀ i', i' < i → ∀ j, j < wd_p w → wd_h w j ≤ mnZ (fhG w (wdv w j)) i') ?_ FU (wd_p w) ((0:Int32), filI 1000 ohi 49, odi, oqu) (by have := FU_big; omega) ⟨0, by omega, rfl, fun x hx => by
      show filI 1000 ohi 49 x = 1000
      unfold filI
      rw [if_pos hx], fun i' c => absurd c (Nat.not_lt_zero _)⟩
  · obtain ⟨r, e, ⟨hi, d, q, er, ht, hv⟩ | ⟨hi, d, q, er, ht⟩⟩ := this
    · rw [e, er]
      refine ⟨true, hi, d, q, rfl, (til_of ht).symm, fun _ x hx ox => ?_⟩
      rw [hv x hx, show wd_p w = (wd_p w - 1) + 1 by omega]
      show (if tg_of (fr w) x then _ else _) = _
      rw [ox, if_pos rfl]
      rfl
    · rw [e, er]
      exact ⟨false, hi, d, q, rfl, (til_f ht).symm, fun c => by cases c⟩
  · rintro m ⟨y, hi, d, q⟩ ⟨i, hm, e1, h1, h2⟩
    dsimp only at e1 h1
    subst e1
    unfold O_findHighs_s12
    dsimp only
    by_cases c : i < wd_p w
    · rw [if_neg (show ¬ nI (wd_p w) ≤ nI i from nI_ge c (by omega)), if_neg (show ¬ (49 : Int32) ≤ nI i from nI_ge (a := i) (b := 49) (by omega) (by decide)), grd_t (gi_nI (by omega) (by decide)), nI_clamp (by omega), (hX.2 i c).2.1, level0 (wd_ok h i).1, (hX.2 i c).2.2, wbind rfl, grd_t (gi_nI (show i < 49 by omega) (by decide))]
      obtain ⟨d', q', z1, z2⟩ := spread_eq (fr_Fr w) (s := 0) (Or.inl rfl) (wd_ok h i).1 hst d q
      have z1 : O_spread (nI (wdv w i)) (0:Int32) st d q = some (d', q') := z1
      rw [z1, wbind rfl]
      obtain ⟨r, e, ⟨f', er, hv, hj⟩ | ⟨f', er, j, hj, lt⟩⟩ := fh_in h hX c z2 h1
      · right
        rw [e, er, nI_1]
        refine ⟨m - 1, (nI (i + 1), f', d', q'), by omega, rfl, i + 1, by omega, rfl, hv, fun i' hi' j hj' => ?_⟩
        by_cases ei : i' = i
        · rw [ei]; exact hj j hj'
        · exact h2 i' (by omega) j hj'
      · left
        rw [e, er]
        refine ⟨_, rfl, Or.inr ⟨f', d', q', rfl, fun ht => ?_⟩⟩
        obtain ⟨⟨l, l1, l2⟩, _⟩ := mnZ_spec (fhG w (wdv w j)) i
        rw [l2] at lt
        have := ht.2.2 l j (by omega) hj
        unfold fhG at lt
        omega
    · left
      have : i = wd_p w := by omega
      subst this
      rw [if_pos (nI_le (Nat.le_refl _) (by omega))]
      refine ⟨_, rfl, Or.inl ⟨hi, d, q, rfl, ⟨h, h0, fun a b ha hb => ?_⟩, h1⟩⟩
      have h3 := h2 a ha b hb
      have := (mnZ_spec (fhG w (wdv w b)) a).2 a (Nat.le_refl _)
      unfold fhG at this h3
      omega
theorem fl_in {w : Int64} (h : smp w = true) {i : Nat} (hi : i < wd_p w) {d lo0 : Nat → Int32} (hd : ∀ x, x < 49 → bD (tg_G (fr w) 4) (wdv w i) x (d x)) (h0 : ∀ x, x < 49 → lo0 x = flV w x i) : ∃ r, wh (O_findLows_s51 (iZ (wd_h w i)) d) FU ((0:Int32), lo0) = some r ∧ ∀ x, x < 49 → r x = flV w x (i + 1) := by
  have oi := wd_of h i
  refine wh_tot (st := O_findLows_s51 (iZ (wd_h w i)) d) (B := fun r => ∀ x, x < 49 → r x = flV w x (i + 1))
    (fun m s => ∃ k, k + m = 49 ∧ s.1 = nI k ∧ (∀ x, x < 49 → s.2 x = if x < k then flV w x (i + 1) else flV w x i)) ?_ FU 49 ((0:Int32), lo0) (by have := FU_big; omega) ⟨0, rfl, rfl, fun x hx => by (rw [if_neg (Nat.not_lt_zero _)]; exact h0 x hx)⟩
  rintro m ⟨y, f⟩ ⟨k, hk, e1, h1⟩
  dsimp only at e1 h1
  subst e1
  rcases Nat.lt_or_ge k 49 with q | q
  rotate_left
  · left
    have : k = 49 := by omega
    subst this
    refine ⟨f, ?_, fun x hx => by rw [h1 x hx, if_pos hx]⟩
    unfold O_findLows_s51
    dsimp only
    rw [if_pos (by decide)]
  right
  have g49 : ¬ (49 : Int32) ≤ nI k := nI_ge (a := k) (b := 49) q (by decide)
  have fk : f k = flV w k i := by rw [h1 k q, if_neg (Nat.lt_irrefl _)]
  have same : ∀ f' : Nat → Int32, (∀ x, x < 49 → x ≠ k → f' x = f x) → f' k = flV w k (i + 1) → ∀ x, x < 49 → f' x = if x < k + 1 then flV w x (i + 1) else flV w x i := fun f' a b x hx => by
    by_cases c : x = k
    · subst c; rw [if_pos (Nat.lt_succ_self _), b]
    · rw [a x hx c, h1 x hx]
      have : (x < k + 1) ↔ (x < k) := by omega
      simp only [this]
  cases ok : tg_of (fr w) k with
  | true =>
    obtain ⟨dk, _⟩ := dd_bD4 (wd_ok h i).1 q (reach_w h ok oi) (hd k q)
    refine ⟨m - 1, (nI (k + 1), upd f k (flV w k (i + 1))), by omega, ?_, k + 1, by omega, rfl, same _ (fun x _ c => upd_ne _ _ c) (upd_eq _ _ _)⟩
    unfold O_findLows_s51 O_findLows_j89
    dsimp only
    rw [if_neg g49, grd_t (gi_nI q (by decide)), nI_clamp (by omega), dk, if_neg (nI_pos (by have := dd_lt h q (wd_ok h i).1 ok oi; omega)), grd_t (gi_nI q (by decide)), grd_t (gi_nI q (by decide)), grd_t (gi_nI q (by decide)), fk, fl_max h q ok hi, nI_1]
  | false =>
    refine ⟨m - 1, (nI (k + 1), f), by omega, ?_, k + 1, by omega, rfl, same f (fun _ _ _ => rfl) (by rw [fk, fl_off ok, fl_off ok])⟩
    unfold O_findLows_s51 O_findLows_j89
    dsimp only
    rw [if_neg g49, grd_t (gi_nI q (by decide)), nI_clamp (by omega), bD_off (fr_Fr w) (Or.inr rfl) oi ok (hd k q), if_pos (by decide), nI_1]
theorem findLows_eq {w : Int64} (h : smp w = true) {ow : Int64} {wa wv wh' st : Nat → Int32} (hX : wd_X w ow wa wv wh') (hst : ∀ v, v < 49 → tg_okS (fr w) v (st v)) (olo ohi ora odi oqu : Nat → Int32) : ∃ lo d q, O_findLows (nI (wd_p w)) st wv wh' olo ohi ora odi oqu = some (lo, d, q) ∧ (∀ x, x < 49 → tg_of (fr w) x = true → lo x = iZ (loZ w x)) := by
  have P1 := (wd_pP h).1
  have P2 := (wd_pP h).2.1
  unfold O_findLows
  rw [fillI_eq, wbind rfl]
  have := wh_tot (st := O_findLows_s12 (nI (wd_p w)) st wv wh' ohi ora) (B := fun r => ∀ x, x < 49 → r.1 x = flV w x (wd_p w))
    (fun m s => ∃ i, i + m = wd_p w ∧ s.1 = nI i ∧ (∀ x, x < 49 → s.2.1 x = flV w x i)) ?_ FU (wd_p w) ((0:Int32), filI (-1000) olo 49, odi, oqu) (by have := FU_big; omega) ⟨0, by omega, rfl, fun x hx => by
      show filI (-1000) olo 49 x = -1000
      unfold filI
      rw [if_pos hx]⟩
  · obtain ⟨⟨lo, d, q⟩, e, hv⟩ := this
    refine ⟨lo, d, q, wbind e, fun x hx ox => ?_⟩
    have hv := hv x hx
    dsimp only at hv
    rw [hv, show wd_p w = (wd_p w - 1) + 1 by omega]
    show (if tg_of (fr w) x then _ else _) = _
    rw [ox, if_pos rfl]
    rfl
  · rintro m ⟨y, lo, d, q⟩ ⟨i, hm, e1, h1⟩
    dsimp only at e1 h1
    subst e1
    unfold O_findLows_s12
    dsimp only
    by_cases c : i < wd_p w
    · right
      rw [if_neg (show ¬ nI (wd_p w) ≤ nI i from nI_ge c (by omega)), if_neg (show ¬ (49 : Int32) ≤ nI i from nI_ge (a := i) (b := 49) (by omega) (by decide)), grd_t (gi_nI (by omega) (by decide)), nI_clamp (by omega), (hX.2 i c).2.1, level0 (wd_ok h i).1, (hX.2 i c).2.2, wbind rfl, grd_t (gi_nI (show i < 49 by omega) (by decide))]
      obtain ⟨d', q', z1, z2⟩ := spread_eq (fr_Fr w) (s := 4) (Or.inr rfl) (wd_ok h i).1 hst d q
      have z1 : O_spread (nI (wdv w i)) (4:Int32) st d q = some (d', q') := z1
      rw [z1, wbind rfl]
      obtain ⟨r, e, hv⟩ := fl_in h c z2 h1
      rw [e, wbind rfl, nI_1]
      exact ⟨m - 1, (nI (i + 1), r, d', q'), by omega, rfl, i + 1, by omega, rfl, hv⟩
    · left
      have : i = wd_p w := by omega
      subst this
      rw [if_pos (nI_le (Nat.le_refl _) (by omega))]
      exact ⟨_, rfl, h1⟩
/-- what is kept of a look -/
def LK (w : Int64) (si ti le to : Int32) (ow co : Int64) (st wa wv wh' lo hi : Nat → Int32) : Prop :=
  si = bI (smp w) ∧ ti = bI (til w) ∧ (∀ v, v < 49 → tg_okS (fr w) v (st v)) ∧ (∀ i, i < 64 → b6 co i = (decide (i < 49) && tg_of (fr w) i)) ∧ (smp w = true → le = nI (wd_p w) ∧ to = iZ (wd_h w (wd_p w)) ∧ wd_X w ow wa wv wh') ∧ (smp w = false → le = 0 ∧ to = 0 ∧ ow = 0) ∧ (til w = true → ∀ v, v < 49 → tg_of (fr w) v = true → lo v = iZ (loZ w v) ∧ hi v = iZ (hiZ w v))
theorem look17 (w : Int64) (ost owa owv owh olo ohi odi oqu ora : Nat → Int32) : ∃ le to ow co st wa wv wh' lo hi d q, O_look_j17 w ost owa owv owh olo ohi odi oqu ora = some (1, w, bI (smp w), bI (til w), le, to, ow, co, st, wa, wv, wh', lo, hi, d, q) ∧ LK w (bI (smp w)) (bI (til w)) le to ow co st wa wv wh' lo hi := by
  unfold O_look_j17
  obtain ⟨co, st, hs1, hs2, hs3⟩ := findSteps_eq w ost
  rw [G_isSimple_eq, wbind rfl, grd_t (by cases smp w <;> decide), hs1, wbind rfl, bI_if]
  cases hsm : smp w with
  | false =>
    have ht : til w = false := til_f (fun q => by have := q.1; rw [hsm] at this; cases this)
    rw [if_neg (by decide)]
    refine ⟨0, 0, 0, co, st, owa, owv, owh, olo, ohi, odi, oqu, ?_, (by rw [hsm]), ?_, hs2, hs3, fun q => by (rw [hsm] at q; cases q), fun _ => ⟨rfl, rfl, rfl⟩, fun q => by (rw [ht] at q; cases q)⟩
    · rw [ht]; rfl
    · rfl
  | true =>
    rw [if_pos rfl]
    obtain ⟨ow, wa, wv, wh', g1, g2⟩ := goRound_eq hsm hs2 owa owv owh
    rw [g1, wbind rfl]
    unfold O_look_j68
    dsimp only
    rw [if_neg (show ¬ bI true = 0 by decide)]
    by_cases h0 : wd_h w (wd_p w) = 0
    · rw [h0, if_pos (show iZ 0 = 0 from rfl)]
      obtain ⟨r, hi, d, q, f1, f2, f3⟩ := findHighs_eq hsm h0 g2 hs2 olo ohi ora odi oqu
      rw [f1, wbind rfl]
      dsimp only
      rw [bI_bI, bI_if]
      cases hr : r with
      | false =>
        rw [hr] at f2
        rw [if_neg (by decide)]
        refine ⟨_, _, ow, co, st, wa, wv, wh', olo, hi, d, q, ?_, (by rw [hsm]), rfl, hs2, hs3, fun _ => ⟨rfl, by rw [h0], g2⟩, fun q => by (rw [hsm] at q; cases q), fun q => by (rw [← f2] at q; cases q)⟩
        rw [← f2]; rfl
      | true =>
        rw [hr] at f2 f3
        rw [if_pos rfl]
        obtain ⟨lo, d', q', l1, l2⟩ := findLows_eq hsm g2 hs2 olo hi ora d q
        rw [l1, wbind rfl]
        refine ⟨_, _, ow, co, st, wa, wv, wh', lo, hi, d', q', ?_, (by rw [hsm]), rfl, hs2, hs3, fun _ => ⟨rfl, by rw [h0], g2⟩, fun q => by (rw [hsm] at q; cases q), fun _ v hv ov => ⟨l2 v hv ov, f3 rfl v hv ov⟩⟩
        rw [← f2]; rfl
    · have ht : til w = false := til_f (fun q => h0 q.2.1)
      have hb := wd_h_le w (wd_p w)
      have hp := (wd_pP hsm).2.1
      rw [if_neg (fun q => h0 ((iZ_eq (by unfold sm; omega) (by unfold sm; omega)).mp (q.trans (show (0:Int32) = iZ 0 from rfl))))]
      refine ⟨_, _, ow, co, st, wa, wv, wh', olo, ohi, odi, oqu, ?_, (by rw [hsm]), rfl, hs2, hs3, fun _ => ⟨rfl, rfl, g2⟩, fun q => by (rw [hsm] at q; cases q), fun q => by (rw [ht] at q; cases q)⟩
      rw [ht]; rfl
/-- the outline that is kept: nothing yet, or what a look at its region found -/
def IOk (okn : Int32) (org : Int64) (osi oti ole oto : Int32) (oow oco : Int64) (ost owa owv owh olo ohi : Nat → Int32) : Prop := okn = 0 ∨ (okn = 1 ∧ LK org osi oti ole oto oow oco ost owa owv owh olo ohi)
theorem look_eq {okn : Int32} {org : Int64} {osi oti ole oto : Int32} {oow oco : Int64} {ost owa owv owh olo ohi : Nat → Int32} (h : IOk okn org osi oti ole oto oow oco ost owa owv owh olo ohi) (w : Int64) (ora odi oqu : Nat → Int32) : ∃ le to ow co st wa wv wh' lo hi d q, O_look w okn org osi oti ole oto oow oco ost owa owv owh olo ohi ora odi oqu = some (1, w, bI (smp w), bI (til w), le, to, ow, co, st, wa, wv, wh', lo, hi, d, q) ∧ LK w (bI (smp w)) (bI (til w)) le to ow co st wa wv wh' lo hi := by
  unfold O_look
  rcases h with h | ⟨h, hL⟩
  · rw [if_pos h]
    exact look17 w ost owa owv owh olo ohi odi oqu ora
  · rw [if_neg (by rw [h]; decide)]
    by_cases c : org = w
    · rw [if_pos c]
      subst c
      obtain ⟨e1, e2, _⟩ := id hL
      subst e1 e2 h
      exact ⟨ole, oto, oow, oco, ost, owa, owv, owh, olo, ohi, odi, oqu, rfl, hL⟩
    · rw [if_neg c]
      exact look17 w ost owa owv owh olo ohi odi oqu ora
