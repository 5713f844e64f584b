/-! the reference's way -/
def rwI (p : Nat) : Int32 := iZ (((p / 8 : Nat) : Int) - 1)
def clI (p : Nat) : Int32 := iZ (((p % 8 : Nat) : Int) - 1)
theorem rc_tbl : ∀ p, p < 64 → M_isIn (rwI p) 0 5 = (if 1 ≤ p / 8 ∧ p / 8 ≤ 6 then 1 else 0) ∧ M_isIn (clI p) 0 5 = (if 1 ≤ p % 8 ∧ p % 8 ≤ 6 then 1 else 0) ∧ (1 ≤ p / 8 ∧ p / 8 ≤ 6 → 1 ≤ p % 8 ∧ p % 8 ≤ 6 → (6:Int32) * rwI p + clI p = nI (6 * (p / 8 - 1) + (p % 8 - 1))) := by decide +kernel
theorem hasAt_eq {p : Nat} (hp : p < 64) (w : Int64) : M_hasAt (rwI p) (clI p) w = bI (fr w p) := by
  obtain ⟨t1, t2, t3⟩ := rc_tbl p hp
  unfold M_hasAt fr
  rw [t1, t2]
  by_cases c1 : 1 ≤ p / 8 ∧ p / 8 ≤ 6
  · rw [if_pos c1, if_neg (show ¬ (1:Int32) = 0 by decide)]
    by_cases c2 : 1 ≤ p % 8 ∧ p % 8 ≤ 6
    · rw [if_pos c2, if_neg (show ¬ (1:Int32) = 0 by decide), t3 c1 c2, has_eq (by omega), decide_eq_true (show 1 ≤ p / 8 ∧ p / 8 ≤ 6 ∧ 1 ≤ p % 8 ∧ p % 8 ≤ 6 from ⟨c1.1, c1.2, c2.1, c2.2⟩), Bool.true_and]
      exact bI_bI _
    · rw [if_neg c2, if_pos rfl, decide_eq_false (by omega), Bool.false_and]; rfl
  · rw [if_neg c1, if_pos rfl, decide_eq_false (by omega), Bool.false_and]; rfl
theorem p8_tbl : ∀ p, p < 64 → (nI p / (8:Int32)) - (1:Int32) = rwI p ∧ (nI p - nI p / (8:Int32) * (8:Int32)) - (1:Int32) = clI p := by decide +kernel
/-- the neighbours of a position -/
def n8 (p w : Nat) : Nat := if w = 0 then p + 1 else if w = 1 then p + 8 else if w = 2 then p - 1 else p - 8
def h8 (p w : Nat) : Bool := if w = 0 then decide (p % 8 < 7) else if w = 1 then decide (p < 56) else if w = 2 then decide (0 < p % 8) else decide (8 ≤ p)
def nr8 (p w : Nat) : Int32 := (nI p / (8:Int32)) + (if nI w = (1:Int32) then (1:Int32) else (if nI w = (3:Int32) then (-1:Int32) else (0:Int32)))
def nc8 (p w : Nat) : Int32 := (nI p - nI p / (8:Int32) * (8:Int32)) + (if nI w = (0:Int32) then (1:Int32) else (if nI w = (2:Int32) then (-1:Int32) else (0:Int32)))
theorem n8_tbl : ∀ p, p < 64 → ∀ w, w < 4 → (h8 p w = false → M_isIn (nr8 p w) 0 7 = 0 ∨ M_isIn (nr8 p w) 0 7 = 1 ∧ M_isIn (nc8 p w) 0 7 = 0) ∧ (h8 p w = true → M_isIn (nr8 p w) 0 7 = 1 ∧ M_isIn (nc8 p w) 0 7 = 1 ∧ (8:Int32) * nr8 p w + nc8 p w = nI (n8 p w) ∧ n8 p w < 64) := by decide +kernel
theorem n8_ad {p q : Nat} (hp : p < 64) (hq : q < 64) : tg_ad p q ↔ ∃ w, w < 4 ∧ h8 p w = true ∧ n8 p w = q := by
  unfold tg_ad
  constructor
  · rintro (⟨a, b⟩ | ⟨a, b⟩ | a | a)
    · exact ⟨0, by decide, by show decide (p % 8 < 7) = true; exact decide_eq_true b, by show p + 1 = q; omega⟩
    · exact ⟨2, by decide, by show decide (0 < p % 8) = true; exact decide_eq_true (by omega), by show p - 1 = q; omega⟩
    · exact ⟨1, by decide, by show decide (p < 56) = true; exact decide_eq_true (by omega), by show p + 8 = q; omega⟩
    · exact ⟨3, by decide, by show decide (8 ≤ p) = true; exact decide_eq_true (by omega), by show p - 8 = q; omega⟩
  · rintro ⟨w, hw, h1, h2⟩
    rcases w4 hw with e | e | e | e <;> subst e
    · have h1 := of_decide_eq_true (show decide (p % 8 < 7) = true from h1)
      have h2 : p + 1 = q := h2
      omega
    · have h1 := of_decide_eq_true (show decide (p < 56) = true from h1)
      have h2 : p + 8 = q := h2
      omega
    · have h1 := of_decide_eq_true (show decide (0 < p % 8) = true from h1)
      have h2 : p - 1 = q := h2
      omega
    · have h1 := of_decide_eq_true (show decide (8 ≤ p) = true from h1)
      have h2 : p - 8 = q := h2
      omega
theorem ad_sym {p q : Nat} (h : tg_ad p q) : tg_ad q p := by unfold tg_ad at h ⊢; omega
/-- what is met, beside what is marked and piled up -/
def hM (P vis : Nat → Bool) (f0 T met : Nat) (mk pl : Nat → Int32) : Prop :=
  (∀ p, p < 64 → vis p = true → P p = true) ∧ (∀ p, 64 ≤ p → vis p = false) ∧ (∀ p, p < 64 → mk p = bI (P p && !vis p)) ∧ T + met = cnt vis 64 ∧ (∀ j, j < T → ∃ x, x < 64 ∧ pl j = nI x ∧ vis x = true) ∧
  (∀ f : Nat → Bool, (∀ p q, p < 64 → q < 64 → tg_ad p q → P p = true → P q = true → f p = f q) → ∀ p, p < 64 → vis p = true → f p = f f0) ∧ vis f0 = true
theorem upd_at (f : Nat → Int32) (k j : Nat) (x : Int32) : upd f k x j = if j = k then x else f j := by
  by_cases h : j = k
  · subst h; rw [if_pos rfl, upd_eq]
  · rw [if_neg h, upd_ne _ _ h]
theorem hM_in {P : Nat → Bool} {f0 x met : Nat} (hx : x < 64) (hf0 : f0 < 64) (hmet : 1 ≤ met) : ∀ (n : Nat) (w T : Nat) (mk pl : Nat → Int32) (vis : Nat → Bool), n + w = 4 → hM P vis f0 T met mk pl → vis x = true → (∀ u, u < w → h8 x u = true → P (n8 x u) = true → vis (n8 x u) = true) → (∀ p, p < 64 → vis p = true → p ≠ x → (∀ q, q < 64 → tg_ad p q → P q = true → vis q = true) ∨ ∃ j, j < T ∧ pl j = nI p) →
    ∀ N, n < N → ∃ T' mk' pl' vis', wh (M_hangs_s137 (nI x)) N (nI T, nI w, mk, pl) = some (nI T', mk', pl') ∧ hM P vis' f0 T' met mk' pl' ∧ cnt vis 64 ≤ cnt vis' 64 ∧ (∀ p, p < 64 → vis' p = true → (∀ q, q < 64 → tg_ad p q → P q = true → vis' q = true) ∨ ∃ j, j < T' ∧ pl' j = nI p) := by
  intro n
  induction n with
  | zero =>
    intro w T mk pl vis hw hM0 hvx hcl hcl2 N hN
    have : w = 4 := by omega
    subst this
    refine ⟨T, mk, pl, vis, ?_, hM0, Nat.le_refl _, fun p hp hv => ?_⟩
    · rw [show N = (N - 1) + 1 by omega]
      refine wh_inr ?_
      unfold M_hangs_s137
      dsimp only
      rw [if_pos (by decide)]
    · by_cases c : p = x
      · subst c
        left
        intro q hq ha hP
        obtain ⟨u, hu, k1, k2⟩ := (n8_ad hp hq).mp ha
        rw [← k2]
        exact hcl u hu k1 (by rw [k2]; exact hP)
      · exact hcl2 p hp hv c
  | succ n ih =>
    intro w T mk pl vis hw hM0 hvx hcl hcl2 N hN
    have hw4 : w < 4 := by omega
    obtain ⟨a1, a1b, a2, a3, a4, a5, a6⟩ := hM0
    obtain ⟨t1, t2⟩ := n8_tbl x hx w hw4
    have g4 : ¬ (4 : Int32) ≤ nI w := nI_ge (a := w) (b := 4) hw4 (by decide)
    have skip : M_hangs_s137 (nI x) (nI T, nI w, mk, pl) = some (Sum.inl (nI T, nI (w + 1), mk, pl)) → (h8 x w = true → P (n8 x w) = true → vis (n8 x w) = true) → ∃ T' mk' pl' vis', wh (M_hangs_s137 (nI x)) N (nI T, nI w, mk, pl) = some (nI T', mk', pl') ∧ hM P vis' f0 T' met mk' pl' ∧ cnt vis 64 ≤ cnt vis' 64 ∧ (∀ p, p < 64 → vis' p = true → (∀ q, q < 64 → tg_ad p q → P q = true → vis' q = true) ∨ ∃ j, j < T' ∧ pl' j = nI p) := fun hs hv => by
      rw [show N = (N - 1) + 1 by omega, wh_inl hs]
      refine ih (w + 1) T mk pl vis (by omega) ⟨a1, a1b, a2, a3, a4, a5, a6⟩ hvx (fun u hu k1 k2 => ?_) hcl2 (N - 1) (by omega)
      by_cases c : u = w
      · subst c; exact hv k1 k2
      · exact hcl u (by omega) k1 k2
    cases e : h8 x w with
    | false =>
      refine skip ?_ (fun q => by rw [e] at q; cases q)
      unfold M_hangs_s137
      dsimp only
      rw [if_neg g4]
      rcases t1 e with t | ⟨t, t'⟩
      · rw [if_pos (show M_isIn ((nI x / (8:Int32)) + (if nI w = (1:Int32) then (1:Int32) else (if nI w = (3:Int32) then (-1:Int32) else (0:Int32)))) 0 7 = 0 from t)]
        show some (Sum.inl (nI T, nI w + 1, mk, pl)) = _
        rw [nI_1]
      · rw [if_neg (show ¬ M_isIn ((nI x / (8:Int32)) + (if nI w = (1:Int32) then (1:Int32) else (if nI w = (3:Int32) then (-1:Int32) else (0:Int32)))) 0 7 = 0 by rw [show M_isIn ((nI x / (8:Int32)) + (if nI w = (1:Int32) then (1:Int32) else (if nI w = (3:Int32) then (-1:Int32) else (0:Int32)))) 0 7 = 1 from t]; decide),
          if_pos (show M_isIn ((nI x - nI x / (8:Int32) * (8:Int32)) + (if nI w = (0:Int32) then (1:Int32) else (if nI w = (2:Int32) then (-1:Int32) else (0:Int32)))) 0 7 = 0 from t')]
        show some (Sum.inl (nI T, nI w + 1, mk, pl)) = _
        rw [nI_1]
    | true =>
      obtain ⟨r1, r2, r3, r4⟩ := t2 e
      have st : M_hangs_s137 (nI x) (nI T, nI w, mk, pl) = if mk (n8 x w) = 0 then M_hangs_j273 (nI T) (nI w) mk pl else grd (gi (nI T) 64) (M_hangs_j273 (nI T + 1) (nI w) (upd mk (n8 x w) 0) (upd pl (nI T).toNatClampNeg (nI (n8 x w)))) := by
        unfold M_hangs_s137
        dsimp only
        rw [if_neg g4]
        show (if M_isIn (nr8 x w) 0 7 = 0 then _ else if M_isIn (nc8 x w) 0 7 = 0 then _ else grd (gi ((8:Int32) * nr8 x w + nc8 x w) 64) (if mk ((8:Int32) * nr8 x w + nc8 x w).toNatClampNeg = 0 then _ else grd (gi ((8:Int32) * nr8 x w + nc8 x w) 64) (grd (gi (nI T) 64) (M_hangs_j273 (nI T + 1) (nI w) (upd mk ((8:Int32) * nr8 x w + nc8 x w).toNatClampNeg 0) (upd pl (nI T).toNatClampNeg ((8:Int32) * nr8 x w + nc8 x w)))))) = _
        rw [r1, r2, r3, if_neg (by decide), if_neg (by decide), grd_t (gi_nI r4 (by decide)), grd_t (gi_nI r4 (by decide)), nI_clamp (by omega)]
      cases ep : (P (n8 x w) && !vis (n8 x w)) with
      | false =>
        refine skip ?_ (fun _ k => ?_)
        · rw [st, a2 _ r4, ep, if_pos (show bI false = 0 by decide)]
          show some (Sum.inl (nI T, nI w + 1, mk, pl)) = _
          rw [nI_1]
        · rw [k] at ep
          simpa using ep
      | true =>
        have hpn : P (n8 x w) = true ∧ vis (n8 x w) = false := by simpa using ep
        have hc : cnt vis 64 < 64 := by
          have h1 := cnt_lt (f := vis) (g := fun _ => true) 64 (fun _ _ _ => rfl) ⟨n8 x w, r4, hpn.2, rfl⟩
          have h2 := cnt_le (fun _ => true) 64
          omega
        have hT : T < 64 := by omega
        have hcn := cnt_add1 (f := vis) (g := fun i => vis i || decide (i = n8 x w)) (k := n8 x w) hpn.2 (fun _ => rfl) 64
        rw [if_pos r4] at hcn
        have s1 : M_hangs_s137 (nI x) (nI T, nI w, mk, pl) = some (Sum.inl (nI (T + 1), nI (w + 1), upd mk (n8 x w) 0, upd pl T (nI (n8 x w)))) := by
          rw [st, a2 _ r4, ep, if_neg (by decide), grd_t (gi_nI hT (by decide)), nI_clamp (by omega)]
          show some (Sum.inl (nI T + 1, nI w + 1, _, _)) = _
          rw [nI_1, nI_1]
        rw [show N = (N - 1) + 1 by omega, wh_inl s1]
        have vor : ∀ p, vis p = true → (vis p || decide (p = n8 x w)) = true := fun p h => by rw [h]; rfl
        have hM1 : hM P (fun i => vis i || decide (i = n8 x w)) f0 (T + 1) met (upd mk (n8 x w) 0) (upd pl T (nI (n8 x w))) := by
          refine ⟨fun p hp hv => ?_, fun p hp => ?_, fun p hp => ?_, by omega, fun j hj => ?_, fun f hf p hp hv => ?_, vor _ a6⟩
          · have hv : (vis p || decide (p = n8 x w)) = true := hv
            rw [Bool.or_eq_true] at hv
            rcases hv with hv | hv
            · exact a1 p hp hv
            · rw [of_decide_eq_true hv]; exact hpn.1
          · show (vis p || decide (p = n8 x w)) = false
            rw [a1b p hp, decide_eq_false (show ¬ p = n8 x w by omega)]; rfl
          · show _ = bI (P p && !(vis p || decide (p = n8 x w)))
            rw [upd_at]
            by_cases c : p = n8 x w
            · rw [if_pos c, decide_eq_true c, Bool.or_true]
              simp [bI]
            · rw [if_neg c, decide_eq_false c, Bool.or_false, a2 p hp]
          · by_cases c : j = T
            · subst c
              exact ⟨n8 x w, r4, upd_eq _ _ _, by show (vis (n8 x w) || decide (n8 x w = n8 x w)) = true; rw [decide_eq_true rfl, Bool.or_true]⟩
            · obtain ⟨y, y1, y2, y3⟩ := a4 j (by omega)
              exact ⟨y, y1, by rw [upd_ne _ _ c, y2], vor y y3⟩
          · have hv : (vis p || decide (p = n8 x w)) = true := hv
            rw [Bool.or_eq_true] at hv
            rcases hv with hv | hv
            · exact a5 f hf p hp hv
            · rw [of_decide_eq_true hv, ← a5 f hf x hx hvx]
              exact (hf x (n8 x w) hx r4 ((n8_ad hx r4).mpr ⟨w, hw4, e, rfl⟩) (a1 x hx hvx) hpn.1).symm
        have hcl' : ∀ u, u < w + 1 → h8 x u = true → P (n8 x u) = true → (vis (n8 x u) || decide (n8 x u = n8 x w)) = true := fun u hu k1 k2 => by
          by_cases c : u = w
          · subst c
            rw [decide_eq_true rfl, Bool.or_true]
          · exact vor _ (hcl u (by omega) k1 k2)
        have hcl2' : ∀ p, p < 64 → (vis p || decide (p = n8 x w)) = true → p ≠ x → (∀ q, q < 64 → tg_ad p q → P q = true → (vis q || decide (q = n8 x w)) = true) ∨ ∃ j, j < T + 1 ∧ (upd pl T (nI (n8 x w))) j = nI p := fun p hp hv hne => by
          rw [Bool.or_eq_true] at hv
          rcases hv with hv | hv
          · rcases hcl2 p hp hv hne with k | ⟨j, j1, j2⟩
            · exact Or.inl fun q hq ha hP => vor _ (k q hq ha hP)
            · exact Or.inr ⟨j, by omega, by rw [upd_ne _ _ (by omega), j2]⟩
          · exact Or.inr ⟨T, by omega, by rw [upd_eq, of_decide_eq_true hv]⟩
        obtain ⟨T', mk', pl', vis', z1, z2, z3, z4⟩ := ih (w + 1) (T + 1) (upd mk (n8 x w) 0) (upd pl T (nI (n8 x w))) (fun i => vis i || decide (i = n8 x w)) (by omega) hM1 (vor x hvx) hcl' hcl2' (N - 1) (by omega)
        exact ⟨T', mk', pl', vis', z1, z2, by omega, z4⟩
/-- the whole way: what is met in the end is all that hangs together with the first -/
theorem hM_out {P : Nat → Bool} {f0 : Nat} (hf0 : f0 < 64) : ∀ (m N T met : Nat) (mk pl : Nat → Int32) (vis : Nat → Bool), 2 * (64 - cnt vis 64) + T ≤ m → m < N → hM P vis f0 T met mk pl → (∀ p, p < 64 → vis p = true → (∀ q, q < 64 → tg_ad p q → P q = true → vis q = true) ∨ ∃ j, j < T ∧ pl j = nI p) →
    ∃ mk' pl' vis', wh (M_hangs_s114) N (nI T, nI met, mk, pl) = some (nI (cnt vis' 64), mk', pl') ∧ (∃ mt, hM P vis' f0 0 mt mk' pl') ∧ (∀ p, p < 64 → vis' p = true → ∀ q, q < 64 → tg_ad p q → P q = true → vis' q = true) := by
  intro m
  induction m with
  | zero =>
    intro N T met mk pl vis hm hN hM0 hcl
    have hT : T = 0 := by omega
    subst hT
    refine ⟨mk, pl, vis, ?_, ⟨met, hM0⟩, fun p hp hv => ?_⟩
    · rw [show N = (N - 1) + 1 by omega]
      refine wh_inr ?_
      unfold M_hangs_s114
      dsimp only
      rw [if_pos (by decide), ← hM0.2.2.2.1, Nat.zero_add]
    · rcases hcl p hp hv with k | ⟨j, j1, _⟩
      · exact k
      · omega
  | succ m ih =>
    intro N T met mk pl vis hm hN hM0 hcl
    by_cases hT : T = 0
    · subst hT
      refine ⟨mk, pl, vis, ?_, ⟨met, hM0⟩, fun p hp hv => ?_⟩
      · rw [show N = (N - 1) + 1 by omega]
        refine wh_inr ?_
        unfold M_hangs_s114
        dsimp only
        rw [if_pos (by decide), ← hM0.2.2.2.1, Nat.zero_add]
      · rcases hcl p hp hv with k | ⟨j, j1, _⟩
        · exact k
        · omega
    · obtain ⟨a1, a1b, a2, a3, a4, a5, a6⟩ := hM0
      have hc := cnt_le vis 64
      obtain ⟨x, hx, ex, vx⟩ := a4 (T - 1) (by omega)
      have em : nI T + (-1:Int32) = nI (T - 1) := by
        have : nI (T - 1) + 1 = nI T := by rw [nI_1, show T - 1 + 1 = T by omega]
        rw [← this, Int32.add_assoc]
        exact Int32.add_zero _
      obtain ⟨T', mk', pl', vis', z1, z2, z3, z4⟩ := hM_in (P := P) (f0 := f0) (x := x) (met := met + 1) hx hf0 (by omega) 4 0 (T - 1) mk pl vis rfl ⟨a1, a1b, a2, by omega, fun j hj => a4 j (by omega), a5, a6⟩ vx (fun u hu => absurd hu (Nat.not_lt_zero _)) (fun p hp hv hne => by
        rcases hcl p hp hv with k | ⟨j, j1, j2⟩
        · exact Or.inl k
        · by_cases c : j = T - 1
          · subst c
            rw [ex] at j2
            exact absurd ((nI_eq (by omega) (by omega)).mp j2).symm hne
          · exact Or.inr ⟨j, by omega, j2⟩) FU (by have := FU_big; omega)
      have hc' := cnt_le vis' 64
      have e4 := z2.2.2.2.1
      have st : M_hangs_s114 (nI T, nI met, mk, pl) = some (Sum.inl (nI T', nI (met + 1), mk', pl')) := by
        unfold M_hangs_s114
        dsimp only
        rw [if_neg (show ¬ nI T ≤ 0 from nI_ge (a := 0) (b := T) (by omega) (by omega)), em, grd_t (gi_nI (by omega) (by decide)), nI_clamp (by omega), ex]
        show Option.bind (wh (M_hangs_s137 (nI x)) FU (nI (T - 1), nI 0, mk, pl)) _ = _
        rw [z1, wbind rfl, nI_1]
      rw [show N = (N - 1) + 1 by omega, wh_inl st]
      exact ih (N - 1) T' (met + 1) mk' pl' vis' (by omega) (by omega) z2 z4
theorem h_first (w : Int64) (b : Bool) (gma : Nat → Int32) : ∃ fi mk, wh (M_hangs_s7 (bI b) w) FU ((0:Int32), (-1:Int32), (0:Int32), gma) = some (nI (cnt (fun p => fr w p == b) 64), fi, mk) ∧ (∀ p, p < 64 → mk p = bI (fr w p == b)) ∧ ((fi = -1 ∧ ∀ p, p < 64 → (fr w p == b) = false) ∨ ∃ l, l < 64 ∧ fi = nI l ∧ (fr w l == b) = true) := by
  have := wh_tot (st := M_hangs_s7 (bI b) w) (B := fun r => ∃ fi mk, r = (nI (cnt (fun p => fr w p == b) 64), fi, mk) ∧ (∀ p, p < 64 → mk p = bI (fr w p == b)) ∧ ((fi = -1 ∧ ∀ p, p < 64 → (fr w p == b) = false) ∨ ∃ l, l < 64 ∧ fi = nI l ∧ (fr w l == b) = true))
    (fun m s => ∃ k, k + m = 64 ∧ s.1 = nI (cnt (fun p => fr w p == b) k) ∧ s.2.2.1 = nI k ∧ (∀ p, p < k → s.2.2.2 p = bI (fr w p == b)) ∧ ((s.2.1 = -1 ∧ ∀ p, p < k → (fr w p == b) = false) ∨ ∃ l, l < k ∧ s.2.1 = nI l ∧ (fr w l == b) = true)) ?_ FU 64 ((0:Int32), (-1:Int32), (0:Int32), gma) (by have := FU_big; omega) ⟨0, rfl, rfl, rfl, fun p hp => absurd hp (Nat.not_lt_zero _), Or.inl ⟨rfl, fun p hp => absurd hp (Nat.not_lt_zero _)⟩⟩
  · obtain ⟨r, e, fi, mk, q1, q2, q3⟩ := this
    exact ⟨fi, mk, by rw [e, q1], q2, q3⟩
  · rintro m ⟨n, fi, y, mk⟩ ⟨k, hk, e1, e2, e3, e4⟩
    dsimp only at e1 e2 e3 e4
    subst e1
    subst e2
    unfold M_hangs_s7
    dsimp only
    rcases Nat.lt_or_ge k 64 with q | q
    · right
      obtain ⟨p1, p2⟩ := p8_tbl k q
      have eb : (if M_hasAt (rwI k) (clI k) w = bI b then (1:Int32) else 0) = bI (fr w k == b) := by
        rw [hasAt_eq q]
        cases fr w k <;> cases b <;> rfl
      rw [if_neg (show ¬ (64 : Int32) ≤ nI k from nI_ge (a := k) (b := 64) q (by decide)), grd_t (gi_nI q (by decide)), grd_t (gi_nI q (by decide)), grd_t (gi_nI q (by decide)), p1, p2, eb, nI_clamp (by omega), upd_eq, nI_1]
      refine ⟨m - 1, _, by omega, rfl, k + 1, by omega, ?_, rfl, fun p hp => ?_, ?_⟩
      · show nI (cnt (fun p => fr w p == b) k) + bI (fr w k == b) = nI (cnt (fun p => fr w p == b) k + (if fr w k == b then 1 else 0))
        cases fr w k == b with
        | true => exact nI_1 _
        | false => exact Int32.add_zero _
      · dsimp only
        rw [upd_at]
        by_cases c : p = k
        · rw [if_pos c, c]
        · rw [if_neg c, e3 p (by omega)]
      · dsimp only
        cases ef : fr w k == b with
        | false =>
          rw [if_neg (show ¬ bI false = 1 by decide)]
          rcases e4 with ⟨c1, c2⟩ | ⟨l, c1, c2, c3⟩
          · refine Or.inl ⟨c1, fun p hp => ?_⟩
            by_cases c : p = k
            · subst c; exact ef
            · exact c2 p (by omega)
          · exact Or.inr ⟨l, by omega, c2, c3⟩
        | true =>
          rw [if_pos (show bI true = 1 by decide)]
          rcases e4 with ⟨c1, c2⟩ | ⟨l, c1, c2, c3⟩
          · rw [if_pos c1]
            exact Or.inr ⟨k, by omega, rfl, ef⟩
          · rw [if_neg (by rw [c2]; exact nI_ne_m1 l (by omega))]
            exact Or.inr ⟨l, by omega, c2, c3⟩
    · left
      have : k = 64 := by omega
      subst this
      rw [if_pos (by decide)]
      exact ⟨_, rfl, fi, mk, rfl, e3, e4⟩
theorem cnt_eq_all {f g : Nat → Bool} {n : Nat} (h : ∀ i, i < n → f i = true → g i = true) (e : cnt f n = cnt g n) : ∀ i, i < n → g i = true → f i = true := fun i hi hg => by
  cases ef : f i with
  | true => rfl
  | false =>
    have := cnt_lt n h ⟨i, hi, ef, hg⟩
    omega
theorem M_hangs_eq (w : Int64) (b : Bool) (gma gpi : Nat → Int32) : ∃ r mk pl, M_hangs (bI b) w gma gpi = some (bI r, mk, pl) ∧ (r = true ↔ (∃ p, p < 64 ∧ (fr w p == b) = true) ∧ tg_Cn (fun p => fr w p == b)) := by
  unfold M_hangs
  obtain ⟨fi, mk, e, hmk, hfi⟩ := h_first w b gma
  rw [wbind e]
  rcases hfi with ⟨c1, c2⟩ | ⟨l, hl, c1, c2⟩
  · rw [if_pos c1]
    exact ⟨false, _, _, rfl, fun q => (by cases q), fun ⟨⟨p, hp, q⟩, _⟩ => by rw [c2 p hp] at q; cases q⟩
  · have hne : ¬ fi = -1 := by rw [c1]; exact nI_ne_m1 l (by omega)
    rw [if_neg hne, c1, grd_t (by decide), grd_t (gi_nI hl (by decide)), nI_clamp (by omega)]
    obtain ⟨mk', pl', vis, z1, ⟨mt, z2⟩, z3⟩ := hM_out (P := fun p => fr w p == b) hl 127 FU 1 0 (upd mk l 0) (upd gpi 0 (nI l)) (fun p => decide (p = l)) (by
        have := cnt_add1 (f := fun _ => false) (g := fun p => decide (p = l)) (k := l) rfl (fun i => by simp) 64
        rw [if_pos hl] at this
        omega) (by have := FU_big; omega) ⟨fun p hp h => by rw [of_decide_eq_true h]; exact c2, fun p hp => decide_eq_false (by omega), fun p hp => by
          show _ = bI ((fr w p == b) && !decide (p = l))
          rw [upd_at]
          by_cases c : p = l
          · rw [if_pos c, decide_eq_true c]; simp [bI]
          · rw [if_neg c, decide_eq_false c, hmk p hp]; simp, by
          have h1 := cnt_add1 (f := fun _ => false) (g := fun p => decide (p = l)) (k := l) rfl (fun i => by simp) 64
          rw [if_pos hl] at h1
          have h0 : cnt (fun _ => false) 64 = 0 := by decide
          omega, fun j hj => ⟨l, hl, by rw [show j = 0 by omega, upd_eq], decide_eq_true rfl⟩, fun f hf p hp h => by rw [of_decide_eq_true h], decide_eq_true rfl⟩ (fun p hp hv => Or.inr ⟨0, by decide, by rw [upd_eq, of_decide_eq_true hv]⟩)
    have z1 : wh (M_hangs_s114) FU ((1:Int32), (0:Int32), upd mk l 0, upd gpi (0:Int32).toNatClampNeg (nI l)) = some (nI (cnt vis 64), mk', pl') := z1
    rw [z1, wbind rfl]
    obtain ⟨a1, a1b, a2, a3, a4, a5, a6⟩ := z2
    have ce : (if nI (cnt vis 64) = nI (cnt (fun p => fr w p == b) 64) then (1:Int32) else 0) = bI (decide (cnt vis 64 = cnt (fun p => fr w p == b) 64)) := by
      have h1 := cnt_le vis 64
      have h2 := cnt_le (fun p => fr w p == b) 64
      by_cases c : cnt vis 64 = cnt (fun p => fr w p == b) 64
      · rw [if_pos (by rw [c]), decide_eq_true c]; rfl
      · rw [if_neg (fun q => c ((nI_eq (by omega) (by omega)).mp q)), decide_eq_false c]; rfl
    refine ⟨decide (cnt vis 64 = cnt (fun p => fr w p == b) 64), mk', pl', by rw [ce], ?_⟩
    rw [decide_eq_true_eq]
    constructor
    · intro q
      have all := cnt_eq_all a1 q
      refine ⟨⟨l, hl, c2⟩, fun f hf p q hp hq h1 h2 => ?_⟩
      rw [a5 f hf p hp (all p hp h1), a5 f hf q hq (all q hq h2)]
    · rintro ⟨_, hC⟩
      have := hC vis (fun p q hp hq ha h1 h2 => by
        rw [Bool.eq_iff_iff]
        exact ⟨fun k => z3 p hp k q hq ha h2, fun k => z3 q hq k p hp (ad_sym ha) h1⟩)
      have m1 := cnt_mono 64 a1
      have m2 := cnt_mono (f := fun p => fr w p == b) (g := vis) 64 (fun p hp h => by rw [this p l hp hl h c2]; exact a6)
      omega
theorem beq_t (b : Bool) : (b == true) = b := by cases b <;> rfl
theorem beq_f (b : Bool) : (b == false) = !b := by cases b <;> rfl
theorem M_isSimple_eq (w : Int64) (gma gpi : Nat → Int32) : ∃ mk pl, M_isSimple w gma gpi = some (bI (smp w), mk, pl) := by
  unfold M_isSimple
  obtain ⟨r, mk, pl, e, h⟩ := M_hangs_eq w true gma gpi
  have e : M_hangs (1:Int32) w gma gpi = some (bI r, mk, pl) := e
  rw [wbind e]
  simp only [beq_t] at h
  dsimp only
  cases r with
  | false =>
    rw [if_pos (show bI false = 0 by decide)]
    have : smp w = false := (smp_iff ⟨fun q => (by cases q), fun q => h.mpr ⟨q.1, q.2.1⟩⟩).symm
    rw [this]
    exact ⟨mk, pl, rfl⟩
  | true =>
    rw [if_neg (by decide)]
    obtain ⟨r2, mk2, pl2, e2, h2⟩ := M_hangs_eq w false mk pl
    have e2 : M_hangs (0:Int32) w mk pl = some (bI r2, mk2, pl2) := e2
    rw [wbind e2]
    simp only [beq_f] at h2
    obtain ⟨h3, h4⟩ := h.mp rfl
    have hs : smp w = r2 := (smp_iff ⟨fun q => ⟨h3, h4, (h2.mp q).2⟩, fun q => h2.mpr ⟨⟨0, by decide, by rw [fr_Fr w 0 (Or.inl rfl)]; rfl⟩, q.2.2⟩⟩).symm
    rw [hs]
    exact ⟨mk2, pl2, by dsimp only; rw [bI_bI]⟩
