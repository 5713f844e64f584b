/-! the class's spread, the reference's goesFrom -/
theorem fillI_eq (v : Int32) (f : Nat → Int32) : J_Arrays_fillI v f = some (filI v f 49) := by
  unfold J_Arrays_fillI
  have h := wh_for (st := J_Arrays_fillI_s5 v (Int32.ofNat 49)) (r := filI v f 49) (fun k => (nI k, filI v f k)) 49 (fun k hk => by
      unfold J_Arrays_fillI_s5
      dsimp only
      rw [if_neg (show ¬ Int32.ofNat 49 ≤ nI k from nI_ge (a := k) (b := 49) hk (by decide)), grd_t (gi_nI hk (by decide)), nI_clamp (by omega), nI_1, filI_s]) (by
      unfold J_Arrays_fillI_s5
      dsimp only
      rw [if_pos (by decide)]) (by decide)
  show Option.bind (wh (J_Arrays_fillI_s5 v (Int32.ofNat 49)) FU (nI 0, f)) (fun w1 => some w1) = _
  rw [filI_0] at h
  rw [h]
  rfl
theorem fillI4_eq (v : Int32) (f : Nat → Int32) : J_Arrays_fillI_4 v f = some (filI v f 36) := by
  unfold J_Arrays_fillI_4
  have h := wh_for (st := J_Arrays_fillI_4_s5 v (Int32.ofNat 36)) (r := filI v f 36) (fun k => (nI k, filI v f k)) 36 (fun k hk => by
      unfold J_Arrays_fillI_4_s5
      dsimp only
      rw [if_neg (show ¬ Int32.ofNat 36 ≤ nI k from nI_ge (a := k) (b := 36) hk (by decide)), grd_t (gi_nI hk (by decide)), nI_clamp (by omega), nI_1, filI_s]) (by
      unfold J_Arrays_fillI_4_s5
      dsimp only
      rw [if_pos (by decide)]) (by decide)
  show Option.bind (wh (J_Arrays_fillI_4_s5 v (Int32.ofNat 36)) FU (nI 0, f)) (fun w1 => some w1) = _
  rw [filI_0] at h
  rw [h]
  rfl
/-- ways of a sort: up steps (0), or such gone back (4) -/
def tg_G (F : Nat → Bool) (s : Nat) (v w : Nat) : Bool := tg_s F v (w + s)
theorem tg_A_vd {F : Nat → Bool} (hF : tg_Fr F) {v w : Nat} (hv : v < 49) (hw : w < 4) (h : tg_A F v w = true) : tg_vd v w = true := by
  unfold tg_A at h
  rw [Bool.or_eq_true] at h
  rcases w4 hw with q | q | q | q <;> subst q
  · rw [tg_vd0]; apply decide_eq_true
    rcases h with h | h
    · have h1 := tg_in hF h; have e : tg_lp v 0 = 8 * (v / 7) + v % 7 + 1 := rfl; rw [e] at h1; omega
    · have h1 := tg_in hF h; have e : tg_rp v 0 = 8 * (v / 7) + v % 7 + 9 := rfl; rw [e] at h1; omega
  · rw [tg_vd1]; apply decide_eq_true
    rcases h with h | h
    · have h1 := tg_in hF h; have e : tg_lp v 1 = 8 * (v / 7) + v % 7 + 9 := rfl; rw [e] at h1; omega
    · have h1 := tg_in hF h; have e : tg_rp v 1 = 8 * (v / 7) + v % 7 + 8 := rfl; rw [e] at h1; omega
  · rw [tg_vd2]; apply decide_eq_true
    rcases h with h | h
    · have h1 := tg_in hF h; have e : tg_lp v 2 = 8 * (v / 7) + v % 7 + 8 := rfl; rw [e] at h1; omega
    · have h1 := tg_in hF h; have e : tg_rp v 2 = 8 * (v / 7) + v % 7 + 0 := rfl; rw [e] at h1; omega
  · rw [tg_vd3]; apply decide_eq_true
    rcases h with h | h
    · have h1 := tg_in hF h; have e : tg_lp v 3 = 8 * (v / 7) + v % 7 + 0 := rfl; rw [e] at h1; omega
    · have h1 := tg_in hF h; have e : tg_rp v 3 = 8 * (v / 7) + v % 7 + 1 := rfl; rw [e] at h1; omega
theorem tg_G0 (F : Nat → Bool) {v w : Nat} (hw : w < 4) : tg_G F 0 v w = tg_U F v w := by
  unfold tg_G tg_s
  rw [Nat.add_zero, if_pos hw]
theorem tg_G4 (F : Nat → Bool) {v w : Nat} (hw : w < 4) : tg_G F 4 v w = tg_D F v w := by
  unfold tg_G tg_s
  rw [if_neg (by omega), if_pos (by omega), Nat.add_sub_cancel]
theorem tg_UA {F : Nat → Bool} {v w : Nat} (h : tg_U F v w = true) : tg_b (tg_lp v w) = true ∧ tg_A F v w = true := by
  unfold tg_U at h
  rw [Bool.and_eq_true] at h
  exact h
theorem tg_DA {F : Nat → Bool} {v w : Nat} (h : tg_D F v w = true) : tg_b (tg_lp v w) = false ∧ tg_A F v w = true := by
  unfold tg_D at h
  rw [Bool.and_eq_true, Bool.not_eq_true'] at h
  exact h
theorem tg_bG {F : Nat → Bool} (hF : tg_Fr F) {s : Nat} (hs : s = 0 ∨ s = 4) : bG (tg_G F s) := fun v w hv hw h => by
  rcases hs with q | q <;> subst q
  · rw [tg_G0 F hw] at h
    exact tg_A_vd hF hv hw (tg_UA h).2
  · rw [tg_G4 F hw] at h
    exact tg_A_vd hF hv hw (tg_DA h).2
theorem up_neg (d : Nat → Int32) (v : Nat) (h : d v = -1 ∨ ∃ m, m < 49 ∧ d v = nI m) : (d v = -1 ∧ (if (0:Int32) ≤ d v then (0:Int32) else 1) = 1) ∨ (¬ d v = -1 ∧ (if (0:Int32) ≤ d v then (0:Int32) else 1) = 0) := by
  rcases h with h | ⟨m, m1, m2⟩
  · rw [h]; exact Or.inl ⟨rfl, by decide⟩
  · rw [m2]
    exact Or.inr ⟨nI_ne_m1 m (by omega), if_pos (nI_le (a := 0) (Nat.zero_le _) (by omega))⟩
theorem sp_in {F : Nat → Bool} (hF : tg_Fr F) {s u i x : Nat} (hs : s = 0 ∨ s = 4) {sx : Int32} (hsx : tg_okS F x sx) : ∀ (r k n : Nat) (d q : Nat → Int32), r + k = 4 → bfsk (tg_G F s) u i x k n d q → ∀ N, r < N → ∃ n' d' q', wh (O_spread_s81 (nI s) (nI x) sx) N (nI n, nI k, d, q) = some (nI n', d', q') ∧ n ≤ n' ∧ bfsk (tg_G F s) u i x 4 n' d' q' := by
  intro r
  induction r with
  | zero =>
    intro k n d q hk h N hN
    have : k = 4 := by omega
    subst this
    refine ⟨n, d, q, ?_, Nat.le_refl _, h⟩
    rw [show N = (N - 1) + 1 by omega]
    refine wh_inr ?_
    unfold O_spread_s81
    dsimp only
    rw [if_pos (by decide)]
  | succ r ih =>
    intro k n d q hk h N hN
    have hk4 : k < 4 := by omega
    obtain ⟨hx, hn, hi, hd⟩ := bfsk_x h
    have g4 : ¬ (4 : Int32) ≤ nI k := nI_ge (a := k) (b := 4) hk4 (by decide)
    have am : O_isAmong sx (nI k) (nI s) = bI (tg_G F s x k) := by
      rw [isAmong_eq (by omega), hsx _ (by omega)]; rfl
    have skip : O_spread_s81 (nI s) (nI x) sx (nI n, nI k, d, q) = some (Sum.inl (nI n, nI (k + 1), d, q)) → (tg_G F s x k = true → ¬ d (tg_nx x k) = -1) → ∃ n' d' q', wh (O_spread_s81 (nI s) (nI x) sx) N (nI n, nI k, d, q) = some (nI n', d', q') ∧ n ≤ n' ∧ bfsk (tg_G F s) u i x 4 n' d' q' := fun e c => by
      rw [show N = (N - 1) + 1 by omega, wh_inl e]
      exact ih (k + 1) n d q (by omega) (bfs_skip (tg_bG hF hs) hk4 h c) (N - 1) (by omega)
    cases hG : tg_G F s x k with
    | false =>
      refine skip ?_ (fun c => by rw [hG] at c; cases c)
      unfold O_spread_s81 O_spread_j130 O_spread_j131 O_spread_j171
      dsimp only
      rw [if_neg g4, am, hG, if_pos (show bI false = 0 by decide), if_pos rfl, nI_1]
    | true =>
      have hvd := tg_bG hF hs x k hx hk4 hG
      have hy := tg_vd_lt hx hk4 hvd
      obtain ⟨_, _, t3⟩ := st_tbl3 x hx k hk4
      have t3 := t3 hvd
      have st : O_spread_s81 (nI s) (nI x) sx (nI n, nI k, d, q) = if (if (0:Int32) ≤ d (tg_nx x k) then (0:Int32) else 1) = 0 then some (Sum.inl (nI n, nI (k + 1), d, q)) else (if (49:Int32) ≤ nI n then some (Sum.inl (nI n, nI (k + 1), d, q)) else grd (gi (nI n) 49) (some (Sum.inl (nI (n + 1), nI (k + 1), upd d (tg_nx x k) (d x + 1), upd q (nI n).toNatClampNeg (nI (tg_nx x k)))))) := by
        unfold O_spread_s81 O_spread_j171
        dsimp only
        rw [if_neg g4, am, hG, if_neg (show ¬ bI true = 0 by decide), t3, isV_y _ hy, if_neg (show ¬ (1:Int32) = 0 by decide), grd_t (gi_nI hy (by decide)), nI_clamp (by omega), grd_t (gi_nI hx (by decide)), grd_t (gi_nI hy (by decide)), nI_clamp (by omega), nI_1, nI_1]
      rcases up_neg d _ (hd _ hy) with ⟨c1, c2⟩ | ⟨c1, c2⟩
      · obtain ⟨hn49, h'⟩ := bfs_push (tg_bG hF hs) hk4 h hG c1
        have e : O_spread_s81 (nI s) (nI x) sx (nI n, nI k, d, q) = some (Sum.inl (nI (n + 1), nI (k + 1), upd d (tg_nx x k) (d x + 1), upd q n (nI (tg_nx x k)))) := by
          rw [st, c2, if_neg (show ¬ (1:Int32) = 0 by decide), if_neg (show ¬ (49 : Int32) ≤ nI n from nI_ge (a := n) (b := 49) hn49 (by decide)), grd_t (gi_nI hn49 (by decide)), nI_clamp (by omega)]
        rw [show N = (N - 1) + 1 by omega, wh_inl e]
        obtain ⟨n', d', q', z1, z2, z3⟩ := ih (k + 1) (n + 1) _ _ (by omega) h' (N - 1) (by omega)
        exact ⟨n', d', q', z1, by omega, z3⟩
      · refine skip ?_ (fun _ => c1)
        rw [st, c2, if_pos rfl]
theorem spread_eq {F : Nat → Bool} (hF : tg_Fr F) {s u : Nat} (hs : s = 0 ∨ s = 4) (hu : u < 49) {st : Nat → Int32} (hst : ∀ v, v < 49 → tg_okS F v (st v)) (odi oqu : Nat → Int32) : ∃ d q, O_spread (nI u) (nI s) st odi oqu = some (d, q) ∧ ∀ v, v < 49 → bD (tg_G F s) u v (d v) := by
  unfold O_spread
  rw [fillI_eq, wbind rfl, isV_y u hu, if_neg (show ¬ (1:Int32) = 0 by decide), grd_t (gi_nI hu (by decide)), grd_t (by decide), nI_clamp (by omega)]
  have := wh_tot (st := O_spread_s35 (nI s) st) (B := fun r => ∀ v, v < 49 → bD (tg_G F s) u v (r.1 v))
    (fun m t => ∃ i n, i + m = 49 ∧ t.1 = nI n ∧ t.2.1 = nI i ∧ bfso (tg_G F s) u i n t.2.2.1 t.2.2.2) ?_ FU 49 ((1:Int32), (0:Int32), upd (filI (-1) odi 49) u 0, upd oqu (0:Int32).toNatClampNeg (nI u)) (by have := FU_big; omega) ⟨0, 1, rfl, rfl, rfl, bfs_begin _ hu (fun v hv => by
      dsimp only
      rw [upd_at]
      by_cases c : v = u
      · rw [if_pos c, if_pos c]
      · rw [if_neg c, if_neg c]
        unfold filI
        rw [if_pos hv]) (by
      show upd oqu 0 (nI u) 0 = nI u
      rw [upd_eq])⟩
  · obtain ⟨⟨d, q⟩, e, h⟩ := this
    exact ⟨d, q, wbind e, h⟩
  · rintro m ⟨n0, i0, d, q⟩ ⟨i, n, hm, e1, e2, h⟩
    dsimp only at e1 e2 h
    subst e1 e2
    obtain ⟨hn, hin⟩ := bfso_n h
    unfold O_spread_s35
    dsimp only
    by_cases c : i < n
    · right
      obtain ⟨x, hx, qx, h0⟩ := bfs_k0 h c
      obtain ⟨n', d', q', z1, z2, z3⟩ := sp_in hF hs (hst x hx) 4 0 n d q rfl h0 FU (by have := FU_big; omega)
      rw [if_neg (show ¬ nI n ≤ nI i from nI_ge c (by omega)), if_neg (show ¬ (49 : Int32) ≤ nI i from nI_ge (a := i) (b := 49) (by omega) (by decide)), grd_t (gi_nI (by omega) (by decide)), nI_clamp (by omega)]
      simp only [qx]
      rw [isV_y x hx, if_neg (show ¬ (1:Int32) = 0 by decide), grd_t (gi_nI hx (by decide)), nI_clamp (by omega)]
      unfold O_spread_j76
      have z1 : wh (O_spread_s81 (nI s) (nI x) (st x)) FU (nI n, (0:Int32), d, q) = some (nI n', d', q') := z1
      rw [z1, wbind rfl, nI_1]
      exact ⟨m - 1, _, by omega, rfl, i + 1, n', by omega, rfl, rfl, bfs_k4 z3⟩
    · left
      have : i = n := by omega
      subst this
      rw [if_pos (nI_le (Nat.le_refl _) (by omega))]
      exact ⟨_, rfl, bfs_end (tg_bG hF hs) h⟩
theorem isUp_eq {v w : Nat} (hv : v < 49) (hw : w < 4) (rg : Int64) : M_isUp (nI v) (nI w) rg = bI (tg_U (fr rg) v w) := by
  obtain ⟨_, t2, _, _⟩ := st_tbl v hv w hw
  obtain ⟨t3, _, _⟩ := st_tbl3 v hv w hw
  unfold M_isUp
  rw [t2, t3, hasL_eq hv hw, hasR_eq hv hw, bI_if, bI_if]
  cases hvd : tg_vd v w with
  | false =>
    have : tg_U (fr rg) v w = false := by
      cases e : tg_U (fr rg) v w with
      | false => rfl
      | true => rw [tg_A_vd (fr_Fr rg) hv hw (tg_UA e).2] at hvd; cases hvd
    rw [this]; rfl
  | true =>
    have := tg_vd_lt hv hw hvd
    rw [if_neg (show ¬ oI true (tg_nx v w) = -1 from nI_ne_m1 _ (by omega))]
    unfold tg_U tg_A
    cases tg_b (tg_lp v w) <;> cases fr rg (tg_lp v w) <;> cases fr rg (tg_rp v w) <;> rfl
/-- a row of the reference's distances -/
def rowOf (u : Nat) (g : Nat → Int32) : Nat → Int32 := fun v => g (49 * u + v)
theorem rowOf_upd (u y : Nat) (g : Nat → Int32) (x : Int32) : rowOf u (upd g (49 * u + y) x) = upd (rowOf u g) y x := by
  funext j
  unfold rowOf
  rw [upd_at, upd_at]
  by_cases c : j = y
  · rw [if_pos c, if_pos (by omega)]
  · rw [if_neg c, if_neg (by omega)]
def offRow (u : Nat) (g g' : Nat → Int32) : Prop := ∀ j, (j < 49 * u ∨ 49 * u + 49 ≤ j) → g' j = g j
theorem offRow_upd {u y : Nat} (hy : y < 49) (g : Nat → Int32) (x : Int32) : offRow u g (upd g (49 * u + y) x) := fun j hj => upd_ne _ _ (by omega)
theorem offRow_tr {u : Nat} {a b c : Nat → Int32} (h1 : offRow u a b) (h2 : offRow u b c) : offRow u a c := fun j hj => (h2 j hj).trans (h1 j hj)
theorem gf_in {rg : Int64} {u i x : Nat} (hu : u < 49) : ∀ (r k n : Nat) (g q : Nat → Int32), r + k = 4 → bfsk (tg_G (fr rg) 0) u i x k n (rowOf u g) q → ∀ N, r < N → ∃ n' g' q', wh (M_goesFrom_s76 (nI (49 * u)) (nI x) rg) N (nI n, nI k, g, q) = some (nI n', g', q') ∧ bfsk (tg_G (fr rg) 0) u i x 4 n' (rowOf u g') q' ∧ offRow u g g' := by
  intro r
  induction r with
  | zero =>
    intro k n g q hk h N hN
    have : k = 4 := by omega
    subst this
    refine ⟨n, g, q, ?_, h, fun _ _ => rfl⟩
    rw [show N = (N - 1) + 1 by omega]
    refine wh_inr ?_
    unfold M_goesFrom_s76
    dsimp only
    rw [if_pos (by decide)]
  | succ r ih =>
    intro k n g q hk h N hN
    have hk4 : k < 4 := by omega
    obtain ⟨hx, hn, hi, hd⟩ := bfsk_x h
    have g4 : ¬ (4 : Int32) ≤ nI k := nI_ge (a := k) (b := 4) hk4 (by decide)
    have eU : M_isUp (nI x) (nI k) rg = bI (tg_G (fr rg) 0 x k) := by rw [isUp_eq hx hk4, tg_G0 _ hk4]
    have skip : M_goesFrom_s76 (nI (49 * u)) (nI x) rg (nI n, nI k, g, q) = some (Sum.inl (nI n, nI (k + 1), g, q)) → (tg_G (fr rg) 0 x k = true → ¬ rowOf u g (tg_nx x k) = -1) → ∃ n' g' q', wh (M_goesFrom_s76 (nI (49 * u)) (nI x) rg) N (nI n, nI k, g, q) = some (nI n', g', q') ∧ bfsk (tg_G (fr rg) 0) u i x 4 n' (rowOf u g') q' ∧ offRow u g g' := fun e c => by
      rw [show N = (N - 1) + 1 by omega, wh_inl e]
      exact ih (k + 1) n g q (by omega) (bfs_skip (tg_bG (fr_Fr rg) (Or.inl rfl)) hk4 h c) (N - 1) (by omega)
    cases hG : tg_G (fr rg) 0 x k with
    | false =>
      refine skip ?_ (fun c => by rw [hG] at c; cases c)
      unfold M_goesFrom_s76 M_goesFrom_j152
      dsimp only
      rw [if_neg g4, eU, hG, if_pos (show bI false = 0 by decide), nI_1]
    | true =>
      have hvd := tg_bG (fr_Fr rg) (Or.inl rfl) x k hx hk4 hG
      have hy := tg_vd_lt hx hk4 hvd
      obtain ⟨t3, _, _⟩ := st_tbl3 x hx k hk4
      have t3 : M_onBy (nI x) (nI k) = nI (tg_nx x k) := by rw [t3, hvd]; rfl
      have st : M_goesFrom_s76 (nI (49 * u)) (nI x) rg (nI n, nI k, g, q) = if rowOf u g (tg_nx x k) = -1 then grd (gi (nI n) 49) (some (Sum.inl (nI (n + 1), nI (k + 1), upd g (49 * u + tg_nx x k) (rowOf u g x + 1), upd q (nI n).toNatClampNeg (nI (tg_nx x k))))) else some (Sum.inl (nI n, nI (k + 1), g, q)) := by
        unfold M_goesFrom_s76 M_goesFrom_j152 rowOf
        dsimp only
        rw [if_neg g4, eU, hG, if_neg (show ¬ bI true = 0 by decide), t3, nI_add, nI_add, grd_t (gi_nI (show 49 * u + tg_nx x k < 2401 by omega) (by decide)), grd_t (gi_nI (show 49 * u + x < 2401 by omega) (by decide)), grd_t (gi_nI (show 49 * u + tg_nx x k < 2401 by omega) (by decide)), nI_clamp (show 49 * u + tg_nx x k < 2 ^ 31 by omega), nI_clamp (show 49 * u + x < 2 ^ 31 by omega), nI_1, nI_1]
      by_cases c1 : rowOf u g (tg_nx x k) = -1
      · obtain ⟨hn49, h'⟩ := bfs_push (tg_bG (fr_Fr rg) (Or.inl rfl)) hk4 h hG c1
        have e : M_goesFrom_s76 (nI (49 * u)) (nI x) rg (nI n, nI k, g, q) = some (Sum.inl (nI (n + 1), nI (k + 1), upd g (49 * u + tg_nx x k) (rowOf u g x + 1), upd q n (nI (tg_nx x k)))) := by
          rw [st, if_pos c1, grd_t (gi_nI hn49 (by decide)), nI_clamp (by omega)]
        rw [show N = (N - 1) + 1 by omega, wh_inl e]
        rw [← rowOf_upd] at h'
        obtain ⟨n', g', q', z1, z2, z3⟩ := ih (k + 1) (n + 1) _ _ (by omega) h' (N - 1) (by omega)
        exact ⟨n', g', q', z1, z2, offRow_tr (offRow_upd hy _ _) z3⟩
      · refine skip ?_ (fun _ => c1)
        rw [st, if_neg c1]
theorem gf_clear {u : Nat} (hu : u < 49) (g : Nat → Int32) : ∃ g', wh (M_goesFrom_s7 (nI (49 * u))) FU ((0:Int32), g) = some g' ∧ (∀ v, v < 49 → rowOf u g' v = -1) ∧ offRow u g g' := by
  refine wh_tot (st := M_goesFrom_s7 (nI (49 * u))) (B := fun g' => (∀ v, v < 49 → rowOf u g' v = -1) ∧ offRow u g g') (fun m s => ∃ k, k + m = 49 ∧ s.1 = nI k ∧ (∀ v, v < k → rowOf u s.2 v = -1) ∧ offRow u g s.2) ?_ FU 49 ((0:Int32), g) (by have := FU_big; omega) ⟨0, rfl, rfl, fun v hv => absurd hv (Nat.not_lt_zero _), fun _ _ => rfl⟩
  rintro m ⟨y, g'⟩ ⟨k, hk, e1, h1, h2⟩
  dsimp only at e1 h1 h2
  subst e1
  unfold M_goesFrom_s7
  dsimp only
  rcases Nat.lt_or_ge k 49 with q | q
  · right
    rw [if_neg (show ¬ (49 : Int32) ≤ nI k from nI_ge (a := k) (b := 49) q (by decide)), nI_add, grd_t (gi_nI (by omega) (by decide)), nI_clamp (by omega), nI_1]
    refine ⟨m - 1, _, by omega, rfl, k + 1, by omega, rfl, fun v hv => ?_, offRow_tr h2 (offRow_upd q _ _)⟩
    dsimp only
    rw [rowOf_upd, upd_at]
    by_cases c : v = k
    · rw [if_pos c]
    · rw [if_neg c]; exact h1 v (by omega)
  · left
    have : k = 49 := by omega
    subst this
    rw [if_pos (by decide)]
    exact ⟨_, rfl, h1, h2⟩
theorem goesFrom_eq {u : Nat} (hu : u < 49) (rg : Int64) (gfa gqu : Nat → Int32) : ∃ g q, M_goesFrom (nI u) rg gfa gqu = some (g, q) ∧ offRow u gfa g ∧ (tg_of (fr rg) u = true → ∀ v, v < 49 → bD (tg_G (fr rg) 0) u v (rowOf u g v)) := by
  unfold M_goesFrom
  have e49 : (49:Int32) * nI u = nI (49 * u) := pk_mul 49 u
  rw [e49]
  obtain ⟨g1, h1, h2, h3⟩ := gf_clear hu gfa
  rw [h1, wbind rfl, isOf_eq hu, bI_if]
  cases hof : tg_of (fr rg) u with
  | false => exact ⟨_, _, rfl, h3, fun c => by cases c⟩
  | true =>
    rw [if_pos rfl, nI_add, grd_t (gi_nI (by omega) (by decide)), grd_t (by decide), nI_clamp (by omega)]
    have := wh_tot (st := M_goesFrom_s58 (nI (49 * u)) rg) (B := fun r => (∀ v, v < 49 → bD (tg_G (fr rg) 0) u v (rowOf u r.1 v)) ∧ offRow u gfa r.1)
      (fun m t => ∃ i n, i + m = 49 ∧ t.1 = nI n ∧ t.2.1 = nI i ∧ bfso (tg_G (fr rg) 0) u i n (rowOf u t.2.2.1) t.2.2.2 ∧ offRow u gfa t.2.2.1) ?_ FU 49 ((1:Int32), (0:Int32), upd g1 (49 * u + u) 0, upd gqu (0:Int32).toNatClampNeg (nI u)) (by have := FU_big; omega) ⟨0, 1, rfl, rfl, rfl, bfs_begin _ hu (fun v hv => by
        dsimp only
        rw [rowOf_upd, upd_at]
        by_cases c : v = u
        · rw [if_pos c, if_pos c]
        · rw [if_neg c, if_neg c, h2 v hv]) (by
        show upd gqu 0 (nI u) 0 = nI u
        rw [upd_eq]), offRow_tr h3 (offRow_upd hu _ _)⟩
    · obtain ⟨⟨d, q⟩, e, h, h'⟩ := this
      exact ⟨d, q, wbind e, h', fun _ => h⟩
    · rintro m ⟨n0, i0, d, q⟩ ⟨i, n, hm, e1, e2, h, h'⟩
      dsimp only at e1 e2 h h'
      subst e1 e2
      obtain ⟨hn, hin⟩ := bfso_n h
      unfold M_goesFrom_s58
      dsimp only
      by_cases c : i < n
      · right
        obtain ⟨x, hx, qx, h0⟩ := bfs_k0 h c
        obtain ⟨n', d', q', z1, z2, z3⟩ := gf_in hu 4 0 n d q rfl h0 FU (by have := FU_big; omega)
        rw [if_neg (show ¬ nI n ≤ nI i from nI_ge c (by omega)), grd_t (gi_nI (by omega) (by decide)), nI_clamp (by omega), qx]
        have z1 : wh (M_goesFrom_s76 (nI (49 * u)) (nI x) rg) FU (nI n, (0:Int32), d, q) = some (nI n', d', q') := z1
        rw [z1, wbind rfl, nI_1]
        exact ⟨m - 1, _, by omega, rfl, i + 1, n', by omega, rfl, rfl, bfs_k4 z2, offRow_tr h' z3⟩
      · left
        have : i = n := by omega
        subst this
        rw [if_pos (nI_le (Nat.le_refl _) (by omega))]
        exact ⟨_, rfl, bfs_end (tg_bG (fr_Fr rg) (Or.inl rfl)) h, h'⟩
