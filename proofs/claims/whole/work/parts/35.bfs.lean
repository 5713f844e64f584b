/-! FEWEST STEPS: the way by a queue, for any steps G -/
def bp (G : Nat → Nat → Bool) : Nat → Nat → Nat → Prop
  | 0, a, b => a = b
  | m + 1, a, b => ∃ c w, bp G m a c ∧ w < 4 ∧ c < 49 ∧ G c w = true ∧ tg_nx c w = b
/-- steps of the ground -/
def bG (G : Nat → Nat → Bool) : Prop := ∀ v w, v < 49 → w < 4 → G v w = true → tg_vd v w = true
def bfs (G : Nat → Nat → Bool) (u i n : Nat) (d q : Nat → Int32) (qs ds : Nat → Nat) : Prop :=
  (1 ≤ n ∧ qs 0 = u ∧ ds 0 = 0) ∧ (∀ j, j < n → q j = nI (qs j) ∧ qs j < 49 ∧ d (qs j) = nI (ds j) ∧ ds j ≤ j ∧ bp G (ds j) u (qs j)) ∧ (∀ j k, j < k → k < n → qs j ≠ qs k) ∧ (∀ v, v < 49 → d v = -1 ∨ ∃ j, j < n ∧ qs j = v) ∧ (∀ j k, j ≤ k → k < n → ds j ≤ ds k) ∧ (i < n → ∀ j, j < n → ds j ≤ ds i + 1) ∧ (∀ j, j < i → j < n → ∀ w, w < 4 → G (qs j) w = true → ∃ k, k < n ∧ qs k = tg_nx (qs j) w ∧ ds k ≤ ds j + 1)
def bfsk (G : Nat → Nat → Bool) (u i x k n : Nat) (d q : Nat → Int32) : Prop :=
  ∃ qs ds, bfs G u i n d q qs ds ∧ i < n ∧ qs i = x ∧ ∀ w, w < k → w < 4 → G x w = true → ∃ m, m < n ∧ qs m = tg_nx x w ∧ ds m ≤ ds i + 1
def bfso (G : Nat → Nat → Bool) (u i n : Nat) (d q : Nat → Int32) : Prop := i ≤ n ∧ ∃ qs ds, bfs G u i n d q qs ds
theorem bfs_n {G : Nat → Nat → Bool} {u i n : Nat} {d q : Nat → Int32} {qs ds : Nat → Nat} (h : bfs G u i n d q qs ds) : n ≤ 49 := by
  rcases Nat.lt_or_ge 49 n with c | c
  · obtain ⟨a, b, h1, h2, h3⟩ := tg_pig 49 qs (fun j hj => (h.2.1 j (by omega)).2.1)
    exact absurd h3 (h.2.2.1 a b h1 (by omega))
  · exact c
theorem bfso_n {G : Nat → Nat → Bool} {u i n : Nat} {d q : Nat → Int32} (h : bfso G u i n d q) : n ≤ 49 ∧ i ≤ n := ⟨by obtain ⟨_, qs, ds, h⟩ := h; exact bfs_n h, h.1⟩
theorem bfsk_x {G : Nat → Nat → Bool} {u i x k n : Nat} {d q : Nat → Int32} (h : bfsk G u i x k n d q) : x < 49 ∧ n ≤ 49 ∧ i < n ∧ ∀ v, v < 49 → (d v = -1 ∨ ∃ m, m < 49 ∧ d v = nI m) := by
  obtain ⟨qs, ds, h, hi, hx, _⟩ := h
  have hn := bfs_n h
  refine ⟨by rw [← hx]; exact (h.2.1 i hi).2.1, hn, hi, fun v hv => ?_⟩
  rcases h.2.2.2.1 v hv with c | ⟨j, j1, j2⟩
  · exact Or.inl c
  · obtain ⟨_, _, e, l, _⟩ := h.2.1 j j1
    exact Or.inr ⟨ds j, by omega, by rw [← j2]; exact e⟩
theorem bfs_begin (G : Nat → Nat → Bool) {u : Nat} (hu : u < 49) {d q : Nat → Int32} (hd : ∀ v, v < 49 → d v = if v = u then 0 else -1) (hq : q 0 = nI u) : bfso G u 0 1 d q := by
  refine ⟨by omega, fun _ => u, fun _ => 0, ⟨by omega, rfl, rfl⟩, fun j hj => ?_, fun j k h1 h2 => by omega, fun v hv => ?_, fun j k _ _ => Nat.le_refl _, fun _ j _ => (by show (0:Nat) ≤ 0 + 1; decide), fun j hj => absurd hj (Nat.not_lt_zero _)⟩
  · have : j = 0 := by omega
    subst this
    exact ⟨hq, hu, by rw [hd u hu, if_pos rfl]; rfl, Nat.le_refl _, rfl⟩
  · rw [hd v hv]
    by_cases c : v = u
    · exact Or.inr ⟨0, by omega, c.symm⟩
    · exact Or.inl (if_neg c)
theorem bfs_k0 {G : Nat → Nat → Bool} {u i n : Nat} {d q : Nat → Int32} (h : bfso G u i n d q) (hi : i < n) : ∃ x, x < 49 ∧ q i = nI x ∧ bfsk G u i x 0 n d q := by
  obtain ⟨_, qs, ds, h⟩ := h
  obtain ⟨a, b, _⟩ := h.2.1 i hi
  exact ⟨qs i, b, a, qs, ds, h, hi, rfl, fun w hw => absurd hw (Nat.not_lt_zero _)⟩
theorem bfs_k4 {G : Nat → Nat → Bool} {u i x n : Nat} {d q : Nat → Int32} (h : bfsk G u i x 4 n d q) : bfso G u (i + 1) n d q := by
  obtain ⟨qs, ds, ⟨h1, h2, h3, h4, h5, h6, h7⟩, hi, hx, hw⟩ := h
  refine ⟨hi, qs, ds, h1, h2, h3, h4, h5, fun c j hj => ?_, fun j hj hjn w hw4 hg => ?_⟩
  · have a := h6 hi j hj
    have b := h5 i (i + 1) (by omega) c
    omega
  · by_cases c : j = i
    · subst c
      rw [hx] at hg ⊢
      exact hw w hw4 hw4 hg
    · exact h7 j (by omega) hjn w hw4 hg
theorem bfs_skip {G : Nat → Nat → Bool} {u i x k n : Nat} {d q : Nat → Int32} (hG : bG G) (hk : k < 4) (h : bfsk G u i x k n d q) (c : G x k = true → ¬ d (tg_nx x k) = -1) : bfsk G u i x (k + 1) n d q := by
  have hx49 := (bfsk_x h).1
  obtain ⟨qs, ds, h, hi, hx, hw⟩ := h
  refine ⟨qs, ds, h, hi, hx, fun w hwk hw4 hg => ?_⟩
  by_cases e : w = k
  · subst e
    have hy := tg_vd_lt hx49 hw4 (hG x w hx49 hw4 hg)
    rcases h.2.2.2.1 _ hy with z | ⟨j, j1, j2⟩
    · exact absurd z (c hg)
    · exact ⟨j, j1, j2, h.2.2.2.2.2.1 hi j j1⟩
  · exact hw w (by omega) hw4 hg
theorem bfs_push {G : Nat → Nat → Bool} {u i x k n : Nat} {d q : Nat → Int32} (hG : bG G) (hk : k < 4) (h : bfsk G u i x k n d q) (hg : G x k = true) (hd : d (tg_nx x k) = -1) : n < 49 ∧ bfsk G u i x (k + 1) (n + 1) (upd d (tg_nx x k) (d x + 1)) (upd q n (nI (tg_nx x k))) := by
  have hx49 := (bfsk_x h).1
  have hn49 := (bfsk_x h).2.1
  obtain ⟨qs, ds, ⟨⟨h1, h1b, h1c⟩, h2, h3, h4, h5, h6, h7⟩, hi, hx, hw⟩ := h
  have hy := tg_vd_lt hx49 hk (hG x k hx49 hk hg)
  have fresh : ∀ j, j < n → qs j ≠ tg_nx x k := fun j hj e => by
    have := (h2 j hj).2.2.1
    rw [e, hd] at this
    exact nI_ne_m1 _ (by have := (h2 j hj).2.2.2.1; omega) this.symm
  have inj : ∀ j l, j < l → l < n + 1 → (if j = n then tg_nx x k else qs j) ≠ (if l = n then tg_nx x k else qs l) := fun j l a b => by
    rw [if_neg (show ¬ j = n by omega)]
    by_cases c : l = n
    · rw [if_pos c]; exact fresh j (by omega)
    · rw [if_neg c]; exact h3 j l a (by omega)
  have hn : n < 49 := by
    rcases Nat.lt_or_ge n 49 with c | c
    · exact c
    · obtain ⟨a, b, p1, p2, p3⟩ := tg_pig 49 (fun j => if j = n then tg_nx x k else qs j) (fun j hj => by
        try dsimp only
        by_cases c2 : j = n
        · rw [if_pos c2]; exact hy
        · rw [if_neg c2]; exact (h2 j (by omega)).2.1)
      exact absurd p3 (inj a b p1 (by omega))
  obtain ⟨e1, e2, e3, e4, e5⟩ := h2 i hi
  rw [hx] at e1 e2 e3 e5
  have di : ∀ j, j < n → (if j = n then ds i + 1 else ds j) = ds j := fun j hj => if_neg (by omega)
  have qi : ∀ j, j < n → (if j = n then tg_nx x k else qs j) = qs j := fun j hj => if_neg (by omega)
  refine ⟨hn, fun j => if j = n then tg_nx x k else qs j, fun j => if j = n then ds i + 1 else ds j, ⟨⟨by omega, (qi 0 (by omega)).trans h1b, (di 0 (by omega)).trans h1c⟩, fun j hj => ?_, inj, fun v hv => ?_, fun j l a b => ?_, fun _ j hj => ?_, fun j hj hjn w hw4 hgw => ?_⟩, by omega, ?_, fun w hwk hw4 hgw => ?_⟩
  · try dsimp only
    by_cases c : j = n
    · subst c
      rw [if_pos rfl, if_pos rfl, upd_eq, upd_eq]
      refine ⟨rfl, hy, ?_, by omega, x, k, e5, hk, hx49, hg, rfl⟩
      rw [e3, nI_1]
    · rw [if_neg c, if_neg c, upd_ne _ _ c, upd_ne _ _ (fresh j (by omega))]
      exact h2 j (by omega)
  · by_cases c : v = tg_nx x k
    · exact Or.inr ⟨n, by omega, (if_pos rfl).trans c.symm⟩
    · rw [upd_ne _ _ c]
      rcases h4 v hv with z | ⟨j, j1, j2⟩
      · exact Or.inl z
      · exact Or.inr ⟨j, by omega, (qi j j1).trans j2⟩
  · try dsimp only
    by_cases c : l = n
    · rw [if_pos c]
      by_cases c2 : j = n
      · rw [if_pos c2]; exact Nat.le_refl _
      · rw [if_neg c2]; exact h6 hi j (by omega)
    · rw [if_neg c, di j (by omega)]; exact h5 j l a (by omega)
  · try dsimp only
    rw [di i hi]
    by_cases c : j = n
    · rw [if_pos c]; exact Nat.le_refl _
    · rw [if_neg c]; exact h6 hi j (by omega)
  · try dsimp only at hgw ⊢
    rw [qi j (by omega)] at hgw ⊢
    rw [di j (by omega)]
    obtain ⟨l, l1, l2, l3⟩ := h7 j hj (by omega) w hw4 hgw
    exact ⟨l, by omega, by (rw [qi l l1]; exact l2), by (rw [di l l1]; exact l3)⟩
  · exact (qi i hi).trans hx
  · try dsimp only
    rw [di i hi]
    by_cases e : w = k
    · subst e
      exact ⟨n, by omega, by (rw [if_pos rfl]), by (rw [if_pos rfl]; exact Nat.le_refl _)⟩
    · obtain ⟨l, l1, l2, l3⟩ := hw w (by omega) hw4 hgw
      exact ⟨l, by omega, by (rw [qi l l1]; exact l2), by (rw [di l l1]; exact l3)⟩
/-- how far -/
def bD (G : Nat → Nat → Bool) (u v : Nat) (z : Int32) : Prop := (z = -1 ∧ ∀ m, ¬ bp G m u v) ∨ ∃ m, z = nI m ∧ m < 49 ∧ bp G m u v ∧ ∀ m', bp G m' u v → m ≤ m'
theorem bD_uniq {G : Nat → Nat → Bool} {u v : Nat} {z z' : Int32} (h : bD G u v z) (h' : bD G u v z') : z = z' := by
  rcases h with ⟨a, b⟩ | ⟨m, a, _, b, c⟩ <;> rcases h' with ⟨a', b'⟩ | ⟨m', a', _, b', c'⟩
  · rw [a, a']
  · exact absurd b' (b m')
  · exact absurd b (b' m)
  · have h1 := c m' b'
    have h2 := c' m b
    rw [a, a', show m = m' by omega]
theorem bfs_end {G : Nat → Nat → Bool} {u n : Nat} {d q : Nat → Int32} (hG : bG G) (h : bfso G u n n d q) : ∀ v, v < 49 → bD G u v (d v) := by
  obtain ⟨_, qs, ds, h⟩ := h
  have hn := bfs_n h
  obtain ⟨⟨h1, h1b, h1c⟩, h2, h3, h4, h5, h6, h7⟩ := h
  have key : ∀ m v, bp G m u v → ∃ j, j < n ∧ qs j = v ∧ ds j ≤ m := fun m => by
    induction m with
    | zero => intro v hv; exact ⟨0, by omega, by rw [h1b]; exact hv, by rw [h1c]; exact Nat.le_refl _⟩
    | succ m ih =>
      rintro v ⟨c, w, p, hw, hc, hg, e⟩
      obtain ⟨j, j1, j2, j3⟩ := ih c p
      obtain ⟨k, k1, k2, k3⟩ := h7 j j1 j1 w hw (by rw [j2]; exact hg)
      exact ⟨k, k1, by rw [k2, j2]; exact e, by omega⟩
  intro v hv
  rcases h4 v hv with z | ⟨j, j1, j2⟩
  · refine Or.inl ⟨z, fun m p => ?_⟩
    obtain ⟨j, j1, j2, _⟩ := key m v p
    have e := (h2 j j1).2.2.1
    rw [j2, z] at e
    exact nI_ne_m1 _ (by have := (h2 j j1).2.2.2.1; omega) e.symm
  · obtain ⟨_, _, e, l, p⟩ := h2 j j1
    rw [j2] at e p
    refine Or.inr ⟨ds j, e, by omega, p, fun m' p' => ?_⟩
    obtain ⟨k, k1, k2, k3⟩ := key m' v p'
    have : k = j := by
      rcases Nat.lt_trichotomy j k with c | c | c
      · exact absurd (j2.trans k2.symm) (h3 j k c k1)
      · exact c.symm
      · exact absurd (k2.trans j2.symm) (h3 k j c j1)
    subst this
    exact k3
/-! the class's spread -/
def filI (v : Int32) (f : Nat → Int32) (k : Nat) : Nat → Int32 := fun i => if i < k then v else f i
theorem filI_s (v : Int32) (f : Nat → Int32) (k : Nat) : upd (filI v f k) k v = filI v f (k + 1) := by
  funext j
  rw [upd_at]
  unfold filI
  by_cases c : j = k
  · rw [if_pos c, if_pos (by omega)]
  · rw [if_neg c]
    by_cases c2 : j < k
    · rw [if_pos c2, if_pos (by omega)]
    · rw [if_neg c2, if_neg (by omega)]
theorem filI_0 (v : Int32) (f : Nat → Int32) : filI v f 0 = f := by
  funext j
  unfold filI
  rw [if_neg (Nat.not_lt_zero _)]
