/-! calls that keep rows: count, see, event, book, begin, feed -/
section OPA
variable {rg mrg : Int64} {ld ps pl ss es gs : Int32} {mt pw so sq eo eq go gq ms ms' : Nat → Int32}
theorem St_seen {ss' : Int32} {so' sq' : Nat → Int32} (h : St rg ld mt ps pl pw ss so sq es eo eq gs go gq mrg ms) (hL : IL vSeen 4 3 82 ss' so' sq' ms') (e : ∀ j, j ≠ 3 → (j < 82 ∨ 90 ≤ j) → ms' j = ms j) : St rg ld mt ps pl pw ss' so' sq' es eo eq gs go gq mrg ms' := by
  obtain ⟨h1, h2, h3, h4, h5, h6⟩ := h
  exact ⟨h1, IA_ext (e _ (by omega) (by omega)) (fun c hc => e _ (by omega) (by omega)) h2, IP_ext (e _ (by omega) (by omega)) (e _ (by omega) (by omega)) (fun i hi => e _ (by omega) (by omega)) h3, hL, IL_ext (e _ (by omega) (by omega)) (fun j a b => e _ (by omega) (by omega)) h5, IL_ext (e _ (by omega) (by omega)) (fun j a b => e _ (by omega) (by omega)) h6⟩
theorem St_event {es' : Int32} {eo' eq' : Nat → Int32} (h : St rg ld mt ps pl pw ss so sq es eo eq gs go gq mrg ms) (hL : IL vEvent 8 4 90 es' eo' eq' ms') (e : ∀ j, j ≠ 4 → (j < 90 ∨ 106 ≤ j) → ms' j = ms j) : St rg ld mt ps pl pw ss so sq es' eo' eq' gs go gq mrg ms' := by
  obtain ⟨h1, h2, h3, h4, h5, h6⟩ := h
  exact ⟨h1, IA_ext (e _ (by omega) (by omega)) (fun c hc => e _ (by omega) (by omega)) h2, IP_ext (e _ (by omega) (by omega)) (e _ (by omega) (by omega)) (fun i hi => e _ (by omega) (by omega)) h3, IL_ext (e _ (by omega) (by omega)) (fun j a b => e _ (by omega) (by omega)) h4, hL, IL_ext (e _ (by omega) (by omega)) (fun j a b => e _ (by omega) (by omega)) h6⟩
theorem St_book {gs' : Int32} {go' gq' : Nat → Int32} (h : St rg ld mt ps pl pw ss so sq es eo eq gs go gq mrg ms) (hL : IL vBook 8 5 106 gs' go' gq' ms') (e : ∀ j, j ≠ 5 → (j < 106 ∨ 122 ≤ j) → ms' j = ms j) : St rg ld mt ps pl pw ss so sq es eo eq gs' go' gq' mrg ms' := by
  obtain ⟨h1, h2, h3, h4, h5, h6⟩ := h
  exact ⟨h1, IA_ext (e _ (by omega) (by omega)) (fun c hc => e _ (by omega) (by omega)) h2, IP_ext (e _ (by omega) (by omega)) (e _ (by omega) (by omega)) (fun i hi => e _ (by omega) (by omega)) h3, IL_ext (e _ (by omega) (by omega)) (fun j a b => e _ (by omega) (by omega)) h4, IL_ext (e _ (by omega) (by omega)) (fun j a b => e _ (by omega) (by omega)) h5, hL⟩
theorem St_path {ps' pl' : Int32} {pw' : Nat → Int32} (h : St rg ld mt ps pl pw ss so sq es eo eq gs go gq mrg ms) (hL : IP ps' pl' pw' ms') (e : ∀ j, j ≠ 1 → j ≠ 2 → (j < 42 ∨ 82 ≤ j) → ms' j = ms j) : St rg ld mt ps' pl' pw' ss so sq es eo eq gs go gq mrg ms' := by
  obtain ⟨h1, h2, h3, h4, h5, h6⟩ := h
  exact ⟨h1, IA_ext (e _ (by omega) (by omega) (by omega)) (fun c hc => e _ (by omega) (by omega) (by omega)) h2, hL, IL_ext (e _ (by omega) (by omega) (by omega)) (fun j a b => e _ (by omega) (by omega) (by omega)) h4, IL_ext (e _ (by omega) (by omega) (by omega)) (fun j a b => e _ (by omega) (by omega) (by omega)) h5, IL_ext (e _ (by omega) (by omega) (by omega)) (fun j a b => e _ (by omega) (by omega) (by omega)) h6⟩
theorem St_tile {rg' mrg' : Int64} {ld' : Int32} {mt' : Nat → Int32} (h : St rg ld mt ps pl pw ss so sq es eo eq gs go gq mrg ms) (hR : IR rg' mrg') (hL : IA rg' ld' mt' ms') (e : ∀ j, j ≠ 0 → (j < 6 ∨ 42 ≤ j) → ms' j = ms j) : St rg' ld' mt' ps pl pw ss so sq es eo eq gs go gq mrg' ms' := by
  obtain ⟨h1, h2, h3, h4, h5, h6⟩ := h
  exact ⟨hR, hL, IP_ext (e _ (by omega) (by omega)) (e _ (by omega) (by omega)) (fun i hi => e _ (by omega) (by omega)) h3, IL_ext (e _ (by omega) (by omega)) (fun j a b => e _ (by omega) (by omega)) h4, IL_ext (e _ (by omega) (by omega)) (fun j a b => e _ (by omega) (by omega)) h5, IL_ext (e _ (by omega) (by omega)) (fun j a b => e _ (by omega) (by omega)) h6⟩
theorem isIn_n {x a b : Int32} (h : M_isIn x a b = 0) : x < a ∨ b < x := by
  unfold M_isIn at h
  split at h
  · rename_i q; exact Or.inl q
  · split at h
    · rename_i q; exact Or.inr q
    · exact absurd h (by decide)
theorem IL_0 {vld : Nat → Nat → Prop} {cap ci base : Nat} {o q : Nat → Int32} (h : ms' ci = 0) : IL vld cap ci base 0 o q ms' := ⟨0, Nat.zero_le _, rfl, h, fun i hi => absurd hi (Nat.not_lt_zero _)⟩
theorem M_none_eq {ci : Nat} (h : ci < 122) : M_none (nI ci) ms = some (0, upd ms ci 0) := by
  unfold M_none
  rw [grd_t (gi_nI h (by decide)), nI_clamp (by omega)]
theorem nI_i0 : ∀ {x : Int32}, nI 0 = x → x = 0 := fun h => h.symm
theorem p_count (a : Int32) {rsz msz : Int32} {rsg mtx : Nat → Int32} (h : St rg ld mt ps pl pw ss so sq es eo eq gs go gq mrg ms) (hX : IX rsz rsg msz mtx) : M_count a msz ms = some (X_count a ss es gs rsz) := by
  obtain ⟨h1, h2, h3, ⟨l4, a4, b4, c4, d4⟩, ⟨l5, a5, b5, c5, d5⟩, ⟨l6, a6, b6_, c6, d6⟩⟩ := h
  obtain ⟨l, x1, x2, x3, x4⟩ := hX
  unfold M_count X_count
  rw [grd_t (by decide), grd_t (by decide), grd_t (by decide), show (3 : Int32).toNatClampNeg = 3 from rfl, show (4 : Int32).toNatClampNeg = 4 from rfl, show (5 : Int32).toNatClampNeg = 5 from rfl, c4, c5, c6, b4, b5, b6_, x2, x3]
  split
  · rfl
  split
  · rfl
  split
  · rfl
  split <;> rfl
theorem tri (x : Int32) {m m1 : Int32} {n : Nat} (e : m = nI n) (e1 : m1 = nI (n + 1)) (hn : n + 1 < 2 ^ 31) :
    (x < 0 ∧ ¬ 0 ≤ x ∧ M_isIn x 0 m = 0) ∨ (¬ x < 0 ∧ 0 ≤ x ∧ ¬ x ≤ m ∧ m < x ∧ m1 ≤ x ∧ ¬ x < m1 ∧ M_isIn x 0 m = 0) ∨ (∃ k : Nat, k ≤ n ∧ x = nI k ∧ ¬ x < 0 ∧ 0 ≤ x ∧ x ≤ m ∧ ¬ m < x ∧ ¬ m1 ≤ x ∧ x < m1 ∧ M_isIn x 0 m = 1) := by
  subst e
  subst e1
  have t0 : (0 : Int32).toInt = 0 := by decide
  have t1 : (nI n).toInt = n := nI_toInt (by omega)
  have t2 : (nI (n + 1)).toInt = (n + 1 : Nat) := nI_toInt hn
  have eI : M_isIn x 0 (nI n) = if x < 0 then 0 else if nI n < x then 0 else 1 := rfl
  rw [eI]
  simp only [Int32.lt_iff_toInt_lt, Int32.le_iff_toInt_le, t0, t1, t2]
  rcases Int.lt_or_le x.toInt 0 with h | h
  · left
    refine ⟨h, by omega, if_pos h⟩
  rcases Int.lt_or_le (n : Int) x.toInt with h2 | h2
  · right; left
    refine ⟨by omega, h, by omega, h2, by omega, by omega, ?_⟩
    rw [if_neg (by omega), if_pos h2]
  · right; right
    obtain ⟨k, hk, ek⟩ := nI_of (x := x) (fun q => by have := Int32.lt_iff_toInt_lt.mp q; omega)
    have : x.toInt = k := by rw [ek, nI_toInt hk]
    refine ⟨k, by omega, ek, by omega, h, h2, by omega, by omega, by omega, ?_⟩
    rw [if_neg (by omega), if_neg (by omega)]
theorem nI_ne_m1 (k : Nat) (h : k < 2 ^ 31) : ¬ nI k = -1 := fun q => by
  have := congrArg Int32.toInt q
  rw [nI_toInt h] at this
  have e : (-1 : Int32).toInt = -1 := by decide
  omega
theorem nI_ne0' {k : Nat} (h : k + 1 < 2 ^ 31) : ¬ nI (k + 1) = 0 := nI_ne0 (by omega) h
theorem p_see (a b : Int32) (h : St rg ld mt ps pl pw ss so sq es eo eq gs go gq mrg ms) : ∃ q, X_see a b ss so sq = some q ∧ ∃ q', M_see a b ms = some q' ∧ q'.1 = q.1 ∧ St rg ld mt ps pl pw q.2.1 q.2.2.1 q.2.2.2 es eo eq gs go gq mrg q'.2 := by
  obtain ⟨l, a4, b4, c4, d4⟩ := h.2.2.2.1
  unfold X_see M_see
  by_cases c1 : a = -1
  · rw [if_pos c1, if_pos c1, show (3 : Int32) = nI 3 from rfl, M_none_eq (by decide)]
    exact ⟨_, rfl, _, rfl, rfl, St_seen h (IL_0 (show upd ms 3 0 3 = 0 from upd_eq _ _ _)) (fun j q _ => upd_ne _ _ q)⟩
  rw [if_neg c1, if_neg c1]
  rcases tri a (m := 2) (m1 := 3) (n := 2) rfl rfl (by decide) with ⟨x1, x2, x3⟩ | ⟨x1, x2, x3, x4, x5, x6, x7⟩ | ⟨k, hk, ek, x1, x2, x3, x4, x5, x6, x7⟩
  · rw [if_pos x1, if_pos x3]
    exact ⟨_, rfl, _, rfl, rfl, h⟩
  · rw [if_neg x1, if_neg x3, if_pos x7]
    exact ⟨_, rfl, _, rfl, rfl, h⟩
  rw [if_neg x1, if_pos x3, x7, if_neg (show ¬ (1 : Int32) = 0 by decide)]
  rcases tri b (m := 144) (m1 := 145) (n := 144) rfl rfl (by decide) with ⟨y1, y2, y3⟩ | ⟨y1, y2, y3, y4, y5, y6, y7⟩ | ⟨j, hj, ej, y1, y2, y3, y4, y5, y6, y7⟩
  · rw [if_pos y1, if_pos y3]
    exact ⟨_, rfl, _, rfl, rfl, h⟩
  · rw [if_neg y1, if_neg y3, if_pos y7]
    exact ⟨_, rfl, _, rfl, rfl, h⟩
  rw [if_neg y1, if_pos y3, y7, if_neg (show ¬ (1 : Int32) = 0 by decide), b4, R_append_eq a b a4, show (3 : Int32) = nI 3 from rfl, show (82 : Int32) = nI 82 from rfl, show (4 : Int32) = nI 4 from rfl, M_lists_eq (ci := 3) (base := 82) (cap := 4) a b c4 a4 (by decide) (by decide)]
  by_cases e : l = 4
  · rw [if_pos e, if_pos e]
    refine ⟨_, rfl, _, rfl, rfl, ?_⟩
    rw [b4] at h
    exact h
  · rw [if_neg e, if_neg e]
    refine ⟨_, rfl, _, rfl, rfl, ?_⟩
    refine St_seen h ?_ (fun i q1 q2 => lstM_ne q1 (by omega) (by omega))
    rw [ek, ej]
    exact IL_app ⟨hk, hj⟩ (by omega) (by decide) d4
theorem p_book (a b : Int32) (h : St rg ld mt ps pl pw ss so sq es eo eq gs go gq mrg ms) : ∃ q, X_book a b gs go gq = some q ∧ ∃ q', M_book a b ms = some q' ∧ q'.1 = q.1 ∧ St rg ld mt ps pl pw ss so sq es eo eq q.2.1 q.2.2.1 q.2.2.2 mrg q'.2 := by
  obtain ⟨l, a4, b4, c4, d4⟩ := h.2.2.2.2.2
  unfold X_book M_book M_isCell G_isCell X_isBit
  by_cases c1 : a = -1
  · rw [if_pos c1, if_pos c1, show (5 : Int32) = nI 5 from rfl, M_none_eq (by decide)]
    exact ⟨_, rfl, _, rfl, rfl, St_book h (IL_0 (show upd ms 5 0 5 = 0 from upd_eq _ _ _)) (fun j q _ => upd_ne _ _ q)⟩
  rw [if_neg c1, if_neg c1]
  rcases tri a (m := 35) (m1 := 36) (n := 35) rfl rfl (by decide) with ⟨x1, x2, x3⟩ | ⟨x1, x2, x3, x4, x5, x6, x7⟩ | ⟨k, hk, ek, x1, x2, x3, x4, x5, x6, x7⟩
  · rw [if_pos x1, if_pos x3]
    exact ⟨_, rfl, _, rfl, rfl, h⟩
  · rw [if_neg x1, if_pos x5, if_pos x7]
    exact ⟨_, rfl, _, rfl, rfl, h⟩
  rw [if_neg x1, if_neg x5, x7, if_neg (show ¬ (1 : Int32) = 0 by decide)]
  rcases tri b (m := 1) (m1 := 2) (n := 1) rfl rfl (by decide) with ⟨y1, y2, y3⟩ | ⟨y1, y2, y3, y4, y5, y6, y7⟩ | ⟨j, hj, ej, y1, y2, y3, y4, y5, y6, y7⟩
  · rw [if_neg (show ¬ b = 0 from fun q => y2 (by rw [q]; decide)), if_neg (show ¬ b = 1 from fun q => y2 (by rw [q]; decide)), if_pos rfl, if_pos y3]
    exact ⟨_, rfl, _, rfl, rfl, h⟩
  · rw [if_neg (show ¬ b = 0 from fun q => y3 (by rw [q]; decide)), if_neg (show ¬ b = 1 from fun q => y3 (by rw [q]; decide)), if_pos rfl, if_pos y7]
    exact ⟨_, rfl, _, rfl, rfl, h⟩
  have eb : (if (if b = (0:Int32) then (1:Int32) else if b = 1 then 1 else 0) = 0 then True else False) = False := by
    rcases (show j = 0 ∨ j = 1 by omega) with q | q
    · subst q; rw [ej]; decide
    · subst q; rw [ej]; decide
  have eb : ¬ (if b = (0:Int32) then (1:Int32) else if b = 1 then 1 else 0) = 0 := fun q => by rw [if_pos q] at eb; exact eb.mp trivial
  rw [if_neg eb, y7, if_neg (show ¬ (1 : Int32) = 0 by decide), b4, R_append_2_eq a b a4, show (5 : Int32) = nI 5 from rfl, show (106 : Int32) = nI 106 from rfl, show (8 : Int32) = nI 8 from rfl, M_lists_eq (ci := 5) (base := 106) (cap := 8) a b c4 a4 (by decide) (by decide)]
  by_cases e : l = 8
  · rw [if_pos e, if_pos e]
    refine ⟨_, rfl, _, rfl, rfl, ?_⟩
    rw [b4] at h
    exact h
  · rw [if_neg e, if_neg e]
    refine ⟨_, rfl, _, rfl, rfl, ?_⟩
    refine St_book h ?_ (fun i q1 q2 => lstM_ne q1 (by omega) (by omega))
    rw [ek, ej]
    exact IL_app ⟨by omega, hj⟩ (by omega) (by decide) d4
theorem p_begin (a : Int32) (h : St rg ld mt ps pl pw ss so sq es eo eq gs go gq mrg ms) : ∃ q, X_begin a ps pl = some q ∧ ∃ q', M_begin a ms = some q' ∧ q'.1 = q.1 ∧ St rg ld mt q.2.1 q.2.2 pw ss so sq es eo eq gs go gq mrg q'.2 := by
  obtain ⟨l, vs, ws, k1, k2, k3, k4, k5, k6, k7⟩ := h.2.2.1
  unfold X_begin M_begin M_isVertex G_isVertex
  rcases tri a (m := 48) (m1 := 49) (n := 48) rfl rfl (by decide) with ⟨x1, x2, x3⟩ | ⟨x1, x2, x3, x4, x5, x6, x7⟩ | ⟨k, hk, ek, x1, x2, x3, x4, x5, x6, x7⟩
  · rw [if_pos x1, if_pos x3]
    exact ⟨_, rfl, _, rfl, rfl, h⟩
  · rw [if_neg x1, if_pos x5, if_pos x7]
    exact ⟨_, rfl, _, rfl, rfl, h⟩
  rw [if_neg x1, if_neg x5, x7, if_neg (show ¬ (1 : Int32) = 0 by decide), if_neg (show ¬ (1 : Int32) = 0 by decide), grd_t (by decide), grd_t (by decide), grd_t (by decide)]
  refine ⟨_, rfl, _, rfl, ?_, ?_⟩
  · exact k6.trans k5.symm
  · refine St_path h ?_ (fun j q1 q2 _ => ?_)
    · refine ⟨0, fun _ => k, ws, by omega, Nat.lt_succ_of_le hk, ek, ?_, rfl, (show upd (upd ms 1 a) 2 0 2 = nI 0 from upd_eq _ _ _), fun i hi => absurd hi (Nat.not_lt_zero _)⟩
      show upd (upd ms 1 a) 2 0 1 = nI k
      rw [upd_ne _ _ (by decide), upd_eq, ek]
    · show upd (upd ms 1 a) 2 0 j = ms j
      rw [upd_ne _ _ q2, upd_ne _ _ q1]
theorem p_event (a b : Int32) (h : St rg ld mt ps pl pw ss so sq es eo eq gs go gq mrg ms) : ∃ q, X_event a b es eo eq = some q ∧ ∃ q', M_event a b ms = some q' ∧ q'.1 = q.1 ∧ St rg ld mt ps pl pw ss so sq q.2.1 q.2.2.1 q.2.2.2 gs go gq mrg q'.2 := by
  obtain ⟨l, a4, b4, c4, d4⟩ := h.2.2.2.2.1
  have app : ∀ k j, a = nI k → b = nI j → vEvent k j → ∃ q, X_event_j67 a b es eo eq = some q ∧ ∃ q', M_event_j66 a b ms = some q' ∧ q'.1 = q.1 ∧ St rg ld mt ps pl pw ss so sq q.2.1 q.2.2.1 q.2.2.2 gs go gq mrg q'.2 := by
    intro k j ek ej hv
    unfold X_event_j67 M_event_j66
    rw [b4, R_append_2_eq a b a4, show (4 : Int32) = nI 4 from rfl, show (90 : Int32) = nI 90 from rfl, show (8 : Int32) = nI 8 from rfl, M_lists_eq (ci := 4) (base := 90) (cap := 8) a b c4 a4 (by decide) (by decide)]
    by_cases e : l = 8
    · rw [if_pos e, if_pos e]
      refine ⟨_, rfl, _, rfl, rfl, ?_⟩
      rw [b4] at h
      exact h
    · rw [if_neg e, if_neg e]
      refine ⟨_, rfl, _, rfl, rfl, ?_⟩
      refine St_event h ?_ (fun i q1 q2 => lstM_ne q1 (by omega) (by omega))
      rw [ek, ej]
      exact IL_app hv (by omega) (by decide) d4
  unfold X_event M_event
  by_cases c1 : a = -1
  · rw [if_pos c1, if_pos c1, show (4 : Int32) = nI 4 from rfl, M_none_eq (by decide)]
    exact ⟨_, rfl, _, rfl, rfl, St_event h (IL_0 (show upd ms 4 0 4 = 0 from upd_eq _ _ _)) (fun j q _ => upd_ne _ _ q)⟩
  rw [if_neg c1, if_neg c1]
  rcases tri a (m := 3) (m1 := 4) (n := 3) rfl rfl (by decide) with ⟨x1, x2, x3⟩ | ⟨x1, x2, x3, x4, x5, x6, x7⟩ | ⟨k, hk, ek, x1, x2, x3, x4, x5, x6, x7⟩
  · rw [if_pos x1, if_pos x3]
    exact ⟨_, rfl, _, rfl, rfl, h⟩
  · rw [if_neg x1, if_neg x3, if_pos x7]
    exact ⟨_, rfl, _, rfl, rfl, h⟩
  rw [if_neg x1, if_pos x3, x7, if_neg (show ¬ (1 : Int32) = 0 by decide)]
  rcases (show k = 0 ∨ k = 1 ∨ k = 2 ∨ k = 3 by omega) with q | q | q | q <;> subst q
  · have e0 : a = 0 := ek
    unfold X_event_j55 M_event_j31 M_event_j52 M_isCell
    rw [if_neg (show ¬ (3 : Int32) ≤ a by rw [e0]; decide), if_pos e0, if_pos e0, if_neg (show ¬ a = 3 by rw [e0]; decide), if_neg (show ¬ a = 1 by rw [e0]; decide), if_neg (show ¬ a = 2 by rw [e0]; decide), if_neg (show ¬ a = 3 by rw [e0]; decide)]
    rcases tri b (m := 35) (m1 := 36) (n := 35) rfl rfl (by decide) with ⟨y1, y2, y3⟩ | ⟨y1, y2, y3, y4, y5, y6, y7⟩ | ⟨j, hj, ej, y1, y2, y3, y4, y5, y6, y7⟩
    · rw [if_pos y1, if_pos y3]
      exact ⟨_, rfl, _, rfl, rfl, h⟩
    · rw [if_neg y1, if_neg y6, if_pos y7]
      exact ⟨_, rfl, _, rfl, rfl, h⟩
    · rw [if_neg y1, if_pos y6, y7, if_neg (show ¬ (1 : Int32) = 0 by decide)]
      exact app 0 j ek ej ⟨by decide, fun _ => by omega, by omega, by omega⟩
  · have e0 : a = 1 := ek
    unfold X_event_j55 M_event_j31 M_event_j41 M_event_j52
    rw [if_neg (show ¬ (3 : Int32) ≤ a by rw [e0]; decide), if_neg (show ¬ a = 0 by rw [e0]; decide), if_neg (show ¬ a = 0 by rw [e0]; decide), if_neg (show ¬ a = 3 by rw [e0]; decide), if_pos e0, if_neg (show ¬ a = 3 by rw [e0]; decide)]
    rcases tri b (m := 5) (m1 := 6) (n := 5) rfl rfl (by decide) with ⟨y1, y2, y3⟩ | ⟨y1, y2, y3, y4, y5, y6, y7⟩ | ⟨j, hj, ej, y1, y2, y3, y4, y5, y6, y7⟩
    · rw [if_pos y1, if_pos y3]
      exact ⟨_, rfl, _, rfl, rfl, h⟩
    · rw [if_neg y1, if_neg y6, if_pos y7]
      exact ⟨_, rfl, _, rfl, rfl, h⟩
    · rw [if_neg y1, if_pos y6, y7, if_neg (show ¬ (1 : Int32) = 0 by decide)]
      exact app 1 j ek ej ⟨by decide, by omega, fun _ => by omega, by omega⟩
  · have e0 : a = 2 := ek
    unfold X_event_j55 M_event_j31 M_event_j41 M_event_j52
    rw [if_neg (show ¬ (3 : Int32) ≤ a by rw [e0]; decide), if_neg (show ¬ a = 0 by rw [e0]; decide), if_neg (show ¬ a = 0 by rw [e0]; decide), if_neg (show ¬ a = 3 by rw [e0]; decide), if_neg (show ¬ a = 1 by rw [e0]; decide), if_pos e0, if_neg (show ¬ a = 3 by rw [e0]; decide)]
    rcases tri b (m := 5) (m1 := 6) (n := 5) rfl rfl (by decide) with ⟨y1, y2, y3⟩ | ⟨y1, y2, y3, y4, y5, y6, y7⟩ | ⟨j, hj, ej, y1, y2, y3, y4, y5, y6, y7⟩
    · rw [if_pos y1, if_pos y3]
      exact ⟨_, rfl, _, rfl, rfl, h⟩
    · rw [if_neg y1, if_neg y6, if_pos y7]
      exact ⟨_, rfl, _, rfl, rfl, h⟩
    · rw [if_neg y1, if_pos y6, y7, if_neg (show ¬ (1 : Int32) = 0 by decide)]
      exact app 2 j ek ej ⟨by decide, by omega, fun _ => by omega, by omega⟩
  · have e0 : a = 3 := ek
    unfold X_event_j55 M_event_j31 M_event_j52
    rw [if_pos (show (3 : Int32) ≤ a by rw [e0]; decide), if_pos e0, if_neg (show ¬ a = 0 by rw [e0]; decide), if_neg (show ¬ a = 1 by rw [e0]; decide), if_neg (show ¬ a = 2 by rw [e0]; decide), if_pos e0]
    by_cases q : b = 0
    · rw [if_pos q, if_pos q]
      exact app 3 0 ek q ⟨by decide, by omega, by omega, fun _ => rfl⟩
    · rw [if_neg q, if_neg q]
      exact ⟨_, rfl, _, rfl, rfl, h⟩
theorem p_feed (a : Int32) {rsz msz : Int32} {rsg mtx : Nat → Int32} (h : IX rsz rsg msz mtx) : ∃ q, X_feed a rsz rsg = some q ∧ ∃ q', M_feed a msz mtx = some q' ∧ q'.1 = q.1 ∧ IX q.2.1 q.2.2 q'.2.1 q'.2.2 := by
  have h0 := h
  obtain ⟨l, k1, k2, k3, k4⟩ := h
  unfold X_feed M_feed
  rcases tri a (m := 127) (m1 := 128) (n := 127) rfl rfl (by decide) with ⟨x1, x2, x3⟩ | ⟨x1, x2, x3, x4, x5, x6, x7⟩ | ⟨k, hk, ek, x1, x2, x3, x4, x5, x6, x7⟩
  · rw [if_pos x1, if_pos x3]
    exact ⟨_, rfl, _, rfl, rfl, h0⟩
  · rw [if_neg x1, if_neg x3, if_pos x7]
    exact ⟨_, rfl, _, rfl, rfl, h0⟩
  rw [if_neg x1, if_pos x3, x7, if_neg (show ¬ (1 : Int32) = 0 by decide)]
  unfold C_append
  by_cases e : l = 100
  · subst e
    rw [if_pos (show msz = 100 by rw [k3]; rfl), k2, if_neg (show ¬ nI 100 < 0 by decide), if_neg (show ¬ nI 100 < 100 by decide)]
    refine ⟨_, rfl, _, rfl, rfl, ?_⟩
    rw [k2] at h0
    exact h0
  · rw [if_neg (show ¬ msz = 100 by rw [k3]; exact fun q => e ((nI_eq (a := l) (b := 100) (by omega) (by decide)).mp q)), k2, if_neg (nI_pos (by omega)), if_pos (show nI l < 100 from nI_lt (a := l) (b := 100) (by omega) (by decide)), grd_t (gi_nI (by omega) (by decide)), k3, grd_t (gi_nI (by omega) (by decide)), nI_1, nI_clamp (by omega)]
    refine ⟨_, rfl, _, rfl, rfl, ?_⟩
    refine ⟨l + 1, by omega, rfl, rfl, fun i hi => ?_⟩
    rcases Nat.lt_or_ge i l with q | q
    · obtain ⟨c, c1, c2, c3⟩ := k4 i q
      exact ⟨c, c1, (upd_ne _ _ (by omega)).trans c2, (upd_ne _ _ (by omega)).trans c3⟩
    · have : i = l := by omega
      subst this
      exact ⟨k, by omega, (upd_eq _ _ _).trans ek, (upd_eq _ _ _).trans ek⟩
end OPA
