/-! THE EDGE OF A REGION, told on a frame of 8 by 8: position p is of row p / 8, column p % 8, the ground's cells at rows and columns 1 .. 6. The vertex v (row v / 7, column v % 7) is the corner of four positions tg_q v, + 1, + 8, + 9 -/
theorem tg_pig : ∀ (N : Nat) (f : Nat → Nat), (∀ i, i ≤ N → f i < N) → ∃ i j, i < j ∧ j ≤ N ∧ f i = f j
  | 0, _, h => absurd (h 0 (Nat.le_refl 0)) (Nat.not_lt_zero _)
  | N + 1, f, h => by
    by_cases c : ∃ i, i ≤ N ∧ f i = f (N + 1)
    · obtain ⟨i, h1, h2⟩ := c
      exact ⟨i, N + 1, by omega, Nat.le_refl _, h2⟩
    · have c' : ∀ i, i ≤ N → f i ≠ f (N + 1) := fun i h1 h2 => c ⟨i, h1, h2⟩
      obtain ⟨i, j, h1, h2, h3⟩ := tg_pig N (fun i => if f i = N then f (N + 1) else f i) (fun i hi => by
        show (if f i = N then f (N + 1) else f i) < N
        have a1 := h i (by omega)
        have a2 := h (N + 1) (Nat.le_refl _)
        have a3 := c' i hi
        split <;> omega)
      refine ⟨i, j, h1, by omega, ?_⟩
      have b1 := c' i (by omega)
      have b2 := c' j (by omega)
      split at h3 <;> split at h3 <;> omega
theorem tg_least {P : Nat → Prop} (h : ∃ n, P n) : ∃ n, P n ∧ ∀ m, m < n → ¬ P m := by
  obtain ⟨n, hn⟩ := h
  induction n using Nat.strongRecOn with
  | _ n ih =>
    by_cases c : ∃ m, m < n ∧ P m
    · obtain ⟨m, h1, h2⟩ := c
      exact ih m h1 h2
    · exact ⟨n, hn, fun m h1 h2 => c ⟨m, h1, h2⟩⟩
def tg_q (v : Nat) : Nat := 8 * (v / 7) + v % 7
def tg_rp (v w : Nat) : Nat := tg_q v + (if w = 0 then 9 else if w = 1 then 8 else if w = 2 then 0 else 1)
def tg_lp (v w : Nat) : Nat := tg_q v + (if w = 0 then 1 else if w = 1 then 9 else if w = 2 then 8 else 0)
/-- a step of the edge: the region on the right alone -/
def tg_E (F : Nat → Bool) (v w : Nat) : Bool := F (tg_rp v w) && !F (tg_lp v w)
def tg_nx (v w : Nat) : Nat := if w = 0 then v + 1 else if w = 1 then v + 7 else if w = 2 then v - 1 else v - 7
def tg_vd (v w : Nat) : Bool := if w = 0 then decide (v % 7 < 6) else if w = 1 then decide (v < 42) else if w = 2 then decide (0 < v % 7) else decide (7 ≤ v)
def tg_ad (p q : Nat) : Prop := (q = p + 1 ∧ p % 8 < 7) ∨ (p = q + 1 ∧ q % 8 < 7) ∨ q = p + 8 ∨ p = q + 8
/-- nothing on the frame -/
def tg_Fr (F : Nat → Bool) : Prop := ∀ p, (p / 8 = 0 ∨ 7 ≤ p / 8 ∨ p % 8 = 0 ∨ p % 8 = 7) → F p = false
/-- it hangs together: what is alike at neighbours is alike everywhere -/
def tg_Cn (P : Nat → Bool) : Prop := ∀ f : Nat → Bool, (∀ p q, p < 64 → q < 64 → tg_ad p q → P p = true → P q = true → f p = f q) → ∀ p q, p < 64 → q < 64 → P p = true → P q = true → f p = f q
def tg_Smp (F : Nat → Bool) : Prop := (∃ p, p < 64 ∧ F p = true) ∧ tg_Cn F ∧ tg_Cn (fun p => !F p)
def tg_t (F : Nat → Bool) (v : Nat) : Nat := if tg_E F v 0 = true then 0 else if tg_E F v 1 = true then 1 else if tg_E F v 2 = true then 2 else 3
def tg_T (F : Nat → Bool) (v : Nat) : Nat := tg_nx v (tg_t F v)
theorem tg_t_lt (F : Nat → Bool) (v : Nat) : tg_t F v < 4 := by
  unfold tg_t
  split
  · decide
  · split
    · decide
    · split <;> decide
theorem w4 {w : Nat} (h : w < 4) : w = 0 ∨ w = 1 ∨ w = 2 ∨ w = 3 := by omega
theorem tg_t_E {F : Nat → Bool} {v : Nat} (h : ∃ w, w < 4 ∧ tg_E F v w = true) : tg_E F v (tg_t F v) = true := by
  obtain ⟨w, hw, e⟩ := h
  unfold tg_t
  split
  · assumption
  · rename_i a
    split
    · assumption
    · rename_i b
      split
      · assumption
      · rename_i c
        rcases w4 hw with q | q | q | q
        · exact absurd (q ▸ e) a
        · exact absurd (q ▸ e) b
        · exact absurd (q ▸ e) c
        · exact q ▸ e
theorem tg_E0 (F : Nat → Bool) (v : Nat) : tg_E F v 0 = (F (tg_q v + 9) && !F (tg_q v + 1)) := rfl
theorem tg_E1 (F : Nat → Bool) (v : Nat) : tg_E F v 1 = (F (tg_q v + 8) && !F (tg_q v + 9)) := rfl
theorem tg_E2 (F : Nat → Bool) (v : Nat) : tg_E F v 2 = (F (tg_q v) && !F (tg_q v + 8)) := rfl
theorem tg_E3 (F : Nat → Bool) (v : Nat) : tg_E F v 3 = (F (tg_q v + 1) && !F (tg_q v)) := rfl
theorem tg_nx0 (v : Nat) : tg_nx v 0 = v + 1 := rfl
theorem tg_nx1 (v : Nat) : tg_nx v 1 = v + 7 := rfl
theorem tg_nx2 (v : Nat) : tg_nx v 2 = v - 1 := rfl
theorem tg_nx3 (v : Nat) : tg_nx v 3 = v - 7 := rfl
theorem tg_vd0 (v : Nat) : tg_vd v 0 = decide (v % 7 < 6) := rfl
theorem tg_vd1 (v : Nat) : tg_vd v 1 = decide (v < 42) := rfl
theorem tg_vd2 (v : Nat) : tg_vd v 2 = decide (0 < v % 7) := rfl
theorem tg_vd3 (v : Nat) : tg_vd v 3 = decide (7 ≤ v) := rfl
theorem tg_q_r {v : Nat} (h : v % 7 < 6) : tg_q (v + 1) = tg_q v + 1 := by unfold tg_q; omega
theorem tg_q_d (v : Nat) : tg_q (v + 7) = tg_q v + 8 := by unfold tg_q; omega
theorem tg_q_l {v : Nat} (h : 0 < v % 7) : tg_q (v - 1) + 1 = tg_q v := by unfold tg_q; omega
theorem tg_q_u {v : Nat} (h : 7 ≤ v) : tg_q (v - 7) + 8 = tg_q v := by unfold tg_q; omega
/-- whether a step stays on the ground -/
theorem tg_vd_lt {v w : Nat} (hv : v < 49) (hw : w < 4) (h : tg_vd v w = true) : tg_nx v w < 49 := by
  rcases w4 hw with q | q | q | q <;> subst q
  · rw [tg_vd0] at h; rw [tg_nx0]; have := of_decide_eq_true h; omega
  · rw [tg_vd1] at h; rw [tg_nx1]; have := of_decide_eq_true h; omega
  · rw [tg_nx2]; omega
  · rw [tg_nx3]; omega
/-- the step back -/
theorem tg_back {v w : Nat} (hv : v < 49) (hw : w < 4) (h : tg_vd v w = true) : tg_nx (tg_nx v w) ((w + 2) % 4) = v ∧ tg_vd (tg_nx v w) ((w + 2) % 4) = true := by
  rcases w4 hw with q | q | q | q <;> subst q
  · rw [tg_vd0] at h; have := of_decide_eq_true h; rw [tg_nx0, tg_nx2, tg_vd2]; exact ⟨by omega, decide_eq_true (by omega)⟩
  · rw [tg_vd1] at h; have := of_decide_eq_true h; rw [tg_nx1, tg_nx3, tg_vd3]; exact ⟨by omega, decide_eq_true (by omega)⟩
  · rw [tg_vd2] at h; have := of_decide_eq_true h; rw [tg_nx2, tg_nx0, tg_vd0]; exact ⟨by omega, decide_eq_true (by omega)⟩
  · rw [tg_vd3] at h; have := of_decide_eq_true h; rw [tg_nx3, tg_nx1, tg_vd1]; exact ⟨by omega, decide_eq_true (by omega)⟩
/-- the step back has the sides changed -/
theorem tg_sw {v w : Nat} (hw : w < 4) (h : tg_vd v w = true) : tg_rp (tg_nx v w) ((w + 2) % 4) = tg_lp v w ∧ tg_lp (tg_nx v w) ((w + 2) % 4) = tg_rp v w := by
  rcases w4 hw with q | q | q | q <;> subst q
  · rw [tg_vd0] at h; have := tg_q_r (of_decide_eq_true h); rw [tg_nx0]
    show tg_q (v + 1) + 0 = tg_q v + 1 ∧ tg_q (v + 1) + 8 = tg_q v + 9
    omega
  · have := tg_q_d v; rw [tg_nx1]
    show tg_q (v + 7) + 1 = tg_q v + 9 ∧ tg_q (v + 7) + 0 = tg_q v + 8
    omega
  · rw [tg_vd2] at h; have := tg_q_l (of_decide_eq_true h); rw [tg_nx2]
    show tg_q (v - 1) + 9 = tg_q v + 8 ∧ tg_q (v - 1) + 1 = tg_q v + 0
    omega
  · rw [tg_vd3] at h; have := tg_q_u (of_decide_eq_true h); rw [tg_nx3]
    show tg_q (v - 7) + 8 = tg_q v + 0 ∧ tg_q (v - 7) + 9 = tg_q v + 1
    omega
section TG
variable {F : Nat → Bool}
theorem tg_in (hF : tg_Fr F) {p : Nat} (h : F p = true) : 1 ≤ p / 8 ∧ p / 8 ≤ 6 ∧ 1 ≤ p % 8 ∧ p % 8 ≤ 6 := by
  by_cases c : p / 8 = 0 ∨ 7 ≤ p / 8 ∨ p % 8 = 0 ∨ p % 8 = 7
  · rw [hF p c] at h; cases h
  · omega
theorem tg_Eand {v w : Nat} (h : tg_E F v w = true) : F (tg_rp v w) = true ∧ F (tg_lp v w) = false := by
  unfold tg_E at h
  simpa using h
theorem tg_E_vd (hF : tg_Fr F) {v w : Nat} (hv : v < 49) (hw : w < 4) (h : tg_E F v w = true) : tg_vd v w = true := by
  have h1 := tg_in hF (tg_Eand h).1
  rcases w4 hw with q | q | q | q <;> subst q
  · rw [tg_vd0]; apply decide_eq_true; have e : tg_rp v 0 = 8 * (v / 7) + v % 7 + 9 := rfl; rw [e] at h1; omega
  · rw [tg_vd1]; apply decide_eq_true; have e : tg_rp v 1 = 8 * (v / 7) + v % 7 + 8 := rfl; rw [e] at h1; omega
  · rw [tg_vd2]; apply decide_eq_true; have e : tg_rp v 2 = 8 * (v / 7) + v % 7 + 0 := rfl; rw [e] at h1; omega
  · rw [tg_vd3]; apply decide_eq_true; have e : tg_rp v 3 = 8 * (v / 7) + v % 7 + 1 := rfl; rw [e] at h1; omega
theorem tg_loc : ∀ a b c d : Bool, ((c && !a) || (a && !b) || (b && !d) || (d && !c)) = true → ((d && !b) || (c && !d) || (a && !c) || (b && !a)) = true := by decide
/-- a vertex that is come to is gone from -/
theorem tg_on (hF : tg_Fr F) {v w : Nat} (hv : v < 49) (hw : w < 4) (h : tg_E F v w = true) : ∃ w', w' < 4 ∧ tg_E F (tg_nx v w) w' = true := by
  have hd := tg_E_vd hF hv hw h
  obtain ⟨h1, h2⟩ := tg_Eand h
  obtain ⟨s1, s2⟩ := tg_sw hw hd
  rw [← s2] at h1
  rw [← s1] at h2
  have key := tg_loc (F (tg_q (tg_nx v w))) (F (tg_q (tg_nx v w) + 1)) (F (tg_q (tg_nx v w) + 8)) (F (tg_q (tg_nx v w) + 9)) (by
    rcases w4 hw with q | q | q | q <;> subst q
    · have a1 : F (tg_q (tg_nx v 0) + 8) = true := h1
      have a2 : F (tg_q (tg_nx v 0)) = false := h2
      rw [a1, a2]; rfl
    · have a1 : F (tg_q (tg_nx v 1)) = true := h1
      have a2 : F (tg_q (tg_nx v 1) + 1) = false := h2
      rw [a1, a2]; simp
    · have a1 : F (tg_q (tg_nx v 2) + 1) = true := h1
      have a2 : F (tg_q (tg_nx v 2) + 9) = false := h2
      rw [a1, a2]; simp
    · have a1 : F (tg_q (tg_nx v 3) + 9) = true := h1
      have a2 : F (tg_q (tg_nx v 3) + 8) = false := h2
      rw [a1, a2]; simp)
  rw [← tg_E0, ← tg_E1, ← tg_E2, ← tg_E3, Bool.or_eq_true, Bool.or_eq_true, Bool.or_eq_true] at key
  rcases key with ((k | k) | k) | k
  · exact ⟨0, by decide, k⟩
  · exact ⟨1, by decide, k⟩
  · exact ⟨2, by decide, k⟩
  · exact ⟨3, by decide, k⟩
/-- a cycle of the edge -/
def tg_Cy (F S : Nat → Bool) : Prop := (∃ v, S v = true) ∧ (∀ v, S v = true → v < 49 ∧ ∃ w, w < 4 ∧ tg_E F v w = true) ∧ (∀ v, S v = true → S (tg_T F v) = true) ∧ (∀ v, S v = true → ∃ u, S u = true ∧ tg_T F u = v) ∧ (∀ u u', S u = true → S u' = true → tg_T F u = tg_T F u' → u = u')
def tg_i (F S : Nat → Bool) (v w : Nat) : Bool := tg_vd v w && S (tg_nx v w) && decide (tg_t F (tg_nx v w) = (w + 2) % 4)
def tg_o (F S : Nat → Bool) (v w : Nat) : Bool := S v && decide (tg_t F v = w)
def tg_e (F S : Nat → Bool) (v w : Nat) : Bool := tg_o F S v w || tg_i F S v w
variable {S : Nat → Bool}
theorem tg_oE (hC : tg_Cy F S) {v w : Nat} (h : tg_o F S v w = true) : tg_E F v w = true ∧ v < 49 := by
  unfold tg_o at h
  rw [Bool.and_eq_true] at h
  have e := of_decide_eq_true h.2
  have := hC.2.1 v h.1
  exact ⟨e ▸ tg_t_E this.2, this.1⟩
theorem tg_i_o {v w : Nat} (h : tg_i F S v w = true) : tg_vd v w = true ∧ tg_o F S (tg_nx v w) ((w + 2) % 4) = true := by
  unfold tg_i at h
  rw [Bool.and_eq_true, Bool.and_eq_true] at h
  refine ⟨h.1.1, ?_⟩
  unfold tg_o
  rw [h.1.2, h.2]
  rfl
theorem tg_o_i {v w : Nat} (hd : tg_vd v w = true) (h : tg_o F S (tg_nx v w) ((w + 2) % 4) = true) : tg_i F S v w = true := by
  unfold tg_o at h
  rw [Bool.and_eq_true] at h
  unfold tg_i
  rw [hd, h.1, h.2]
  rfl
/-- the sides of an edge of the cycle differ -/
theorem tg_e_F (hC : tg_Cy F S) {v w : Nat} (hw : w < 4) (h : tg_e F S v w = true) : F (tg_rp v w) ≠ F (tg_lp v w) := by
  unfold tg_e at h
  rw [Bool.or_eq_true] at h
  rcases h with h | h
  · obtain ⟨a, b⟩ := tg_Eand (tg_oE hC h).1
    rw [a, b]; decide
  · obtain ⟨hd, ho⟩ := tg_i_o h
    obtain ⟨a, b⟩ := tg_Eand (tg_oE hC ho).1
    obtain ⟨s1, s2⟩ := tg_sw hw hd
    rw [s1] at a
    rw [s2] at b
    rw [a, b]; decide
theorem tg_conf (hC : tg_Cy F S) {v w : Nat} (hw : w < 4) (h : tg_E F v w = true) : tg_i F S v w = false := by
  cases e : tg_i F S v w with
  | false => rfl
  | true =>
    obtain ⟨hd, ho⟩ := tg_i_o e
    obtain ⟨a, b⟩ := tg_Eand (tg_oE hC ho).1
    obtain ⟨s1, s2⟩ := tg_sw hw hd
    rw [s1] at a
    rw [(tg_Eand h).2] at a
    cases a
theorem tg_e_vd (hF : tg_Fr F) (hC : tg_Cy F S) {v w : Nat} (hw : w < 4) (h : tg_vd v w = false) : tg_e F S v w = false := by
  cases e : tg_e F S v w with
  | false => rfl
  | true =>
    unfold tg_e at e
    rw [Bool.or_eq_true] at e
    rcases e with e | e
    · obtain ⟨a, b⟩ := tg_oE hC e
      rw [tg_E_vd hF b hw a] at h
      cases h
    · rw [(tg_i_o e).1] at h
      cases h
theorem tg_e_sym {v w : Nat} (hv : v < 49) (hw : w < 4) (h : tg_vd v w = true) : tg_e F S (tg_nx v w) ((w + 2) % 4) = tg_e F S v w := by
  obtain ⟨b1, b2⟩ := tg_back hv hw h
  have ew : ((w + 2) % 4 + 2) % 4 = w := by omega
  have e1 : tg_i F S v w = tg_o F S (tg_nx v w) ((w + 2) % 4) := by
    rw [Bool.eq_iff_iff]
    exact ⟨fun q => (tg_i_o q).2, tg_o_i h⟩
  have e2 : tg_i F S (tg_nx v w) ((w + 2) % 4) = tg_o F S v w := by
    rw [Bool.eq_iff_iff]
    refine ⟨fun q => ?_, fun q => tg_o_i b2 ?_⟩
    · have := (tg_i_o q).2
      rwa [b1, ew] at this
    · rwa [b1, ew]
  unfold tg_e
  rw [e1, e2, Bool.or_comm]
theorem deg4 : ∀ k, k < 4 → ∀ m, m < 4 → ¬ m = (k + 2) % 4 → (((((decide (k = 0) || decide (m = (0 + 2) % 4)) ^^ (decide (k = 1) || decide (m = (1 + 2) % 4))) ^^ (decide (k = 2) || decide (m = (2 + 2) % 4))) ^^ (decide (k = 3) || decide (m = (3 + 2) % 4)))) = false := by decide
/-- as many edges of it come to a vertex as go from there -/
theorem tg_deg (hF : tg_Fr F) (hC : tg_Cy F S) {v : Nat} (hv : v < 49) : (((tg_e F S v 0 ^^ tg_e F S v 1) ^^ tg_e F S v 2) ^^ tg_e F S v 3) = false := by
  have hT : ∀ w, w < 4 → tg_i F S v w = true → S (tg_nx v w) = true ∧ tg_T F (tg_nx v w) = v ∧ tg_t F (tg_nx v w) = (w + 2) % 4 := fun w hw h => by
    obtain ⟨hd, ho⟩ := tg_i_o h
    unfold tg_o at ho
    rw [Bool.and_eq_true] at ho
    have e := of_decide_eq_true ho.2
    refine ⟨ho.1, ?_, e⟩
    unfold tg_T
    rw [e]
    exact (tg_back hv hw hd).1
  cases hS : S v with
  | false =>
    have key : ∀ w, w < 4 → tg_e F S v w = false := fun w hw => by
      have a : tg_o F S v w = false := by unfold tg_o; rw [hS]; rfl
      have b : tg_i F S v w = false := by
        cases e : tg_i F S v w with
        | false => rfl
        | true =>
          obtain ⟨q1, q2, _⟩ := hT w hw e
          have := hC.2.2.1 _ q1
          rw [q2, hS] at this
          cases this
      unfold tg_e
      rw [a, b]; rfl
    rw [key 0 (by decide), key 1 (by decide), key 2 (by decide), key 3 (by decide)]; rfl
  | true =>
    obtain ⟨u, hu, eu⟩ := hC.2.2.2.1 v hS
    obtain ⟨hu49, huw⟩ := hC.2.1 u hu
    have hk := tg_t_lt F v
    have hm := tg_t_lt F u
    have hvd := tg_E_vd hF hu49 hm (tg_t_E huw)
    have hi : ∀ w, w < 4 → tg_i F S v w = decide (tg_t F u = (w + 2) % 4) := fun w hw => by
      rw [Bool.eq_iff_iff, decide_eq_true_eq]
      refine ⟨fun q => ?_, fun q => ?_⟩
      · obtain ⟨q1, q2, q3⟩ := hT w hw q
        have := hC.2.2.2.2 u _ hu q1 (by rw [eu, q2])
        rw [this]
        exact q3
      · obtain ⟨b1, b2⟩ := tg_back hu49 hm hvd
        have e0 : tg_nx u (tg_t F u) = v := eu
        have ew : (tg_t F u + 2) % 4 = w := by omega
        rw [e0, ew] at b1 b2
        refine tg_o_i b2 ?_
        unfold tg_o
        rw [b1, hu, q]
        exact decide_eq_true rfl
    have ho : ∀ w, tg_o F S v w = decide (tg_t F v = w) := fun w => by unfold tg_o; rw [hS]; rfl
    have hc : ¬ tg_t F u = (tg_t F v + 2) % 4 := fun q => by
      have := tg_conf hC hk (tg_t_E (hC.2.1 v hS).2)
      rw [hi _ hk, decide_eq_true q] at this
      cases this
    unfold tg_e
    rw [hi 0 (by decide), hi 1 (by decide), hi 2 (by decide), hi 3 (by decide), ho, ho, ho, ho]
    exact deg4 _ hk _ hm hc
/-- how many edges of it there are on the right of a position, by two -/
def tg_V (e : Nat → Nat → Bool) (i c : Nat) : Bool := decide (1 ≤ i ∧ i ≤ 6) && e (7 * (i - 1) + c) 1
def tg_g (e : Nat → Nat → Bool) (i : Nat) : Nat → Bool
  | 0 => false
  | k + 1 => tg_g e i k ^^ tg_V e i (6 - k)
def tg_f (e : Nat → Nat → Bool) (p : Nat) : Bool := tg_g e (p / 8) (7 - p % 8)
theorem tg_V_u (hF : tg_Fr F) (hC : tg_Cy F S) {i c : Nat} (hi : i ≤ 6) (hc : c ≤ 6) : tg_V (tg_e F S) i c = tg_e F S (7 * i + c) 3 := by
  unfold tg_V
  by_cases q : 1 ≤ i
  · rw [decide_eq_true (show 1 ≤ i ∧ i ≤ 6 from ⟨q, hi⟩), Bool.true_and]
    have := tg_e_sym (F := F) (S := S) (v := 7 * (i - 1) + c) (w := 1) (by omega) (by decide) (by rw [tg_vd1]; exact decide_eq_true (by omega))
    rw [tg_nx1, show 7 * (i - 1) + c + 7 = 7 * i + c by omega] at this
    exact this.symm
  · rw [decide_eq_false (show ¬ (1 ≤ i ∧ i ≤ 6) by omega), Bool.false_and, tg_e_vd hF hC (by decide) (by rw [tg_vd3]; exact decide_eq_false (by omega))]
theorem tg_V_d (hF : tg_Fr F) (hC : tg_Cy F S) {i c : Nat} (hi : i ≤ 6) (hc : c ≤ 6) : tg_V (tg_e F S) (i + 1) c = tg_e F S (7 * i + c) 1 := by
  unfold tg_V
  by_cases q : i + 1 ≤ 6
  · rw [decide_eq_true (show 1 ≤ i + 1 ∧ i + 1 ≤ 6 from ⟨by omega, q⟩), Bool.true_and, Nat.add_sub_cancel]
  · rw [decide_eq_false (show ¬ (1 ≤ i + 1 ∧ i + 1 ≤ 6) by omega), Bool.false_and, tg_e_vd hF hC (by decide) (by rw [tg_vd1]; exact decide_eq_false (by omega))]
theorem x4 : ∀ a b c d : Bool, (((a ^^ b) ^^ c) ^^ d) = false → ((a ^^ (d ^^ b)) = c) := by decide
theorem x5 : ∀ a b c d : Bool, ((a ^^ b) ^^ (c ^^ d)) = ((a ^^ c) ^^ (b ^^ d)) := by decide
theorem tg_gg (hF : tg_Fr F) (hC : tg_Cy F S) {i : Nat} (hi : i ≤ 6) : ∀ k, k ≤ 7 → (tg_g (tg_e F S) i k ^^ tg_g (tg_e F S) (i + 1) k) = if k = 0 then false else tg_e F S (7 * i + (7 - k)) 2
  | 0, _ => rfl
  | k + 1, hk => by
    have ih := tg_gg hF hC hi k (by omega)
    show ((tg_g (tg_e F S) i k ^^ tg_V (tg_e F S) i (6 - k)) ^^ (tg_g (tg_e F S) (i + 1) k ^^ tg_V (tg_e F S) (i + 1) (6 - k))) = _
    rw [x5, ih, tg_V_u hF hC hi (by omega), tg_V_d hF hC hi (by omega), if_neg (Nat.succ_ne_zero k)]
    have e0 : (if k = 0 then false else tg_e F S (7 * i + (7 - k)) 2) = tg_e F S (7 * i + (6 - k)) 0 := by
      by_cases q : k = 0
      · rw [if_pos q, tg_e_vd hF hC (by decide) (by rw [tg_vd0]; exact decide_eq_false (by omega))]
      · rw [if_neg q]
        have := tg_e_sym (F := F) (S := S) (v := 7 * i + (6 - k)) (w := 0) (by omega) (by decide) (by rw [tg_vd0]; exact decide_eq_true (by omega))
        rw [tg_nx0, show 7 * i + (6 - k) + 1 = 7 * i + (7 - k) by omega] at this
        exact this
    rw [e0, show 7 - (k + 1) = 6 - k by omega]
    exact x4 _ _ _ _ (tg_deg hF hC (by omega))
theorem tg_f_at (e : Nat → Nat → Bool) {i j : Nat} (h : j < 8) : tg_f e (8 * i + j) = tg_g e i (7 - j) := by
  unfold tg_f
  rw [show (8 * i + j) / 8 = i by omega, show (8 * i + j) % 8 = j by omega]
theorem x2 : ∀ a b : Bool, ((a ^^ b) ^^ a) = b := by decide
theorem x2' : ∀ a b : Bool, (a ^^ (a ^^ b)) = b := by decide
/-- it flips over the edges of the cycle alone -/
theorem tg_flip (hF : tg_Fr F) (hC : tg_Cy F S) {v w : Nat} (hv : v < 49) (hw : w < 4) : (tg_f (tg_e F S) (tg_rp v w) ^^ tg_f (tg_e F S) (tg_lp v w)) = tg_e F S v w := by
  have ev : 7 * (v / 7) + v % 7 = v := by omega
  have hr : v / 7 ≤ 6 := by omega
  have hc : v % 7 ≤ 6 := by omega
  rcases w4 hw with q | q | q | q <;> subst q
  · rw [show tg_rp v 0 = 8 * (v / 7 + 1) + (v % 7 + 1) by show tg_q v + 9 = _; unfold tg_q; omega, show tg_lp v 0 = 8 * (v / 7) + (v % 7 + 1) by show tg_q v + 1 = _; unfold tg_q; omega, tg_f_at _ (by omega), tg_f_at _ (by omega), Bool.xor_comm, tg_gg hF hC hr _ (by omega)]
    by_cases q : 7 - (v % 7 + 1) = 0
    · rw [if_pos q, tg_e_vd hF hC (by decide) (by rw [tg_vd0]; exact decide_eq_false (by omega))]
    · rw [if_neg q]
      have := tg_e_sym (F := F) (S := S) (v := v) (w := 0) hv (by decide) (by rw [tg_vd0]; exact decide_eq_true (by omega))
      rw [tg_nx0] at this
      rw [show 7 * (v / 7) + (7 - (7 - (v % 7 + 1))) = v + 1 by omega]
      exact this
  · rw [show tg_rp v 1 = 8 * (v / 7 + 1) + v % 7 by show tg_q v + 8 = _; unfold tg_q; omega, show tg_lp v 1 = 8 * (v / 7 + 1) + (v % 7 + 1) by show tg_q v + 9 = _; unfold tg_q; omega, tg_f_at _ (by omega), tg_f_at _ (by omega), show 7 - v % 7 = (7 - (v % 7 + 1)) + 1 by omega]
    show ((tg_g (tg_e F S) (v / 7 + 1) (7 - (v % 7 + 1)) ^^ tg_V (tg_e F S) (v / 7 + 1) (6 - (7 - (v % 7 + 1)))) ^^ _) = _
    rw [x2, show 6 - (7 - (v % 7 + 1)) = v % 7 by omega, tg_V_d hF hC hr hc, ev]
  · rw [show tg_rp v 2 = 8 * (v / 7) + v % 7 by show tg_q v + 0 = _; unfold tg_q; omega, show tg_lp v 2 = 8 * (v / 7 + 1) + v % 7 by show tg_q v + 8 = _; unfold tg_q; omega, tg_f_at _ (by omega), tg_f_at _ (by omega), tg_gg hF hC hr _ (by omega), if_neg (by omega), show 7 * (v / 7) + (7 - (7 - v % 7)) = v by omega]
  · rw [show tg_rp v 3 = 8 * (v / 7) + (v % 7 + 1) by show tg_q v + 1 = _; unfold tg_q; omega, show tg_lp v 3 = 8 * (v / 7) + v % 7 by show tg_q v + 0 = _; unfold tg_q; omega, tg_f_at _ (by omega), tg_f_at _ (by omega), show 7 - v % 7 = (7 - (v % 7 + 1)) + 1 by omega]
    show (_ ^^ (tg_g (tg_e F S) (v / 7) (7 - (v % 7 + 1)) ^^ tg_V (tg_e F S) (v / 7) (6 - (7 - (v % 7 + 1))))) = _
    rw [x2', show 6 - (7 - (v % 7 + 1)) = v % 7 by omega, tg_V_u hF hC hr hc, ev]
theorem x_ne {a b : Bool} (h : a ≠ b) : (a ^^ b) = true := by cases a <;> cases b <;> first | rfl | exact absurd rfl h
theorem x_eq {a b : Bool} (h : (a ^^ b) = false) : a = b := by cases a <;> cases b <;> first | rfl | cases h
/-- where the region doesn't change, it doesn't -/
theorem tg_same (hF : tg_Fr F) (hC : tg_Cy F S) {p q : Nat} (hp : p < 64) (hq : q < 64) (h : tg_ad p q) (e : F p = F q) : tg_f (tg_e F S) p = tg_f (tg_e F S) q := by
  have side : ∀ p, p + 1 < 64 → p % 8 < 7 → F p = F (p + 1) → tg_f (tg_e F S) p = tg_f (tg_e F S) (p + 1) := fun p hp h7 e => by
    by_cases c : 1 ≤ p / 8 ∧ p / 8 ≤ 6
    · have hq : tg_q (7 * (p / 8 - 1) + p % 8) = 8 * (p / 8 - 1) + p % 8 := by unfold tg_q; omega
      have e1 : tg_rp (7 * (p / 8 - 1) + p % 8) 1 = p := by show tg_q _ + 8 = p; omega
      have e2 : tg_lp (7 * (p / 8 - 1) + p % 8) 1 = p + 1 := by show tg_q _ + 9 = p + 1; omega
      have fl := tg_flip hF hC (v := 7 * (p / 8 - 1) + p % 8) (w := 1) (by omega) (by decide)
      rw [e1, e2] at fl
      cases ee : tg_e F S (7 * (p / 8 - 1) + p % 8) 1 with
      | false => rw [ee] at fl; exact x_eq fl
      | true =>
        have := tg_e_F hC (by decide) ee
        rw [e1, e2] at this
        exact absurd e this
    · have hV : ∀ c, tg_V (tg_e F S) (p / 8) c = false := fun c' => by
        unfold tg_V
        rw [decide_eq_false c]; rfl
      have hg : ∀ k, tg_g (tg_e F S) (p / 8) k = false := fun k => by
        induction k with
        | zero => rfl
        | succ k ih =>
          show (tg_g (tg_e F S) (p / 8) k ^^ tg_V (tg_e F S) (p / 8) (6 - k)) = false
          rw [ih, hV]; rfl
      unfold tg_f
      rw [show (p + 1) / 8 = p / 8 by omega, hg, hg]
  have down : ∀ p, p + 8 < 64 → F p = F (p + 8) → tg_f (tg_e F S) p = tg_f (tg_e F S) (p + 8) := fun p hp e => by
    by_cases c : p % 8 = 7
    · unfold tg_f
      rw [show (p + 8) % 8 = p % 8 by omega, c]; rfl
    · have hq : tg_q (7 * (p / 8) + p % 8) = 8 * (p / 8) + p % 8 := by unfold tg_q; omega
      have e1 : tg_rp (7 * (p / 8) + p % 8) 2 = p := by show tg_q _ + 0 = p; omega
      have e2 : tg_lp (7 * (p / 8) + p % 8) 2 = p + 8 := by show tg_q _ + 8 = p + 8; omega
      have fl := tg_flip hF hC (v := 7 * (p / 8) + p % 8) (w := 2) (by omega) (by decide)
      rw [e1, e2] at fl
      cases ee : tg_e F S (7 * (p / 8) + p % 8) 2 with
      | false => rw [ee] at fl; exact x_eq fl
      | true =>
        have := tg_e_F hC (by decide) ee
        rw [e1, e2] at this
        exact absurd e this
  rcases h with ⟨h1, h2⟩ | ⟨h1, h2⟩ | h1 | h1 <;> subst h1
  · exact side p hq h2 e
  · exact (side q hp h2 e.symm).symm
  · exact down p hq e
  · exact (down q hp e.symm).symm
theorem rp_64 {v w : Nat} (hv : v < 49) (hw : w < 4) : tg_rp v w < 64 ∧ tg_lp v w < 64 := by
  rcases w4 hw with q | q | q | q <;> subst q
  · show tg_q v + 9 < 64 ∧ tg_q v + 1 < 64; unfold tg_q; omega
  · show tg_q v + 8 < 64 ∧ tg_q v + 9 < 64; unfold tg_q; omega
  · show tg_q v + 0 < 64 ∧ tg_q v + 8 < 64; unfold tg_q; omega
  · show tg_q v + 1 < 64 ∧ tg_q v + 0 < 64; unfold tg_q; omega
/-- A SIMPLE REGION HAS ONE EDGE: each cycle of it is all of it -/
theorem tg_all (hF : tg_Fr F) (hs : tg_Smp F) (hC : tg_Cy F S) {v w : Nat} (hv : v < 49) (hw : w < 4) (h : tg_E F v w = true) : S v = true ∧ tg_t F v = w := by
  obtain ⟨_, hin, hout⟩ := hs
  have c1 := hin (tg_f (tg_e F S)) (fun p q hp hq ha h1 h2 => tg_same hF hC hp hq ha (by rw [h1, h2]))
  have c2 := hout (tg_f (tg_e F S)) (fun p q hp hq ha h1 h2 => tg_same hF hC hp hq ha (by
    have h1 : (!F p) = true := h1
    have h2 : (!F q) = true := h2
    rw [Bool.not_eq_true'] at h1 h2
    rw [h1, h2]))
  have f0 : tg_f (tg_e F S) 0 = false := by
    have hV : ∀ c, tg_V (tg_e F S) 0 c = false := fun c' => rfl
    have hg : ∀ k, tg_g (tg_e F S) 0 k = false := fun k => by
      induction k with
      | zero => rfl
      | succ k ih =>
        show (tg_g (tg_e F S) 0 k ^^ tg_V (tg_e F S) 0 (6 - k)) = false
        rw [ih, hV]; rfl
    exact hg 7
  have F0 : F 0 = false := hF 0 (Or.inl rfl)
  have out : ∀ p, p < 64 → F p = false → tg_f (tg_e F S) p = false := fun p hp e => by
    rw [← f0]
    exact c2 p 0 hp (by decide) (by show (!F p) = true; rw [e]; rfl) (by show (!F 0) = true; rw [F0]; rfl)
  obtain ⟨u, hu⟩ := hC.1
  obtain ⟨hu49, huw⟩ := hC.2.1 u hu
  have hk := tg_t_lt F u
  have hE := tg_t_E huw
  have ho : tg_e F S u (tg_t F u) = true := by
    unfold tg_e tg_o
    rw [hu, decide_eq_true rfl]; rfl
  obtain ⟨a, b⟩ := tg_Eand hE
  obtain ⟨l1, l2⟩ := rp_64 hu49 hk
  have inn : tg_f (tg_e F S) (tg_rp u (tg_t F u)) = true := by
    have := tg_flip hF hC hu49 hk
    rw [ho, out _ l2 b] at this
    simpa using this
  have inside : ∀ p, p < 64 → F p = true → tg_f (tg_e F S) p = true := fun p hp e => by
    rw [← inn]
    exact c1 p _ hp l1 e a
  obtain ⟨a', b'⟩ := tg_Eand h
  obtain ⟨l1', l2'⟩ := rp_64 hv hw
  have := tg_flip hF hC hv hw
  rw [inside _ l1' a', out _ l2' b'] at this
  have he : (tg_o F S v w || tg_i F S v w) = true := this.symm
  rw [tg_conf hC hw h, Bool.or_false] at he
  unfold tg_o at he
  rw [Bool.and_eq_true] at he
  exact ⟨he.1, of_decide_eq_true he.2⟩
/-- the walk round the edge -/
def tg_w (F : Nat → Bool) (v : Nat) : Nat → Nat
  | 0 => v
  | n + 1 => tg_T F (tg_w F v n)
theorem tg_w_ok (hF : tg_Fr F) {v : Nat} (hv : v < 49) (h : ∃ w, w < 4 ∧ tg_E F v w = true) : ∀ n, tg_w F v n < 49 ∧ ∃ w, w < 4 ∧ tg_E F (tg_w F v n) w = true
  | 0 => ⟨hv, h⟩
  | n + 1 => by
    obtain ⟨a, b⟩ := tg_w_ok hF hv h n
    have hE := tg_t_E b
    have hk := tg_t_lt F (tg_w F v n)
    exact ⟨tg_vd_lt a hk (tg_E_vd hF a hk hE), tg_on hF a hk hE⟩
/-- THE WORD of a simple region: from a vertex of the edge round it and back, over each step of the edge once -/
theorem tg_word (hF : tg_Fr F) (hs : tg_Smp F) {v : Nat} (hv : v < 49) (h : ∃ w, w < 4 ∧ tg_E F v w = true) : ∃ p, 1 ≤ p ∧ p ≤ 49 ∧ tg_w F v p = v ∧ (∀ i j, i < j → j < p → tg_w F v i ≠ tg_w F v j) ∧ (∀ x w, x < 49 → w < 4 → tg_E F x w = true → ∃ i, i < p ∧ tg_w F v i = x ∧ tg_t F x = w) := by
  have hw := tg_w_ok hF hv h
  obtain ⟨i0, j0, g1, g2, g3⟩ := tg_pig 49 (tg_w F v) (fun i _ => (hw i).1)
  obtain ⟨j, ⟨hj49, i, hij, eij⟩, hmin⟩ := tg_least (P := fun j => j ≤ 49 ∧ ∃ i, i < j ∧ tg_w F v i = tg_w F v j) ⟨j0, g2, i0, g1, g3⟩
  have hdis : ∀ a b, a < b → b < j → tg_w F v a ≠ tg_w F v b := fun a b h1 h2 h3 => hmin b h2 ⟨by omega, a, h1, h3⟩
  have hS : ∀ x, ((@decide (∃ k, i ≤ k ∧ k < j ∧ tg_w F v k = x) (Classical.propDecidable _)) = true) ↔ ∃ k, i ≤ k ∧ k < j ∧ tg_w F v k = x := fun x => by
    constructor
    · exact fun q => @of_decide_eq_true _ (Classical.propDecidable _) q
    · exact fun q => @decide_eq_true _ (Classical.propDecidable _) q
  have hC : tg_Cy F (fun x => @decide (∃ k, i ≤ k ∧ k < j ∧ tg_w F v k = x) (Classical.propDecidable _)) := by
    refine ⟨⟨_, (hS _).mpr ⟨i, Nat.le_refl _, hij, rfl⟩⟩, fun x hx => ?_, fun x hx => (hS _).mpr ?_, fun x hx => ?_, fun x y hx hy e => ?_⟩
    · obtain ⟨k, k1, k2, k3⟩ := (hS x).mp hx
      rw [← k3]
      exact hw k
    · obtain ⟨k, k1, k2, k3⟩ := (hS x).mp hx
      subst k3
      by_cases c : k + 1 < j
      · exact ⟨k + 1, by omega, c, rfl⟩
      · have : k + 1 = j := by omega
        refine ⟨i, Nat.le_refl _, hij, ?_⟩
        rw [eij, ← this]
        rfl
    · obtain ⟨k, k1, k2, k3⟩ := (hS x).mp hx
      subst k3
      by_cases c : i < k
      · refine ⟨tg_w F v (k - 1), (hS _).mpr ⟨k - 1, by omega, by omega, rfl⟩, ?_⟩
        show tg_w F v (k - 1 + 1) = _
        rw [show k - 1 + 1 = k by omega]
      · have : k = i := by omega
        subst this
        refine ⟨tg_w F v (j - 1), (hS _).mpr ⟨j - 1, by omega, by omega, rfl⟩, ?_⟩
        show tg_w F v (j - 1 + 1) = _
        rw [show j - 1 + 1 = j by omega, eij]
    · obtain ⟨k, k1, k2, k3⟩ := (hS x).mp hx
      obtain ⟨l, l1, l2, l3⟩ := (hS y).mp hy
      subst k3
      subst l3
      have e1 : tg_w F v (k + 1) = tg_w F v (l + 1) := e
      have wr : ∀ a b, i ≤ a → a < j → i ≤ b → b < j → tg_w F v (a + 1) = tg_w F v (b + 1) → ¬ a < b := fun a b a1 a2 b1 b2 e h => by
        by_cases c : b + 1 < j
        · exact hdis (a + 1) (b + 1) (by omega) c e
        · have q : b + 1 = j := by omega
          rw [q, ← eij] at e
          exact hdis i (a + 1) (by omega) (by omega) e.symm
      have n1 := wr k l k1 k2 l1 l2 e1
      have n2 := wr l k l1 l2 k1 k2 e1.symm
      rw [show k = l by omega]
  obtain ⟨w0, hw0, hE0⟩ := h
  obtain ⟨s0, t0⟩ := tg_all hF hs hC hv hw0 hE0
  obtain ⟨k, k1, k2, k3⟩ := (hS v).mp s0
  have hi0 : i = 0 := by
    by_cases c : k = 0
    · omega
    · exact absurd k3.symm (hdis 0 k (by omega) k2)
  subst hi0
  refine ⟨j, by omega, hj49, eij.symm, hdis, fun x w hx hw' hE => ?_⟩
  obtain ⟨s1, t1⟩ := tg_all hF hs hC hx hw' hE
  obtain ⟨m, m1, m2, m3⟩ := (hS x).mp s1
  exact ⟨m, m2, m3, t1⟩
end TG
