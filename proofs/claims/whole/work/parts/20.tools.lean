/-! loops with fuel, worked out -/
theorem FU_big : 3000000 < FU := by unfold FU; omega
theorem wh_inl {σ ρ : Type} {st : σ → Option (σ ⊕ ρ)} {n : Nat} {s s' : σ} (h : st s = some (Sum.inl s')) : wh st (n + 1) s = wh st n s' := by
  simp only [wh, h]
theorem wh_inr {σ ρ : Type} {st : σ → Option (σ ⊕ ρ)} {n : Nat} {s : σ} {r : ρ} (h : st s = some (Sum.inr r)) : wh st (n + 1) s = some r := by
  simp only [wh, h]
/-- states S 0, S 1, .., S m, one behind the other, the last one ends -/
theorem wh_seq {σ ρ : Type} {st : σ → Option (σ ⊕ ρ)} {S : Nat → σ} {r : ρ} {m : Nat} (hs : ∀ k, k < m → st (S k) = some (Sum.inl (S (k + 1)))) (he : st (S m) = some (Sum.inr r)) : ∀ (j n : Nat), j ≤ m → m - j < n → wh st n (S j) = some r := by
  intro j n
  induction n generalizing j with
  | zero => intro _ h; omega
  | succ n ih =>
    intro hj hn
    rcases Nat.lt_or_ge j m with h | h
    · rw [wh_inl (hs j h)]
      exact ih (j + 1) h (by omega)
    · have e : j = m := by omega
      subst e
      exact wh_inr he
theorem wh_for {σ ρ : Type} {st : σ → Option (σ ⊕ ρ)} (S : Nat → σ) {r : ρ} (m : Nat) (hs : ∀ k, k < m → st (S k) = some (Sum.inl (S (k + 1)))) (he : st (S m) = some (Sum.inr r)) (hm : m ≤ 3000000) : wh st FU (S 0) = some r := wh_seq hs he 0 FU (Nat.zero_le _) (by have := FU_big; omega)
/-- an invariant with a measure -/
theorem wh_tot {σ ρ : Type} {st : σ → Option (σ ⊕ ρ)} (I : Nat → σ → Prop) {B : ρ → Prop} (h : ∀ m s, I m s → (∃ r, st s = some (Sum.inr r) ∧ B r) ∨ (∃ m' s', m' < m ∧ st s = some (Sum.inl s') ∧ I m' s')) : ∀ (n m : Nat) (s : σ), m < n → I m s → ∃ r, wh st n s = some r ∧ B r := by
  intro n
  induction n with
  | zero => intro m s hm; omega
  | succ n ih =>
    intro m s hm hI
    rcases h m s hI with ⟨r, e, hb⟩ | ⟨m', s', hlt, e, hI'⟩
    · exact ⟨r, wh_inr e, hb⟩
    · rw [wh_inl e]
      exact ih m' s' (by omega) hI'
theorem gi_nI {k n : Nat} (h : k < n) (hn : n < 2 ^ 31) : gi (nI k) n = true := by
  unfold gi
  rw [nI_toInt (by omega)]
  exact decide_eq_true (by omega)
theorem gi_iZ {z : Int} {n : Nat} (h0 : 0 ≤ z) (h : z < n) (hs : sm z) : gi (iZ z) n = true := by
  unfold gi
  rw [iZ_toInt hs]
  exact decide_eq_true ⟨h0, h⟩
/-- the mates of none -/
def clK (s : Nat → Int32) (k : Nat) : Nat → Int32 := fun j => if j = 0 then 0 else if 6 ≤ j ∧ j < 6 + k then -5 else s j
theorem clK_0 (s : Nat → Int32) : upd s (0 : Int32).toNatClampNeg 0 = clK s 0 := by
  funext j
  have e : (0 : Int32).toNatClampNeg = 0 := by decide
  have : ¬ (6 ≤ j ∧ j < 6 + 0) := by omega
  simp [upd, clK, e, this]
theorem clK_s (s : Nat → Int32) (k : Nat) (h : k < 36) : upd (clK s k) (6 + nI k).toNatClampNeg (-5) = clK s (k + 1) := by
  have e : (6 + nI k).toNatClampNeg = 6 + k := by
    have : (6 : Int32) + nI k = nI (6 + k) := nI_add 6 k
    rw [this, nI_clamp (by omega)]
  rw [e]
  funext j
  simp only [upd, clK]
  by_cases q : j = 6 + k
  · subst q
    have : ¬ 6 + k = 0 := by omega
    simp [this]
  · by_cases q0 : j = 0
    · subst q0
      have : ¬ 0 = 6 + k := by omega
      simp [this]
    · have e2 : (6 ≤ j ∧ j < 6 + (k + 1)) ↔ (6 ≤ j ∧ j < 6 + k) := by omega
      simp [q, q0, e2]
theorem M_clears_eq (ms : Nat → Int32) : M_clears ms = some (clK ms 36) := by
  unfold M_clears
  rw [grd_t (by decide), clK_0]
  have h := wh_for (st := M_clears_s9) (r := clK ms 36) (fun k => (nI k, clK ms k)) 36 (fun k hk => by
      unfold M_clears_s9
      dsimp only
      rw [if_neg (show ¬ (36 : Int32) ≤ nI k from nI_ge (a := k) (b := 36) hk (by decide))]
      rw [grd_t (by rw [show (6 : Int32) + nI k = nI (6 + k) from nI_add 6 k]; exact gi_nI (by omega) (by decide))]
      show some (Sum.inl (nI k + 1, upd (clK ms k) (6 + nI k).toNatClampNeg (-5))) = _
      rw [clK_s ms k hk, nI_1]) (by
      unfold M_clears_s9
      dsimp only
      rw [if_pos (by decide)]) (by decide)
  show Option.bind (wh (M_clears_s9) FU (nI 0, clK ms 0)) (fun w1 => some w1) = _
  rw [h]
  rfl
