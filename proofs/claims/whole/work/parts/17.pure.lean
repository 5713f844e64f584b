/-! methods without a heap -/
theorem bT {c A B : Prop} (h : c) (a : A) : (c → A) ∧ (¬ c → B) := ⟨fun _ => a, fun n => absurd h n⟩
theorem bF {c A B : Prop} (h : ¬ c) (b : B) : (c → A) ∧ (¬ c → B) := ⟨fun n => absurd n h, fun _ => b⟩
theorem bNT {c A B : Prop} (h : ¬ c) (a : A) : (¬ c → A) ∧ (c → B) := ⟨fun _ => a, fun n => absurd n h⟩
theorem bNF {c A B : Prop} (h : c) (b : B) : (¬ c → A) ∧ (c → B) := ⟨fun n => absurd h n, fun _ => b⟩
section PURE
variable {sc : sxS} {d : Nat} {Q : sxR} {hp : sxH}
theorem x_isCell {x : Int32} (h1 : ¬ x < 0 → ¬ 36 ≤ x → Q (some (.int 1)) hp) (h0 : (x < 0 ∨ 36 ≤ x) → Q (some (.int 0)) hp) : sxE sc (d + 1) 2 [.int x] hp Q := by
  refine ent rfl ?_
  refine stp 2 (And.intro (fun c1 => ?_) (fun c1 => ?_))
  · have c1 : x < 0 := c1
    refine stp 2 (And.intro (Or.inl rfl) ?_)
    show Q (some (.int 0)) hp
    exact h0 (Or.inl c1)
  · have c1 : ¬ x < 0 := c1
    refine stp 3 (And.intro (fun c2 => ?_) (fun c2 => ?_))
    · have c2 : 36 ≤ x := c2
      refine stp 2 (And.intro (Or.inl rfl) ?_)
      show Q (some (.int 0)) hp
      exact h0 (Or.inr c2)
    · have c2 : ¬ 36 ≤ x := c2
      refine stp 3 (And.intro (Or.inr rfl) ?_)
      show Q (some (.int 1)) hp
      exact h1 c1 c2
theorem x_isVertex {x : Int32} (h1 : ¬ x < 0 → ¬ 49 ≤ x → Q (some (.int 1)) hp) (h0 : (x < 0 ∨ 49 ≤ x) → Q (some (.int 0)) hp) : sxE sc (d + 1) 3 [.int x] hp Q := by
  refine ent rfl ?_
  refine stp 2 (And.intro (fun c1 => ?_) (fun c1 => ?_))
  · have c1 : x < 0 := c1
    refine stp 2 (And.intro (Or.inl rfl) ?_)
    show Q (some (.int 0)) hp
    exact h0 (Or.inl c1)
  · have c1 : ¬ x < 0 := c1
    refine stp 3 (And.intro (fun c2 => ?_) (fun c2 => ?_))
    · have c2 : 49 ≤ x := c2
      refine stp 2 (And.intro (Or.inl rfl) ?_)
      show Q (some (.int 0)) hp
      exact h0 (Or.inr c2)
    · have c2 : ¬ 49 ≤ x := c2
      refine stp 3 (And.intro (Or.inr rfl) ?_)
      show Q (some (.int 1)) hp
      exact h1 c1 c2
theorem x_isTape {x : Int32} (h1 : ¬ x < 0 → ¬ 6 ≤ x → Q (some (.int 1)) hp) (h0 : (x < 0 ∨ 6 ≤ x) → Q (some (.int 0)) hp) : sxE sc (d + 1) 135 [.int x] hp Q := by
  refine ent rfl ?_
  refine stp 2 (And.intro (fun c1 => ?_) (fun c1 => ?_))
  · have c1 : x < 0 := c1
    refine stp 2 (And.intro (Or.inl rfl) ?_)
    show Q (some (.int 0)) hp
    exact h0 (Or.inl c1)
  · have c1 : ¬ x < 0 := c1
    refine stp 3 (And.intro (fun c2 => ?_) (fun c2 => ?_))
    · have c2 : 6 ≤ x := c2
      refine stp 2 (And.intro (Or.inl rfl) ?_)
      show Q (some (.int 0)) hp
      exact h0 (Or.inr c2)
    · have c2 : ¬ 6 ≤ x := c2
      refine stp 3 (And.intro (Or.inr rfl) ?_)
      show Q (some (.int 1)) hp
      exact h1 c1 c2
end PURE
