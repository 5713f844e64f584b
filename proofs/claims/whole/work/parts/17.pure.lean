/-! methods without a heap -/
theorem bT {c A B : Prop} (h : c) (a : A) : (c → A) ∧ (¬ c → B) := ⟨fun _ => a, fun n => absurd h n⟩
theorem bF {c A B : Prop} (h : ¬ c) (b : B) : (c → A) ∧ (¬ c → B) := ⟨fun n => absurd n h, fun _ => b⟩
theorem bNT {c A B : Prop} (h : ¬ c) (a : A) : (¬ c → A) ∧ (c → B) := ⟨fun _ => a, fun n => absurd n h⟩
theorem bNF {c A B : Prop} (h : c) (b : B) : (¬ c → A) ∧ (c → B) := ⟨fun n => absurd h n, fun _ => b⟩
theorem qe {Q : sxR} {hp : sxH} {a b : Int32} (h : Q (some (.int a)) hp) (e : b = a) : Q (some (.int b)) hp := by rw [e]; exact h
/-! the ground in numbers: vertices v (0 .. 48), ways w (0 r, 1 d, 2 l, 3 u), cells (-1: beyond) -/
def cellN (r c : Int) : Int := if 0 ≤ r ∧ r < 6 ∧ 0 ≤ c ∧ c < 6 then 6 * r + c else -1
def drN (w : Nat) : Int := if w = 1 then 1 else if w = 3 then -1 else 0
def dcN (w : Nat) : Int := if w = 0 then 1 else if w = 2 then -1 else 0
def vtxN (r c : Int) : Int := if 0 ≤ r ∧ r < 7 ∧ 0 ≤ c ∧ c < 7 then 7 * r + c else -1
def nxN (v w : Nat) : Int := vtxN (v / 7 + drN w) (v % 7 + dcN w)
def lrN (v w : Nat) : Int := v / 7 - (if w = 0 ∨ w = 3 then 1 else 0)
def lcN (v w : Nat) : Int := v % 7 - (if w = 2 ∨ w = 3 then 1 else 0)
def rrN (v w : Nat) : Int := v / 7 - (if w = 2 ∨ w = 3 then 1 else 0)
def rcN (v w : Nat) : Int := v % 7 - (if w = 1 ∨ w = 2 then 1 else 0)
/-- the cell on the left, on the right of a step -/
def leN (v w : Nat) : Int := cellN (lrN v w) (lcN v w)
def riN (v w : Nat) : Int := cellN (rrN v w) (rcN v w)
/-- its height -/
def hsN (v w : Nat) : Int := if (lrN v w + lcN v w) % 2 = 0 then 1 else -1
/-- whether a cell (or what is beyond) is in a region -/
def hz (w : Int64) (z : Int) : Bool := decide (0 ≤ z) && b6 w z.toNat
section PURE
variable {sc : sxS} {d : Nat} {Q : sxR} {hp : sxH} {call : sxX}
set_option maxRecDepth 4000 in
theorem x_isCell {x : Int32} (hc : call = sxE sc (d + 1)) (h1 : ¬ x < 0 → ¬ 36 ≤ x → Q (some (.int 1)) hp) (h0 : (x < 0 ∨ 36 ≤ x) → Q (some (.int 0)) hp) : call 2 [.int x] hp Q := by
  refine ent hc rfl (fun cl hE hm => ?_)
  refine stp hm 2 (And.intro (fun c1 => ?_) (fun c1 => ?_))
  · have c1 : x < 0 := c1
    refine stp hm 2 (And.intro (Or.inl rfl) ?_)
    show Q (some (.int 0)) hp
    exact h0 (Or.inl c1)
  · have c1 : ¬ x < 0 := c1
    refine stp hm 3 (And.intro (fun c2 => ?_) (fun c2 => ?_))
    · have c2 : 36 ≤ x := c2
      refine stp hm 2 (And.intro (Or.inl rfl) ?_)
      show Q (some (.int 0)) hp
      exact h0 (Or.inr c2)
    · have c2 : ¬ 36 ≤ x := c2
      refine stp hm 3 (And.intro (Or.inr rfl) ?_)
      show Q (some (.int 1)) hp
      exact h1 c1 c2
set_option maxRecDepth 4000 in
theorem x_isVertex {x : Int32} (hc : call = sxE sc (d + 1)) (h1 : ¬ x < 0 → ¬ 49 ≤ x → Q (some (.int 1)) hp) (h0 : (x < 0 ∨ 49 ≤ x) → Q (some (.int 0)) hp) : call 3 [.int x] hp Q := by
  refine ent hc rfl (fun cl hE hm => ?_)
  refine stp hm 2 (And.intro (fun c1 => ?_) (fun c1 => ?_))
  · have c1 : x < 0 := c1
    refine stp hm 2 (And.intro (Or.inl rfl) ?_)
    show Q (some (.int 0)) hp
    exact h0 (Or.inl c1)
  · have c1 : ¬ x < 0 := c1
    refine stp hm 3 (And.intro (fun c2 => ?_) (fun c2 => ?_))
    · have c2 : 49 ≤ x := c2
      refine stp hm 2 (And.intro (Or.inl rfl) ?_)
      show Q (some (.int 0)) hp
      exact h0 (Or.inr c2)
    · have c2 : ¬ 49 ≤ x := c2
      refine stp hm 3 (And.intro (Or.inr rfl) ?_)
      show Q (some (.int 1)) hp
      exact h1 c1 c2
set_option maxRecDepth 4000 in
theorem x_isTape {x : Int32} (hc : call = sxE sc (d + 1)) (h1 : ¬ x < 0 → ¬ 6 ≤ x → Q (some (.int 1)) hp) (h0 : (x < 0 ∨ 6 ≤ x) → Q (some (.int 0)) hp) : call 135 [.int x] hp Q := by
  refine ent hc rfl (fun cl hE hm => ?_)
  refine stp hm 2 (And.intro (fun c1 => ?_) (fun c1 => ?_))
  · have c1 : x < 0 := c1
    refine stp hm 2 (And.intro (Or.inl rfl) ?_)
    show Q (some (.int 0)) hp
    exact h0 (Or.inl c1)
  · have c1 : ¬ x < 0 := c1
    refine stp hm 3 (And.intro (fun c2 => ?_) (fun c2 => ?_))
    · have c2 : 6 ≤ x := c2
      refine stp hm 2 (And.intro (Or.inl rfl) ?_)
      show Q (some (.int 0)) hp
      exact h0 (Or.inr c2)
    · have c2 : ¬ 6 ≤ x := c2
      refine stp hm 3 (And.intro (Or.inr rfl) ?_)
      show Q (some (.int 1)) hp
      exact h1 c1 c2
set_option maxRecDepth 4000 in
theorem x_isKind {x : Int32} (hc : call = sxE sc (d + 1)) (h1 : ¬ x < 0 → ¬ 2 < x → Q (some (.int 1)) hp) (h0 : (x < 0 ∨ 2 < x) → Q (some (.int 0)) hp) : call 72 [.int x] hp Q := by
  refine ent hc rfl (fun cl hE hm => ?_)
  refine stp hm 2 (And.intro (fun c1 => ?_) (fun c1 => ?_))
  · have c1 : x < 0 := c1
    refine stp hm 2 (And.intro (Or.inl rfl) ?_)
    show Q (some (.int 0)) hp
    exact h0 (Or.inl c1)
  · have c1 : ¬ x < 0 := c1
    refine stp hm 3 (And.intro (fun c2 => ?_) (fun c2 => ?_))
    · have c2 : 2 < x := c2
      refine stp hm 2 (And.intro (Or.inl rfl) ?_)
      show Q (some (.int 0)) hp
      exact h0 (Or.inr c2)
    · have c2 : ¬ 2 < x := c2
      refine stp hm 3 (And.intro (Or.inr rfl) ?_)
      show Q (some (.int 1)) hp
      exact h1 c1 c2
set_option maxRecDepth 4000 in
theorem x_isIn {x lo hi : Int32} (hc : call = sxE sc (d + 1)) (h1 : ¬ x < lo → ¬ hi < x → Q (some (.int 1)) hp) (h0 : (x < lo ∨ hi < x) → Q (some (.int 0)) hp) : call 139 [.int x, .int lo, .int hi] hp Q := by
  refine ent hc rfl (fun cl hE hm => ?_)
  refine stp hm 3 (And.intro (fun c1 => ?_) (fun c1 => ?_))
  · have c1 : x < lo := c1
    refine stp hm 2 (And.intro (Or.inl rfl) ?_)
    show Q (some (.int 0)) hp
    exact h0 (Or.inl c1)
  · have c1 : ¬ x < lo := c1
    refine stp hm 3 (And.intro (fun c2 => ?_) (fun c2 => ?_))
    · have c2 : hi < x := c2
      refine stp hm 2 (And.intro (Or.inl rfl) ?_)
      show Q (some (.int 0)) hp
      exact h0 (Or.inr c2)
    · have c2 : ¬ hi < x := c2
      refine stp hm 3 (And.intro (Or.inr rfl) ?_)
      show Q (some (.int 1)) hp
      exact h1 c1 c2
set_option maxRecDepth 4000 in
theorem x_isBit {x : Int32} (hc : call = sxE sc (d + 1)) (h1 : (x = 0 ∨ x = 1) → Q (some (.int 1)) hp) (h0 : ¬ x = 0 → ¬ x = 1 → Q (some (.int 0)) hp) : call 136 [.int x] hp Q := by
  refine ent hc rfl (fun cl hE hm => ?_)
  refine stp hm 2 (And.intro (fun c1 => ?_) (fun c1 => ?_))
  · have c1 : x = 0 := c1
    refine stp hm 3 (And.intro (Or.inr rfl) ?_)
    show Q (some (.int 1)) hp
    exact h1 (Or.inl c1)
  · have c1 : ¬ x = 0 := c1
    refine stp hm 3 (And.intro (fun c2 => ?_) (fun c2 => ?_))
    · have c2 : ¬ x = 1 := c2
      refine stp hm 2 (And.intro (Or.inl rfl) ?_)
      show Q (some (.int 0)) hp
      exact h0 c1 c2
    · have c2 : x = 1 := c2
      refine stp hm 3 (And.intro (Or.inr rfl) ?_)
      show Q (some (.int 1)) hp
      exact h1 (Or.inr c2)
set_option maxRecDepth 4000 in
theorem x_bit0 (hc : call = sxE sc (d + 1)) (h : Q (some (.int 0)) hp) : call 137 [.int 0] hp Q := by
  refine ent hc rfl (fun cl hE hm => ?_)
  refine stp hm 2 (bT (by decide) ?_)
  refine stp hm 2 ?_
  show Q (some (.int 0)) hp
  exact h
set_option maxRecDepth 4000 in
theorem x_bit1 (hc : call = sxE sc (d + 1)) (h : Q (some (.int 1)) hp) : call 137 [.int 1] hp Q := by
  refine ent hc rfl (fun cl hE hm => ?_)
  refine stp hm 2 (bF (by decide) ?_)
  refine stp hm 3 ?_
  show Q (some (.int 1)) hp
  exact h
set_option maxRecDepth 4000 in
theorem x_forms {x : Int32} (hc : call = sxE sc (d + 1)) (h4 : x = 2 → Q (some (.int 4)) hp) (h2 : ¬ x = 2 → Q (some (.int 2)) hp) : call 73 [.int x] hp Q := by
  refine ent hc rfl (fun cl hE hm => ?_)
  refine stp hm 3 (And.intro (fun c1 => ?_) (fun c1 => ?_))
  · have c1 : ¬ x = 2 := c1
    refine stp hm 2 ?_
    show Q (some (.int 2)) hp
    exact h2 c1
  · have c1 : x = 2 := c1
    refine stp hm 3 ?_
    show Q (some (.int 4)) hp
    exact h4 c1
set_option maxRecDepth 4000 in
theorem m_forms {x : Int32} (hc : call = sxE sc (d + 1)) (h4 : x = 2 → Q (some (.int 4)) hp) (h2 : ¬ x = 2 → Q (some (.int 2)) hp) : call 208 [.int x] hp Q := by
  refine ent hc rfl (fun cl hE hm => ?_)
  refine stp hm 3 (And.intro (fun c1 => ?_) (fun c1 => ?_))
  · have c1 : ¬ x = 2 := c1
    refine stp hm 2 ?_
    show Q (some (.int 2)) hp
    exact h2 c1
  · have c1 : x = 2 := c1
    refine stp hm 3 ?_
    show Q (some (.int 4)) hp
    exact h4 c1
def cellAtI (r c : Int32) : Int32 := if ¬ r < 0 ∧ ¬ 6 ≤ r ∧ ¬ c < 0 ∧ ¬ 6 ≤ c then r * 6 + c else -1
set_option maxRecDepth 4000 in
theorem x_cellAt {r c : Int32} (hc : call = sxE sc (d + 1)) (h : Q (some (.int (cellAtI r c))) hp) : call 4 [.int r, .int c] hp Q := by
  refine ent hc rfl (fun cl hE hm => ?_)
  refine stp hm 2 (And.intro (fun c1 => ?_) (fun c1 => ?_))
  · have c1 : r < 0 := c1
    refine stp hm 4 (bT (by decide) ?_)
    refine stp hm 2 ?_
    show Q (some (.int (-1))) hp
    exact qe h (if_neg (fun q => q.1 c1)).symm
  · have c1 : ¬ r < 0 := c1
    refine stp hm 3 (And.intro (fun c2 => ?_) (fun c2 => ?_))
    · have c2 : 6 ≤ r := c2
      refine stp hm 4 (bT (by decide) ?_)
      refine stp hm 2 ?_
      show Q (some (.int (-1))) hp
      exact qe h (if_neg (fun q => q.2.1 c2)).symm
    · have c2 : ¬ 6 ≤ r := c2
      refine stp hm 2 (And.intro (fun c3 => ?_) (fun c3 => ?_))
      · have c3 : c < 0 := c3
        refine stp hm 4 (bT (by decide) ?_)
        refine stp hm 2 ?_
        show Q (some (.int (-1))) hp
        exact qe h (if_neg (fun q => q.2.2.1 c3)).symm
      · have c3 : ¬ c < 0 := c3
        refine stp hm 3 (And.intro (fun c4 => ?_) (fun c4 => ?_))
        · have c4 : 6 ≤ c := c4
          refine stp hm 4 (bT (by decide) ?_)
          refine stp hm 2 ?_
          show Q (some (.int (-1))) hp
          exact qe h (if_neg (fun q => q.2.2.2 c4)).symm
        · have c4 : ¬ 6 ≤ c := c4
          refine stp hm 5 (bF (by decide) ?_)
          refine stp hm 7 ?_
          show Q (some (.int ((r * 6) + c))) hp
          exact qe h (if_pos ⟨c1, c2, c3, c4⟩).symm
def vertexAtI (r c : Int32) : Int32 := if ¬ r < 0 ∧ ¬ 7 ≤ r ∧ ¬ c < 0 ∧ ¬ 7 ≤ c then r * 7 + c else -1
set_option maxRecDepth 4000 in
theorem x_vertexAt {r c : Int32} (hc : call = sxE sc (d + 1)) (h : Q (some (.int (vertexAtI r c))) hp) : call 5 [.int r, .int c] hp Q := by
  refine ent hc rfl (fun cl hE hm => ?_)
  refine stp hm 2 (And.intro (fun c1 => ?_) (fun c1 => ?_))
  · have c1 : r < 0 := c1
    refine stp hm 4 (bT (by decide) ?_)
    refine stp hm 2 ?_
    show Q (some (.int (-1))) hp
    exact qe h (if_neg (fun q => q.1 c1)).symm
  · have c1 : ¬ r < 0 := c1
    refine stp hm 3 (And.intro (fun c2 => ?_) (fun c2 => ?_))
    · have c2 : 7 ≤ r := c2
      refine stp hm 4 (bT (by decide) ?_)
      refine stp hm 2 ?_
      show Q (some (.int (-1))) hp
      exact qe h (if_neg (fun q => q.2.1 c2)).symm
    · have c2 : ¬ 7 ≤ r := c2
      refine stp hm 2 (And.intro (fun c3 => ?_) (fun c3 => ?_))
      · have c3 : c < 0 := c3
        refine stp hm 4 (bT (by decide) ?_)
        refine stp hm 2 ?_
        show Q (some (.int (-1))) hp
        exact qe h (if_neg (fun q => q.2.2.1 c3)).symm
      · have c3 : ¬ c < 0 := c3
        refine stp hm 3 (And.intro (fun c4 => ?_) (fun c4 => ?_))
        · have c4 : 7 ≤ c := c4
          refine stp hm 4 (bT (by decide) ?_)
          refine stp hm 2 ?_
          show Q (some (.int (-1))) hp
          exact qe h (if_neg (fun q => q.2.2.2 c4)).symm
        · have c4 : ¬ 7 ≤ c := c4
          refine stp hm 5 (bF (by decide) ?_)
          refine stp hm 7 ?_
          show Q (some (.int ((r * 7) + c))) hp
          exact qe h (if_pos ⟨c1, c2, c3, c4⟩).symm
set_option maxRecDepth 4000 in
theorem m_leftRow {v w : Nat} (hc : call = sxE sc (d + 1)) (hv : v < 49) (hw : w < 4) (h : Q (some (.int (iZ (lrN v w)))) hp) : call 158 [.int (nI v), .int (nI w)] hp Q := by
  match w, hw, h with
  | 0, hw, h =>
    show call 158 [.int (nI v), .int 0] hp Q
    refine ent hc rfl (fun cl hE hm => ?_)
    refine stp hm 3 (And.intro (by decide) (?_ : sxWP sc cl Q 158 (4, [some (.int (nI v)), some (.int 0)], [.int ((nI v) / 7)], hp, 0, 0)))
    refine stp hm 2 (bT (by decide) ?_)
    refine stp hm 4 ?_
    show Q (some (.int (((nI v) / 7) - 1))) hp
    exact qe h ((by decide +kernel : ∀ v, v < 49 → (((nI v) / 7) - 1) = iZ (lrN v 0)) v hv )
  | 1, hw, h =>
    show call 158 [.int (nI v), .int 1] hp Q
    refine ent hc rfl (fun cl hE hm => ?_)
    refine stp hm 3 (And.intro (by decide) (?_ : sxWP sc cl Q 158 (4, [some (.int (nI v)), some (.int 1)], [.int ((nI v) / 7)], hp, 0, 0)))
    refine stp hm 2 (bF (by decide) ?_)
    refine stp hm 3 (bNT (by decide) ?_)
    refine stp hm 3 ?_
    show Q (some (.int (((nI v) / 7) - 0))) hp
    exact qe h ((by decide +kernel : ∀ v, v < 49 → (((nI v) / 7) - 0) = iZ (lrN v 1)) v hv )
  | 2, hw, h =>
    show call 158 [.int (nI v), .int 2] hp Q
    refine ent hc rfl (fun cl hE hm => ?_)
    refine stp hm 3 (And.intro (by decide) (?_ : sxWP sc cl Q 158 (4, [some (.int (nI v)), some (.int 2)], [.int ((nI v) / 7)], hp, 0, 0)))
    refine stp hm 2 (bF (by decide) ?_)
    refine stp hm 3 (bNT (by decide) ?_)
    refine stp hm 3 ?_
    show Q (some (.int (((nI v) / 7) - 0))) hp
    exact qe h ((by decide +kernel : ∀ v, v < 49 → (((nI v) / 7) - 0) = iZ (lrN v 2)) v hv )
  | 3, hw, h =>
    show call 158 [.int (nI v), .int 3] hp Q
    refine ent hc rfl (fun cl hE hm => ?_)
    refine stp hm 3 (And.intro (by decide) (?_ : sxWP sc cl Q 158 (4, [some (.int (nI v)), some (.int 3)], [.int ((nI v) / 7)], hp, 0, 0)))
    refine stp hm 2 (bF (by decide) ?_)
    refine stp hm 3 (bNF (by decide) ?_)
    refine stp hm 4 ?_
    show Q (some (.int (((nI v) / 7) - 1))) hp
    exact qe h ((by decide +kernel : ∀ v, v < 49 → (((nI v) / 7) - 1) = iZ (lrN v 3)) v hv )
set_option maxRecDepth 4000 in
theorem m_leftColumn {v w : Nat} (hc : call = sxE sc (d + 1)) (hv : v < 49) (hw : w < 4) (h : Q (some (.int (iZ (lcN v w)))) hp) : call 159 [.int (nI v), .int (nI w)] hp Q := by
  match w, hw, h with
  | 0, hw, h =>
    show call 159 [.int (nI v), .int 0] hp Q
    refine ent hc rfl (fun cl hE hm => ?_)
    refine stp hm 3 (And.intro (by decide) (?_ : sxWP sc cl Q 159 (4, [some (.int (nI v)), some (.int 0)], [.int ((nI v) - (nI v) / 7 * 7)], hp, 0, 0)))
    refine stp hm 3 (bF (by decide) ?_)
    refine stp hm 3 (bNT (by decide) ?_)
    refine stp hm 3 ?_
    show Q (some (.int (((nI v) - (nI v) / 7 * 7) - 0))) hp
    exact qe h ((by decide +kernel : ∀ v, v < 49 → (((nI v) - (nI v) / 7 * 7) - 0) = iZ (lcN v 0)) v hv )
  | 1, hw, h =>
    show call 159 [.int (nI v), .int 1] hp Q
    refine ent hc rfl (fun cl hE hm => ?_)
    refine stp hm 3 (And.intro (by decide) (?_ : sxWP sc cl Q 159 (4, [some (.int (nI v)), some (.int 1)], [.int ((nI v) - (nI v) / 7 * 7)], hp, 0, 0)))
    refine stp hm 3 (bF (by decide) ?_)
    refine stp hm 3 (bNT (by decide) ?_)
    refine stp hm 3 ?_
    show Q (some (.int (((nI v) - (nI v) / 7 * 7) - 0))) hp
    exact qe h ((by decide +kernel : ∀ v, v < 49 → (((nI v) - (nI v) / 7 * 7) - 0) = iZ (lcN v 1)) v hv )
  | 2, hw, h =>
    show call 159 [.int (nI v), .int 2] hp Q
    refine ent hc rfl (fun cl hE hm => ?_)
    refine stp hm 3 (And.intro (by decide) (?_ : sxWP sc cl Q 159 (4, [some (.int (nI v)), some (.int 2)], [.int ((nI v) - (nI v) / 7 * 7)], hp, 0, 0)))
    refine stp hm 3 (bT (by decide) ?_)
    refine stp hm 4 ?_
    show Q (some (.int (((nI v) - (nI v) / 7 * 7) - 1))) hp
    exact qe h ((by decide +kernel : ∀ v, v < 49 → (((nI v) - (nI v) / 7 * 7) - 1) = iZ (lcN v 2)) v hv )
  | 3, hw, h =>
    show call 159 [.int (nI v), .int 3] hp Q
    refine ent hc rfl (fun cl hE hm => ?_)
    refine stp hm 3 (And.intro (by decide) (?_ : sxWP sc cl Q 159 (4, [some (.int (nI v)), some (.int 3)], [.int ((nI v) - (nI v) / 7 * 7)], hp, 0, 0)))
    refine stp hm 3 (bF (by decide) ?_)
    refine stp hm 3 (bNF (by decide) ?_)
    refine stp hm 4 ?_
    show Q (some (.int (((nI v) - (nI v) / 7 * 7) - 1))) hp
    exact qe h ((by decide +kernel : ∀ v, v < 49 → (((nI v) - (nI v) / 7 * 7) - 1) = iZ (lcN v 3)) v hv )
set_option maxRecDepth 4000 in
theorem m_rightRow {v w : Nat} (hc : call = sxE sc (d + 1)) (hv : v < 49) (hw : w < 4) (h : Q (some (.int (iZ (rrN v w)))) hp) : call 160 [.int (nI v), .int (nI w)] hp Q := by
  match w, hw, h with
  | 0, hw, h =>
    show call 160 [.int (nI v), .int 0] hp Q
    refine ent hc rfl (fun cl hE hm => ?_)
    refine stp hm 3 (And.intro (by decide) (?_ : sxWP sc cl Q 160 (4, [some (.int (nI v)), some (.int 0)], [.int ((nI v) / 7)], hp, 0, 0)))
    refine stp hm 3 (bF (by decide) ?_)
    refine stp hm 3 (bNT (by decide) ?_)
    refine stp hm 3 ?_
    show Q (some (.int (((nI v) / 7) - 0))) hp
    exact qe h ((by decide +kernel : ∀ v, v < 49 → (((nI v) / 7) - 0) = iZ (rrN v 0)) v hv )
  | 1, hw, h =>
    show call 160 [.int (nI v), .int 1] hp Q
    refine ent hc rfl (fun cl hE hm => ?_)
    refine stp hm 3 (And.intro (by decide) (?_ : sxWP sc cl Q 160 (4, [some (.int (nI v)), some (.int 1)], [.int ((nI v) / 7)], hp, 0, 0)))
    refine stp hm 3 (bF (by decide) ?_)
    refine stp hm 3 (bNT (by decide) ?_)
    refine stp hm 3 ?_
    show Q (some (.int (((nI v) / 7) - 0))) hp
    exact qe h ((by decide +kernel : ∀ v, v < 49 → (((nI v) / 7) - 0) = iZ (rrN v 1)) v hv )
  | 2, hw, h =>
    show call 160 [.int (nI v), .int 2] hp Q
    refine ent hc rfl (fun cl hE hm => ?_)
    refine stp hm 3 (And.intro (by decide) (?_ : sxWP sc cl Q 160 (4, [some (.int (nI v)), some (.int 2)], [.int ((nI v) / 7)], hp, 0, 0)))
    refine stp hm 3 (bT (by decide) ?_)
    refine stp hm 4 ?_
    show Q (some (.int (((nI v) / 7) - 1))) hp
    exact qe h ((by decide +kernel : ∀ v, v < 49 → (((nI v) / 7) - 1) = iZ (rrN v 2)) v hv )
  | 3, hw, h =>
    show call 160 [.int (nI v), .int 3] hp Q
    refine ent hc rfl (fun cl hE hm => ?_)
    refine stp hm 3 (And.intro (by decide) (?_ : sxWP sc cl Q 160 (4, [some (.int (nI v)), some (.int 3)], [.int ((nI v) / 7)], hp, 0, 0)))
    refine stp hm 3 (bF (by decide) ?_)
    refine stp hm 3 (bNF (by decide) ?_)
    refine stp hm 4 ?_
    show Q (some (.int (((nI v) / 7) - 1))) hp
    exact qe h ((by decide +kernel : ∀ v, v < 49 → (((nI v) / 7) - 1) = iZ (rrN v 3)) v hv )
set_option maxRecDepth 4000 in
theorem m_rightColumn {v w : Nat} (hc : call = sxE sc (d + 1)) (hv : v < 49) (hw : w < 4) (h : Q (some (.int (iZ (rcN v w)))) hp) : call 161 [.int (nI v), .int (nI w)] hp Q := by
  match w, hw, h with
  | 0, hw, h =>
    show call 161 [.int (nI v), .int 0] hp Q
    refine ent hc rfl (fun cl hE hm => ?_)
    refine stp hm 3 (And.intro (by decide) (?_ : sxWP sc cl Q 161 (4, [some (.int (nI v)), some (.int 0)], [.int ((nI v) - (nI v) / 7 * 7)], hp, 0, 0)))
    refine stp hm 3 (bF (by decide) ?_)
    refine stp hm 3 (bNT (by decide) ?_)
    refine stp hm 3 ?_
    show Q (some (.int (((nI v) - (nI v) / 7 * 7) - 0))) hp
    exact qe h ((by decide +kernel : ∀ v, v < 49 → (((nI v) - (nI v) / 7 * 7) - 0) = iZ (rcN v 0)) v hv )
  | 1, hw, h =>
    show call 161 [.int (nI v), .int 1] hp Q
    refine ent hc rfl (fun cl hE hm => ?_)
    refine stp hm 3 (And.intro (by decide) (?_ : sxWP sc cl Q 161 (4, [some (.int (nI v)), some (.int 1)], [.int ((nI v) - (nI v) / 7 * 7)], hp, 0, 0)))
    refine stp hm 3 (bT (by decide) ?_)
    refine stp hm 4 ?_
    show Q (some (.int (((nI v) - (nI v) / 7 * 7) - 1))) hp
    exact qe h ((by decide +kernel : ∀ v, v < 49 → (((nI v) - (nI v) / 7 * 7) - 1) = iZ (rcN v 1)) v hv )
  | 2, hw, h =>
    show call 161 [.int (nI v), .int 2] hp Q
    refine ent hc rfl (fun cl hE hm => ?_)
    refine stp hm 3 (And.intro (by decide) (?_ : sxWP sc cl Q 161 (4, [some (.int (nI v)), some (.int 2)], [.int ((nI v) - (nI v) / 7 * 7)], hp, 0, 0)))
    refine stp hm 3 (bF (by decide) ?_)
    refine stp hm 3 (bNF (by decide) ?_)
    refine stp hm 4 ?_
    show Q (some (.int (((nI v) - (nI v) / 7 * 7) - 1))) hp
    exact qe h ((by decide +kernel : ∀ v, v < 49 → (((nI v) - (nI v) / 7 * 7) - 1) = iZ (rcN v 2)) v hv )
  | 3, hw, h =>
    show call 161 [.int (nI v), .int 3] hp Q
    refine ent hc rfl (fun cl hE hm => ?_)
    refine stp hm 3 (And.intro (by decide) (?_ : sxWP sc cl Q 161 (4, [some (.int (nI v)), some (.int 3)], [.int ((nI v) - (nI v) / 7 * 7)], hp, 0, 0)))
    refine stp hm 3 (bF (by decide) ?_)
    refine stp hm 3 (bNT (by decide) ?_)
    refine stp hm 3 ?_
    show Q (some (.int (((nI v) - (nI v) / 7 * 7) - 0))) hp
    exact qe h ((by decide +kernel : ∀ v, v < 49 → (((nI v) - (nI v) / 7 * 7) - 0) = iZ (rcN v 3)) v hv )
set_option maxRecDepth 4000 in
theorem x_rise {v w : Nat} (hc : call = sxE sc (d + 1)) (hv : v < 49) (hw : w < 4) (h : Q (some (.int (iZ (hsN v w)))) hp) : call 17 [.int (nI v), .int (nI w)] hp Q := by
  match w, hw, h with
  | 0, hw, h =>
    show call 17 [.int (nI v), .int 0] hp Q
    refine ent hc rfl (fun cl hE hm => ?_)
    refine stp hm 3 (And.intro (by decide) (?_ : sxWP sc cl Q 17 (4, [some (.int (nI v)), some (.int 0), none, none], [.int ((nI v) / 7)], hp, 0, 0)))
    refine stp hm 3 (And.intro (by decide) (?_ : sxWP sc cl Q 17 (8, [some (.int (nI v)), some (.int 0), none, none], [.int ((nI v) - (nI v) / 7 * 7), .int ((nI v) / 7)], hp, 0, 0)))
    refine stp hm 4 (And.intro (fun c1 => ?_) (fun c1 => ?_))
    · have c1 : ¬ ((((nI v) / 7) + ((nI v) - (nI v) / 7 * 7)) &&& 1) = 0 := c1
      refine stp hm 5 (bF (by decide) ?_)
      refine stp hm 3 (bNT (by decide) ?_)
      refine stp hm 5 (bNF (by decide) ?_)
      refine stp hm 3 ?_
      show Q (some (.int 1)) hp
      exact qe h ((by decide +kernel : ∀ v, v < 49 → ((¬ ((((nI v) / 7) + ((nI v) - (nI v) / 7 * 7)) &&& 1) = 0)) → ((1 : Int32)) = iZ (hsN v 0)) v hv c1)
    · have c1 : ((((nI v) / 7) + ((nI v) - (nI v) / 7 * 7)) &&& 1) = 0 := c1
      refine stp hm 6 (bF (by decide) ?_)
      refine stp hm 3 (bNT (by decide) ?_)
      refine stp hm 5 (bNT (by decide) ?_)
      refine stp hm 2 ?_
      show Q (some (.int (-1))) hp
      exact qe h ((by decide +kernel : ∀ v, v < 49 → ((((((nI v) / 7) + ((nI v) - (nI v) / 7 * 7)) &&& 1) = 0)) → ((-1 : Int32)) = iZ (hsN v 0)) v hv c1)
  | 1, hw, h =>
    show call 17 [.int (nI v), .int 1] hp Q
    refine ent hc rfl (fun cl hE hm => ?_)
    refine stp hm 3 (And.intro (by decide) (?_ : sxWP sc cl Q 17 (4, [some (.int (nI v)), some (.int 1), none, none], [.int ((nI v) / 7)], hp, 0, 0)))
    refine stp hm 3 (And.intro (by decide) (?_ : sxWP sc cl Q 17 (8, [some (.int (nI v)), some (.int 1), none, none], [.int ((nI v) - (nI v) / 7 * 7), .int ((nI v) / 7)], hp, 0, 0)))
    refine stp hm 4 (And.intro (fun c1 => ?_) (fun c1 => ?_))
    · have c1 : ¬ ((((nI v) / 7) + ((nI v) - (nI v) / 7 * 7)) &&& 1) = 0 := c1
      refine stp hm 5 (bT (by decide) ?_)
      refine stp hm 6 (bNT (by decide) ?_)
      refine stp hm 2 ?_
      show Q (some (.int (-1))) hp
      exact qe h ((by decide +kernel : ∀ v, v < 49 → ((¬ ((((nI v) / 7) + ((nI v) - (nI v) / 7 * 7)) &&& 1) = 0)) → ((-1 : Int32)) = iZ (hsN v 1)) v hv c1)
    · have c1 : ((((nI v) / 7) + ((nI v) - (nI v) / 7 * 7)) &&& 1) = 0 := c1
      refine stp hm 6 (bT (by decide) ?_)
      refine stp hm 6 (bNF (by decide) ?_)
      refine stp hm 3 ?_
      show Q (some (.int 1)) hp
      exact qe h ((by decide +kernel : ∀ v, v < 49 → ((((((nI v) / 7) + ((nI v) - (nI v) / 7 * 7)) &&& 1) = 0)) → ((1 : Int32)) = iZ (hsN v 1)) v hv c1)
  | 2, hw, h =>
    show call 17 [.int (nI v), .int 2] hp Q
    refine ent hc rfl (fun cl hE hm => ?_)
    refine stp hm 3 (And.intro (by decide) (?_ : sxWP sc cl Q 17 (4, [some (.int (nI v)), some (.int 2), none, none], [.int ((nI v) / 7)], hp, 0, 0)))
    refine stp hm 3 (And.intro (by decide) (?_ : sxWP sc cl Q 17 (8, [some (.int (nI v)), some (.int 2), none, none], [.int ((nI v) - (nI v) / 7 * 7), .int ((nI v) / 7)], hp, 0, 0)))
    refine stp hm 4 (And.intro (fun c1 => ?_) (fun c1 => ?_))
    · have c1 : ¬ ((((nI v) / 7) + ((nI v) - (nI v) / 7 * 7)) &&& 1) = 0 := c1
      refine stp hm 5 (bF (by decide) ?_)
      refine stp hm 3 (bNT (by decide) ?_)
      refine stp hm 5 (bNF (by decide) ?_)
      refine stp hm 3 ?_
      show Q (some (.int 1)) hp
      exact qe h ((by decide +kernel : ∀ v, v < 49 → ((¬ ((((nI v) / 7) + ((nI v) - (nI v) / 7 * 7)) &&& 1) = 0)) → ((1 : Int32)) = iZ (hsN v 2)) v hv c1)
    · have c1 : ((((nI v) / 7) + ((nI v) - (nI v) / 7 * 7)) &&& 1) = 0 := c1
      refine stp hm 6 (bF (by decide) ?_)
      refine stp hm 3 (bNT (by decide) ?_)
      refine stp hm 5 (bNT (by decide) ?_)
      refine stp hm 2 ?_
      show Q (some (.int (-1))) hp
      exact qe h ((by decide +kernel : ∀ v, v < 49 → ((((((nI v) / 7) + ((nI v) - (nI v) / 7 * 7)) &&& 1) = 0)) → ((-1 : Int32)) = iZ (hsN v 2)) v hv c1)
  | 3, hw, h =>
    show call 17 [.int (nI v), .int 3] hp Q
    refine ent hc rfl (fun cl hE hm => ?_)
    refine stp hm 3 (And.intro (by decide) (?_ : sxWP sc cl Q 17 (4, [some (.int (nI v)), some (.int 3), none, none], [.int ((nI v) / 7)], hp, 0, 0)))
    refine stp hm 3 (And.intro (by decide) (?_ : sxWP sc cl Q 17 (8, [some (.int (nI v)), some (.int 3), none, none], [.int ((nI v) - (nI v) / 7 * 7), .int ((nI v) / 7)], hp, 0, 0)))
    refine stp hm 4 (And.intro (fun c1 => ?_) (fun c1 => ?_))
    · have c1 : ¬ ((((nI v) / 7) + ((nI v) - (nI v) / 7 * 7)) &&& 1) = 0 := c1
      refine stp hm 5 (bF (by decide) ?_)
      refine stp hm 3 (bNF (by decide) ?_)
      refine stp hm 6 (bNT (by decide) ?_)
      refine stp hm 2 ?_
      show Q (some (.int (-1))) hp
      exact qe h ((by decide +kernel : ∀ v, v < 49 → ((¬ ((((nI v) / 7) + ((nI v) - (nI v) / 7 * 7)) &&& 1) = 0)) → ((-1 : Int32)) = iZ (hsN v 3)) v hv c1)
    · have c1 : ((((nI v) / 7) + ((nI v) - (nI v) / 7 * 7)) &&& 1) = 0 := c1
      refine stp hm 6 (bF (by decide) ?_)
      refine stp hm 3 (bNF (by decide) ?_)
      refine stp hm 6 (bNF (by decide) ?_)
      refine stp hm 3 ?_
      show Q (some (.int 1)) hp
      exact qe h ((by decide +kernel : ∀ v, v < 49 → ((((((nI v) / 7) + ((nI v) - (nI v) / 7 * 7)) &&& 1) = 0)) → ((1 : Int32)) = iZ (hsN v 3)) v hv c1)
set_option maxRecDepth 4000 in
theorem x_leftOf {v w : Nat} (hc : call = sxE sc (d + 2)) (hv : v < 49) (hw : w < 4) (h : Q (some (.int (iZ (leN v w)))) hp) : call 15 [.int (nI v), .int (nI w)] hp Q := by
  match w, hw, h with
  | 0, hw, h =>
    show call 15 [.int (nI v), .int 0] hp Q
    refine ent hc rfl (fun cl hE hm => ?_)
    refine stp hm 2 (bT (by decide) ?_)
    refine stp hm 6 (bF (by decide) ?_)
    refine stp hm 3 (bNT (by decide) ?_)
    refine stp hm 5 (And.intro (by decide) (?_ : sxWP sc cl Q 15 (35, [some (.int (nI v)), some (.int 0), some (.int 1), some (.int 0)], [.int ((nI v) / 7)], hp, 0, 0)))
    refine stp hm 5 (And.intro (by decide) (?_ : sxWP sc cl Q 15 (41, [some (.int (nI v)), some (.int 0), some (.int 1), some (.int 0)], [.int ((nI v) - (nI v) / 7 * 7), .int (((nI v) / 7) - 1)], hp, 0, 0)))
    refine stp hm 3 (x_cellAt hE ?_)
    show sxWP sc cl Q 15 (46, [some (.int (nI v)), some (.int 0), some (.int 1), some (.int 0)], [.int (cellAtI (((nI v) / 7) - 1) (((nI v) - (nI v) / 7 * 7) - 0))], hp, 0, 0)
    refine stp hm 1 ?_
    show Q (some (.int (cellAtI (((nI v) / 7) - 1) (((nI v) - (nI v) / 7 * 7) - 0)))) hp
    exact qe h ((by decide +kernel : ∀ v, v < 49 → (cellAtI (((nI v) / 7) - 1) (((nI v) - (nI v) / 7 * 7) - 0)) = iZ (leN v 0)) v hv )
  | 1, hw, h =>
    show call 15 [.int (nI v), .int 1] hp Q
    refine ent hc rfl (fun cl hE hm => ?_)
    refine stp hm 2 (bF (by decide) ?_)
    refine stp hm 3 (bNT (by decide) ?_)
    refine stp hm 5 (bF (by decide) ?_)
    refine stp hm 3 (bNT (by decide) ?_)
    refine stp hm 5 (And.intro (by decide) (?_ : sxWP sc cl Q 15 (35, [some (.int (nI v)), some (.int 1), some (.int 0), some (.int 0)], [.int ((nI v) / 7)], hp, 0, 0)))
    refine stp hm 5 (And.intro (by decide) (?_ : sxWP sc cl Q 15 (41, [some (.int (nI v)), some (.int 1), some (.int 0), some (.int 0)], [.int ((nI v) - (nI v) / 7 * 7), .int (((nI v) / 7) - 0)], hp, 0, 0)))
    refine stp hm 3 (x_cellAt hE ?_)
    show sxWP sc cl Q 15 (46, [some (.int (nI v)), some (.int 1), some (.int 0), some (.int 0)], [.int (cellAtI (((nI v) / 7) - 0) (((nI v) - (nI v) / 7 * 7) - 0))], hp, 0, 0)
    refine stp hm 1 ?_
    show Q (some (.int (cellAtI (((nI v) / 7) - 0) (((nI v) - (nI v) / 7 * 7) - 0)))) hp
    exact qe h ((by decide +kernel : ∀ v, v < 49 → (cellAtI (((nI v) / 7) - 0) (((nI v) - (nI v) / 7 * 7) - 0)) = iZ (leN v 1)) v hv )
  | 2, hw, h =>
    show call 15 [.int (nI v), .int 2] hp Q
    refine ent hc rfl (fun cl hE hm => ?_)
    refine stp hm 2 (bF (by decide) ?_)
    refine stp hm 3 (bNT (by decide) ?_)
    refine stp hm 5 (bT (by decide) ?_)
    refine stp hm 6 (And.intro (by decide) (?_ : sxWP sc cl Q 15 (35, [some (.int (nI v)), some (.int 2), some (.int 0), some (.int 1)], [.int ((nI v) / 7)], hp, 0, 0)))
    refine stp hm 5 (And.intro (by decide) (?_ : sxWP sc cl Q 15 (41, [some (.int (nI v)), some (.int 2), some (.int 0), some (.int 1)], [.int ((nI v) - (nI v) / 7 * 7), .int (((nI v) / 7) - 0)], hp, 0, 0)))
    refine stp hm 3 (x_cellAt hE ?_)
    show sxWP sc cl Q 15 (46, [some (.int (nI v)), some (.int 2), some (.int 0), some (.int 1)], [.int (cellAtI (((nI v) / 7) - 0) (((nI v) - (nI v) / 7 * 7) - 1))], hp, 0, 0)
    refine stp hm 1 ?_
    show Q (some (.int (cellAtI (((nI v) / 7) - 0) (((nI v) - (nI v) / 7 * 7) - 1)))) hp
    exact qe h ((by decide +kernel : ∀ v, v < 49 → (cellAtI (((nI v) / 7) - 0) (((nI v) - (nI v) / 7 * 7) - 1)) = iZ (leN v 2)) v hv )
  | 3, hw, h =>
    show call 15 [.int (nI v), .int 3] hp Q
    refine ent hc rfl (fun cl hE hm => ?_)
    refine stp hm 2 (bF (by decide) ?_)
    refine stp hm 3 (bNF (by decide) ?_)
    refine stp hm 6 (bF (by decide) ?_)
    refine stp hm 3 (bNF (by decide) ?_)
    refine stp hm 6 (And.intro (by decide) (?_ : sxWP sc cl Q 15 (35, [some (.int (nI v)), some (.int 3), some (.int 1), some (.int 1)], [.int ((nI v) / 7)], hp, 0, 0)))
    refine stp hm 5 (And.intro (by decide) (?_ : sxWP sc cl Q 15 (41, [some (.int (nI v)), some (.int 3), some (.int 1), some (.int 1)], [.int ((nI v) - (nI v) / 7 * 7), .int (((nI v) / 7) - 1)], hp, 0, 0)))
    refine stp hm 3 (x_cellAt hE ?_)
    show sxWP sc cl Q 15 (46, [some (.int (nI v)), some (.int 3), some (.int 1), some (.int 1)], [.int (cellAtI (((nI v) / 7) - 1) (((nI v) - (nI v) / 7 * 7) - 1))], hp, 0, 0)
    refine stp hm 1 ?_
    show Q (some (.int (cellAtI (((nI v) / 7) - 1) (((nI v) - (nI v) / 7 * 7) - 1)))) hp
    exact qe h ((by decide +kernel : ∀ v, v < 49 → (cellAtI (((nI v) / 7) - 1) (((nI v) - (nI v) / 7 * 7) - 1)) = iZ (leN v 3)) v hv )
set_option maxRecDepth 4000 in
theorem x_rightOf {v w : Nat} (hc : call = sxE sc (d + 2)) (hv : v < 49) (hw : w < 4) (h : Q (some (.int (iZ (riN v w)))) hp) : call 16 [.int (nI v), .int (nI w)] hp Q := by
  match w, hw, h with
  | 0, hw, h =>
    show call 16 [.int (nI v), .int 0] hp Q
    refine ent hc rfl (fun cl hE hm => ?_)
    refine stp hm 3 (bF (by decide) ?_)
    refine stp hm 3 (bNT (by decide) ?_)
    refine stp hm 5 (bF (by decide) ?_)
    refine stp hm 3 (bNT (by decide) ?_)
    refine stp hm 5 (And.intro (by decide) (?_ : sxWP sc cl Q 16 (36, [some (.int (nI v)), some (.int 0), some (.int 0), some (.int 0)], [.int ((nI v) / 7)], hp, 0, 0)))
    refine stp hm 5 (And.intro (by decide) (?_ : sxWP sc cl Q 16 (42, [some (.int (nI v)), some (.int 0), some (.int 0), some (.int 0)], [.int ((nI v) - (nI v) / 7 * 7), .int (((nI v) / 7) - 0)], hp, 0, 0)))
    refine stp hm 3 (x_cellAt hE ?_)
    show sxWP sc cl Q 16 (47, [some (.int (nI v)), some (.int 0), some (.int 0), some (.int 0)], [.int (cellAtI (((nI v) / 7) - 0) (((nI v) - (nI v) / 7 * 7) - 0))], hp, 0, 0)
    refine stp hm 1 ?_
    show Q (some (.int (cellAtI (((nI v) / 7) - 0) (((nI v) - (nI v) / 7 * 7) - 0)))) hp
    exact qe h ((by decide +kernel : ∀ v, v < 49 → (cellAtI (((nI v) / 7) - 0) (((nI v) - (nI v) / 7 * 7) - 0)) = iZ (riN v 0)) v hv )
  | 1, hw, h =>
    show call 16 [.int (nI v), .int 1] hp Q
    refine ent hc rfl (fun cl hE hm => ?_)
    refine stp hm 3 (bF (by decide) ?_)
    refine stp hm 3 (bNT (by decide) ?_)
    refine stp hm 5 (bT (by decide) ?_)
    refine stp hm 6 (And.intro (by decide) (?_ : sxWP sc cl Q 16 (36, [some (.int (nI v)), some (.int 1), some (.int 0), some (.int 1)], [.int ((nI v) / 7)], hp, 0, 0)))
    refine stp hm 5 (And.intro (by decide) (?_ : sxWP sc cl Q 16 (42, [some (.int (nI v)), some (.int 1), some (.int 0), some (.int 1)], [.int ((nI v) - (nI v) / 7 * 7), .int (((nI v) / 7) - 0)], hp, 0, 0)))
    refine stp hm 3 (x_cellAt hE ?_)
    show sxWP sc cl Q 16 (47, [some (.int (nI v)), some (.int 1), some (.int 0), some (.int 1)], [.int (cellAtI (((nI v) / 7) - 0) (((nI v) - (nI v) / 7 * 7) - 1))], hp, 0, 0)
    refine stp hm 1 ?_
    show Q (some (.int (cellAtI (((nI v) / 7) - 0) (((nI v) - (nI v) / 7 * 7) - 1)))) hp
    exact qe h ((by decide +kernel : ∀ v, v < 49 → (cellAtI (((nI v) / 7) - 0) (((nI v) - (nI v) / 7 * 7) - 1)) = iZ (riN v 1)) v hv )
  | 2, hw, h =>
    show call 16 [.int (nI v), .int 2] hp Q
    refine ent hc rfl (fun cl hE hm => ?_)
    refine stp hm 3 (bT (by decide) ?_)
    refine stp hm 6 (bF (by decide) ?_)
    refine stp hm 3 (bNF (by decide) ?_)
    refine stp hm 6 (And.intro (by decide) (?_ : sxWP sc cl Q 16 (36, [some (.int (nI v)), some (.int 2), some (.int 1), some (.int 1)], [.int ((nI v) / 7)], hp, 0, 0)))
    refine stp hm 5 (And.intro (by decide) (?_ : sxWP sc cl Q 16 (42, [some (.int (nI v)), some (.int 2), some (.int 1), some (.int 1)], [.int ((nI v) - (nI v) / 7 * 7), .int (((nI v) / 7) - 1)], hp, 0, 0)))
    refine stp hm 3 (x_cellAt hE ?_)
    show sxWP sc cl Q 16 (47, [some (.int (nI v)), some (.int 2), some (.int 1), some (.int 1)], [.int (cellAtI (((nI v) / 7) - 1) (((nI v) - (nI v) / 7 * 7) - 1))], hp, 0, 0)
    refine stp hm 1 ?_
    show Q (some (.int (cellAtI (((nI v) / 7) - 1) (((nI v) - (nI v) / 7 * 7) - 1)))) hp
    exact qe h ((by decide +kernel : ∀ v, v < 49 → (cellAtI (((nI v) / 7) - 1) (((nI v) - (nI v) / 7 * 7) - 1)) = iZ (riN v 2)) v hv )
  | 3, hw, h =>
    show call 16 [.int (nI v), .int 3] hp Q
    refine ent hc rfl (fun cl hE hm => ?_)
    refine stp hm 3 (bF (by decide) ?_)
    refine stp hm 3 (bNF (by decide) ?_)
    refine stp hm 6 (bF (by decide) ?_)
    refine stp hm 3 (bNT (by decide) ?_)
    refine stp hm 5 (And.intro (by decide) (?_ : sxWP sc cl Q 16 (36, [some (.int (nI v)), some (.int 3), some (.int 1), some (.int 0)], [.int ((nI v) / 7)], hp, 0, 0)))
    refine stp hm 5 (And.intro (by decide) (?_ : sxWP sc cl Q 16 (42, [some (.int (nI v)), some (.int 3), some (.int 1), some (.int 0)], [.int ((nI v) - (nI v) / 7 * 7), .int (((nI v) / 7) - 1)], hp, 0, 0)))
    refine stp hm 3 (x_cellAt hE ?_)
    show sxWP sc cl Q 16 (47, [some (.int (nI v)), some (.int 3), some (.int 1), some (.int 0)], [.int (cellAtI (((nI v) / 7) - 1) (((nI v) - (nI v) / 7 * 7) - 0))], hp, 0, 0)
    refine stp hm 1 ?_
    show Q (some (.int (cellAtI (((nI v) / 7) - 1) (((nI v) - (nI v) / 7 * 7) - 0)))) hp
    exact qe h ((by decide +kernel : ∀ v, v < 49 → (cellAtI (((nI v) / 7) - 1) (((nI v) - (nI v) / 7 * 7) - 0)) = iZ (riN v 3)) v hv )
set_option maxRecDepth 4000 in
theorem x_next {v w : Nat} (hc : call = sxE sc (d + 2)) (hv : v < 49) (hw : w < 4) (h : Q (some (.int (iZ (nxN v w)))) hp) : call 13 [.int (nI v), .int (nI w)] hp Q := by
  match w, hw, h with
  | 0, hw, h =>
    show call 13 [.int (nI v), .int 0] hp Q
    refine ent hc rfl (fun cl hE hm => ?_)
    refine stp hm 2 (x_isVertex hE (fun c1a c1b => ?_) (fun c1 => ?_))
    · show sxWP sc cl Q 13 (4, [some (.int (nI v)), some (.int 0), none, none], [.int 1], hp, 0, 0)
      refine stp hm 1 (bNT (by decide) ?_)
      refine stp hm 3 (bNT (by decide) ?_)
      refine stp hm 3 (bNT (by decide) ?_)
      refine stp hm 4 (bNF (by decide) ?_)
      refine stp hm 6 (And.intro (by decide) (?_ : sxWP sc cl Q 13 (52, [some (.int (nI v)), some (.int 0), some (.int 0), some (.int 1)], [.int ((nI v) / 7)], hp, 0, 0)))
      refine stp hm 5 (And.intro (by decide) (?_ : sxWP sc cl Q 13 (58, [some (.int (nI v)), some (.int 0), some (.int 0), some (.int 1)], [.int ((nI v) - (nI v) / 7 * 7), .int (((nI v) / 7) + 0)], hp, 0, 0)))
      refine stp hm 3 (x_vertexAt hE ?_)
      show sxWP sc cl Q 13 (63, [some (.int (nI v)), some (.int 0), some (.int 0), some (.int 1)], [.int (vertexAtI (((nI v) / 7) + 0) (((nI v) - (nI v) / 7 * 7) + 1))], hp, 0, 0)
      refine stp hm 1 ?_
      show Q (some (.int (vertexAtI (((nI v) / 7) + 0) (((nI v) - (nI v) / 7 * 7) + 1)))) hp
      exact qe h ((by decide +kernel : ∀ v, v < 49 → ((¬ (nI v) < 0) ∧ (¬ 49 ≤ (nI v))) → (vertexAtI (((nI v) / 7) + 0) (((nI v) - (nI v) / 7 * 7) + 1)) = iZ (nxN v 0)) v hv ⟨c1a, c1b⟩)
    · show sxWP sc cl Q 13 (4, [some (.int (nI v)), some (.int 0), none, none], [.int 0], hp, 0, 0)
      refine stp hm 1 (bNF (by decide) ?_)
      refine stp hm 2 ?_
      show Q (some (.int (-1))) hp
      exact qe h ((by decide +kernel : ∀ v, v < 49 → (((nI v) < 0 ∨ 49 ≤ (nI v))) → ((-1 : Int32)) = iZ (nxN v 0)) v hv c1)
  | 1, hw, h =>
    show call 13 [.int (nI v), .int 1] hp Q
    refine ent hc rfl (fun cl hE hm => ?_)
    refine stp hm 2 (x_isVertex hE (fun c1a c1b => ?_) (fun c1 => ?_))
    · show sxWP sc cl Q 13 (4, [some (.int (nI v)), some (.int 1), none, none], [.int 1], hp, 0, 0)
      refine stp hm 1 (bNT (by decide) ?_)
      refine stp hm 3 (bNF (by decide) ?_)
      refine stp hm 5 (bNT (by decide) ?_)
      refine stp hm 3 (bNT (by decide) ?_)
      refine stp hm 5 (And.intro (by decide) (?_ : sxWP sc cl Q 13 (52, [some (.int (nI v)), some (.int 1), some (.int 1), some (.int 0)], [.int ((nI v) / 7)], hp, 0, 0)))
      refine stp hm 5 (And.intro (by decide) (?_ : sxWP sc cl Q 13 (58, [some (.int (nI v)), some (.int 1), some (.int 1), some (.int 0)], [.int ((nI v) - (nI v) / 7 * 7), .int (((nI v) / 7) + 1)], hp, 0, 0)))
      refine stp hm 3 (x_vertexAt hE ?_)
      show sxWP sc cl Q 13 (63, [some (.int (nI v)), some (.int 1), some (.int 1), some (.int 0)], [.int (vertexAtI (((nI v) / 7) + 1) (((nI v) - (nI v) / 7 * 7) + 0))], hp, 0, 0)
      refine stp hm 1 ?_
      show Q (some (.int (vertexAtI (((nI v) / 7) + 1) (((nI v) - (nI v) / 7 * 7) + 0)))) hp
      exact qe h ((by decide +kernel : ∀ v, v < 49 → ((¬ (nI v) < 0) ∧ (¬ 49 ≤ (nI v))) → (vertexAtI (((nI v) / 7) + 1) (((nI v) - (nI v) / 7 * 7) + 0)) = iZ (nxN v 1)) v hv ⟨c1a, c1b⟩)
    · show sxWP sc cl Q 13 (4, [some (.int (nI v)), some (.int 1), none, none], [.int 0], hp, 0, 0)
      refine stp hm 1 (bNF (by decide) ?_)
      refine stp hm 2 ?_
      show Q (some (.int (-1))) hp
      exact qe h ((by decide +kernel : ∀ v, v < 49 → (((nI v) < 0 ∨ 49 ≤ (nI v))) → ((-1 : Int32)) = iZ (nxN v 1)) v hv c1)
  | 2, hw, h =>
    show call 13 [.int (nI v), .int 2] hp Q
    refine ent hc rfl (fun cl hE hm => ?_)
    refine stp hm 2 (x_isVertex hE (fun c1a c1b => ?_) (fun c1 => ?_))
    · show sxWP sc cl Q 13 (4, [some (.int (nI v)), some (.int 2), none, none], [.int 1], hp, 0, 0)
      refine stp hm 1 (bNT (by decide) ?_)
      refine stp hm 3 (bNT (by decide) ?_)
      refine stp hm 3 (bNT (by decide) ?_)
      refine stp hm 4 (bNT (by decide) ?_)
      refine stp hm 3 (bNF (by decide) ?_)
      refine stp hm 6 (And.intro (by decide) (?_ : sxWP sc cl Q 13 (52, [some (.int (nI v)), some (.int 2), some (.int 0), some (.int (-1))], [.int ((nI v) / 7)], hp, 0, 0)))
      refine stp hm 5 (And.intro (by decide) (?_ : sxWP sc cl Q 13 (58, [some (.int (nI v)), some (.int 2), some (.int 0), some (.int (-1))], [.int ((nI v) - (nI v) / 7 * 7), .int (((nI v) / 7) + 0)], hp, 0, 0)))
      refine stp hm 3 (x_vertexAt hE ?_)
      show sxWP sc cl Q 13 (63, [some (.int (nI v)), some (.int 2), some (.int 0), some (.int (-1))], [.int (vertexAtI (((nI v) / 7) + 0) (((nI v) - (nI v) / 7 * 7) + (-1)))], hp, 0, 0)
      refine stp hm 1 ?_
      show Q (some (.int (vertexAtI (((nI v) / 7) + 0) (((nI v) - (nI v) / 7 * 7) + (-1))))) hp
      exact qe h ((by decide +kernel : ∀ v, v < 49 → ((¬ (nI v) < 0) ∧ (¬ 49 ≤ (nI v))) → (vertexAtI (((nI v) / 7) + 0) (((nI v) - (nI v) / 7 * 7) + (-1))) = iZ (nxN v 2)) v hv ⟨c1a, c1b⟩)
    · show sxWP sc cl Q 13 (4, [some (.int (nI v)), some (.int 2), none, none], [.int 0], hp, 0, 0)
      refine stp hm 1 (bNF (by decide) ?_)
      refine stp hm 2 ?_
      show Q (some (.int (-1))) hp
      exact qe h ((by decide +kernel : ∀ v, v < 49 → (((nI v) < 0 ∨ 49 ≤ (nI v))) → ((-1 : Int32)) = iZ (nxN v 2)) v hv c1)
  | 3, hw, h =>
    show call 13 [.int (nI v), .int 3] hp Q
    refine ent hc rfl (fun cl hE hm => ?_)
    refine stp hm 2 (x_isVertex hE (fun c1a c1b => ?_) (fun c1 => ?_))
    · show sxWP sc cl Q 13 (4, [some (.int (nI v)), some (.int 3), none, none], [.int 1], hp, 0, 0)
      refine stp hm 1 (bNT (by decide) ?_)
      refine stp hm 3 (bNT (by decide) ?_)
      refine stp hm 3 (bNF (by decide) ?_)
      refine stp hm 5 (bNT (by decide) ?_)
      refine stp hm 3 (bNT (by decide) ?_)
      refine stp hm 5 (And.intro (by decide) (?_ : sxWP sc cl Q 13 (52, [some (.int (nI v)), some (.int 3), some (.int (-1)), some (.int 0)], [.int ((nI v) / 7)], hp, 0, 0)))
      refine stp hm 5 (And.intro (by decide) (?_ : sxWP sc cl Q 13 (58, [some (.int (nI v)), some (.int 3), some (.int (-1)), some (.int 0)], [.int ((nI v) - (nI v) / 7 * 7), .int (((nI v) / 7) + (-1))], hp, 0, 0)))
      refine stp hm 3 (x_vertexAt hE ?_)
      show sxWP sc cl Q 13 (63, [some (.int (nI v)), some (.int 3), some (.int (-1)), some (.int 0)], [.int (vertexAtI (((nI v) / 7) + (-1)) (((nI v) - (nI v) / 7 * 7) + 0))], hp, 0, 0)
      refine stp hm 1 ?_
      show Q (some (.int (vertexAtI (((nI v) / 7) + (-1)) (((nI v) - (nI v) / 7 * 7) + 0)))) hp
      exact qe h ((by decide +kernel : ∀ v, v < 49 → ((¬ (nI v) < 0) ∧ (¬ 49 ≤ (nI v))) → (vertexAtI (((nI v) / 7) + (-1)) (((nI v) - (nI v) / 7 * 7) + 0)) = iZ (nxN v 3)) v hv ⟨c1a, c1b⟩)
    · show sxWP sc cl Q 13 (4, [some (.int (nI v)), some (.int 3), none, none], [.int 0], hp, 0, 0)
      refine stp hm 1 (bNF (by decide) ?_)
      refine stp hm 2 ?_
      show Q (some (.int (-1))) hp
      exact qe h ((by decide +kernel : ∀ v, v < 49 → (((nI v) < 0 ∨ 49 ≤ (nI v))) → ((-1 : Int32)) = iZ (nxN v 3)) v hv c1)
set_option maxRecDepth 4000 in
theorem m_onBy {v w : Nat} (hc : call = sxE sc (d + 2)) (hv : v < 49) (hw : w < 4) (h : Q (some (.int (iZ (nxN v w)))) hp) : call 157 [.int (nI v), .int (nI w)] hp Q := by
  match w, hw, h with
  | 0, hw, h =>
    show call 157 [.int (nI v), .int 0] hp Q
    refine ent hc rfl (fun cl hE hm => ?_)
    refine stp hm 3 (And.intro (by decide) (?_ : sxWP sc cl Q 157 (4, [some (.int (nI v)), some (.int 0), none, none], [.int ((nI v) / 7)], hp, 0, 0)))
    refine stp hm 3 (bNT (by decide) ?_)
    refine stp hm 3 (bNT (by decide) ?_)
    refine stp hm 6 (And.intro (by decide) (?_ : sxWP sc cl Q 157 (29, [some (.int (nI v)), some (.int 0), some (.int (((nI v) / 7) + 0)), none], [.int ((nI v) - (nI v) / 7 * 7)], hp, 0, 0)))
    refine stp hm 2 (bNF (by decide) ?_)
    refine stp hm 8 (x_isIn hE (fun c1a c1b => ?_) (fun c1 => ?_))
    · show sxWP sc cl Q 157 (56, [some (.int (nI v)), some (.int 0), some (.int (((nI v) / 7) + 0)), some (.int (((nI v) - (nI v) / 7 * 7) + 1))], [.int 1], hp, 0, 0)
      refine stp hm 1 (bF (by decide) ?_)
      refine stp hm 4 (x_isIn hE (fun c2a c2b => ?_) (fun c2 => ?_))
      · show sxWP sc cl Q 157 (66, [some (.int (nI v)), some (.int 0), some (.int (((nI v) / 7) + 0)), some (.int (((nI v) - (nI v) / 7 * 7) + 1))], [.int 1], hp, 0, 0)
        refine stp hm 1 (bF (by decide) ?_)
        refine stp hm 7 ?_
        show Q (some (.int ((7 * (((nI v) / 7) + 0)) + (((nI v) - (nI v) / 7 * 7) + 1)))) hp
        exact qe h ((by decide +kernel : ∀ v, v < 49 → ((¬ (((nI v) / 7) + 0) < 0) ∧ (¬ 6 < (((nI v) / 7) + 0)) ∧ (¬ (((nI v) - (nI v) / 7 * 7) + 1) < 0) ∧ (¬ 6 < (((nI v) - (nI v) / 7 * 7) + 1))) → ((7 * (((nI v) / 7) + 0)) + (((nI v) - (nI v) / 7 * 7) + 1)) = iZ (nxN v 0)) v hv ⟨c1a, c1b, c2a, c2b⟩)
      · show sxWP sc cl Q 157 (66, [some (.int (nI v)), some (.int 0), some (.int (((nI v) / 7) + 0)), some (.int (((nI v) - (nI v) / 7 * 7) + 1))], [.int 0], hp, 0, 0)
        refine stp hm 1 (bT (by decide) ?_)
        refine stp hm 2 ?_
        show Q (some (.int (-1))) hp
        exact qe h ((by decide +kernel : ∀ v, v < 49 → ((¬ (((nI v) / 7) + 0) < 0) ∧ (¬ 6 < (((nI v) / 7) + 0)) ∧ ((((nI v) - (nI v) / 7 * 7) + 1) < 0 ∨ 6 < (((nI v) - (nI v) / 7 * 7) + 1))) → ((-1 : Int32)) = iZ (nxN v 0)) v hv ⟨c1a, c1b, c2⟩)
    · show sxWP sc cl Q 157 (56, [some (.int (nI v)), some (.int 0), some (.int (((nI v) / 7) + 0)), some (.int (((nI v) - (nI v) / 7 * 7) + 1))], [.int 0], hp, 0, 0)
      refine stp hm 1 (bT (by decide) ?_)
      refine stp hm 2 ?_
      show Q (some (.int (-1))) hp
      exact qe h ((by decide +kernel : ∀ v, v < 49 → (((((nI v) / 7) + 0) < 0 ∨ 6 < (((nI v) / 7) + 0))) → ((-1 : Int32)) = iZ (nxN v 0)) v hv c1)
  | 1, hw, h =>
    show call 157 [.int (nI v), .int 1] hp Q
    refine ent hc rfl (fun cl hE hm => ?_)
    refine stp hm 3 (And.intro (by decide) (?_ : sxWP sc cl Q 157 (4, [some (.int (nI v)), some (.int 1), none, none], [.int ((nI v) / 7)], hp, 0, 0)))
    refine stp hm 3 (bNF (by decide) ?_)
    refine stp hm 7 (And.intro (by decide) (?_ : sxWP sc cl Q 157 (29, [some (.int (nI v)), some (.int 1), some (.int (((nI v) / 7) + 1)), none], [.int ((nI v) - (nI v) / 7 * 7)], hp, 0, 0)))
    refine stp hm 2 (bNT (by decide) ?_)
    refine stp hm 3 (bNT (by decide) ?_)
    refine stp hm 7 (x_isIn hE (fun c1a c1b => ?_) (fun c1 => ?_))
    · show sxWP sc cl Q 157 (56, [some (.int (nI v)), some (.int 1), some (.int (((nI v) / 7) + 1)), some (.int (((nI v) - (nI v) / 7 * 7) + 0))], [.int 1], hp, 0, 0)
      refine stp hm 1 (bF (by decide) ?_)
      refine stp hm 4 (x_isIn hE (fun c2a c2b => ?_) (fun c2 => ?_))
      · show sxWP sc cl Q 157 (66, [some (.int (nI v)), some (.int 1), some (.int (((nI v) / 7) + 1)), some (.int (((nI v) - (nI v) / 7 * 7) + 0))], [.int 1], hp, 0, 0)
        refine stp hm 1 (bF (by decide) ?_)
        refine stp hm 7 ?_
        show Q (some (.int ((7 * (((nI v) / 7) + 1)) + (((nI v) - (nI v) / 7 * 7) + 0)))) hp
        exact qe h ((by decide +kernel : ∀ v, v < 49 → ((¬ (((nI v) / 7) + 1) < 0) ∧ (¬ 6 < (((nI v) / 7) + 1)) ∧ (¬ (((nI v) - (nI v) / 7 * 7) + 0) < 0) ∧ (¬ 6 < (((nI v) - (nI v) / 7 * 7) + 0))) → ((7 * (((nI v) / 7) + 1)) + (((nI v) - (nI v) / 7 * 7) + 0)) = iZ (nxN v 1)) v hv ⟨c1a, c1b, c2a, c2b⟩)
      · show sxWP sc cl Q 157 (66, [some (.int (nI v)), some (.int 1), some (.int (((nI v) / 7) + 1)), some (.int (((nI v) - (nI v) / 7 * 7) + 0))], [.int 0], hp, 0, 0)
        refine stp hm 1 (bT (by decide) ?_)
        refine stp hm 2 ?_
        show Q (some (.int (-1))) hp
        exact qe h ((by decide +kernel : ∀ v, v < 49 → ((¬ (((nI v) / 7) + 1) < 0) ∧ (¬ 6 < (((nI v) / 7) + 1)) ∧ ((((nI v) - (nI v) / 7 * 7) + 0) < 0 ∨ 6 < (((nI v) - (nI v) / 7 * 7) + 0))) → ((-1 : Int32)) = iZ (nxN v 1)) v hv ⟨c1a, c1b, c2⟩)
    · show sxWP sc cl Q 157 (56, [some (.int (nI v)), some (.int 1), some (.int (((nI v) / 7) + 1)), some (.int (((nI v) - (nI v) / 7 * 7) + 0))], [.int 0], hp, 0, 0)
      refine stp hm 1 (bT (by decide) ?_)
      refine stp hm 2 ?_
      show Q (some (.int (-1))) hp
      exact qe h ((by decide +kernel : ∀ v, v < 49 → (((((nI v) / 7) + 1) < 0 ∨ 6 < (((nI v) / 7) + 1))) → ((-1 : Int32)) = iZ (nxN v 1)) v hv c1)
  | 2, hw, h =>
    show call 157 [.int (nI v), .int 2] hp Q
    refine ent hc rfl (fun cl hE hm => ?_)
    refine stp hm 3 (And.intro (by decide) (?_ : sxWP sc cl Q 157 (4, [some (.int (nI v)), some (.int 2), none, none], [.int ((nI v) / 7)], hp, 0, 0)))
    refine stp hm 3 (bNT (by decide) ?_)
    refine stp hm 3 (bNT (by decide) ?_)
    refine stp hm 6 (And.intro (by decide) (?_ : sxWP sc cl Q 157 (29, [some (.int (nI v)), some (.int 2), some (.int (((nI v) / 7) + 0)), none], [.int ((nI v) - (nI v) / 7 * 7)], hp, 0, 0)))
    refine stp hm 2 (bNT (by decide) ?_)
    refine stp hm 3 (bNF (by decide) ?_)
    refine stp hm 8 (x_isIn hE (fun c1a c1b => ?_) (fun c1 => ?_))
    · show sxWP sc cl Q 157 (56, [some (.int (nI v)), some (.int 2), some (.int (((nI v) / 7) + 0)), some (.int (((nI v) - (nI v) / 7 * 7) + (-1)))], [.int 1], hp, 0, 0)
      refine stp hm 1 (bF (by decide) ?_)
      refine stp hm 4 (x_isIn hE (fun c2a c2b => ?_) (fun c2 => ?_))
      · show sxWP sc cl Q 157 (66, [some (.int (nI v)), some (.int 2), some (.int (((nI v) / 7) + 0)), some (.int (((nI v) - (nI v) / 7 * 7) + (-1)))], [.int 1], hp, 0, 0)
        refine stp hm 1 (bF (by decide) ?_)
        refine stp hm 7 ?_
        show Q (some (.int ((7 * (((nI v) / 7) + 0)) + (((nI v) - (nI v) / 7 * 7) + (-1))))) hp
        exact qe h ((by decide +kernel : ∀ v, v < 49 → ((¬ (((nI v) / 7) + 0) < 0) ∧ (¬ 6 < (((nI v) / 7) + 0)) ∧ (¬ (((nI v) - (nI v) / 7 * 7) + (-1)) < 0) ∧ (¬ 6 < (((nI v) - (nI v) / 7 * 7) + (-1)))) → ((7 * (((nI v) / 7) + 0)) + (((nI v) - (nI v) / 7 * 7) + (-1))) = iZ (nxN v 2)) v hv ⟨c1a, c1b, c2a, c2b⟩)
      · show sxWP sc cl Q 157 (66, [some (.int (nI v)), some (.int 2), some (.int (((nI v) / 7) + 0)), some (.int (((nI v) - (nI v) / 7 * 7) + (-1)))], [.int 0], hp, 0, 0)
        refine stp hm 1 (bT (by decide) ?_)
        refine stp hm 2 ?_
        show Q (some (.int (-1))) hp
        exact qe h ((by decide +kernel : ∀ v, v < 49 → ((¬ (((nI v) / 7) + 0) < 0) ∧ (¬ 6 < (((nI v) / 7) + 0)) ∧ ((((nI v) - (nI v) / 7 * 7) + (-1)) < 0 ∨ 6 < (((nI v) - (nI v) / 7 * 7) + (-1)))) → ((-1 : Int32)) = iZ (nxN v 2)) v hv ⟨c1a, c1b, c2⟩)
    · show sxWP sc cl Q 157 (56, [some (.int (nI v)), some (.int 2), some (.int (((nI v) / 7) + 0)), some (.int (((nI v) - (nI v) / 7 * 7) + (-1)))], [.int 0], hp, 0, 0)
      refine stp hm 1 (bT (by decide) ?_)
      refine stp hm 2 ?_
      show Q (some (.int (-1))) hp
      exact qe h ((by decide +kernel : ∀ v, v < 49 → (((((nI v) / 7) + 0) < 0 ∨ 6 < (((nI v) / 7) + 0))) → ((-1 : Int32)) = iZ (nxN v 2)) v hv c1)
  | 3, hw, h =>
    show call 157 [.int (nI v), .int 3] hp Q
    refine ent hc rfl (fun cl hE hm => ?_)
    refine stp hm 3 (And.intro (by decide) (?_ : sxWP sc cl Q 157 (4, [some (.int (nI v)), some (.int 3), none, none], [.int ((nI v) / 7)], hp, 0, 0)))
    refine stp hm 3 (bNT (by decide) ?_)
    refine stp hm 3 (bNF (by decide) ?_)
    refine stp hm 7 (And.intro (by decide) (?_ : sxWP sc cl Q 157 (29, [some (.int (nI v)), some (.int 3), some (.int (((nI v) / 7) + (-1))), none], [.int ((nI v) - (nI v) / 7 * 7)], hp, 0, 0)))
    refine stp hm 2 (bNT (by decide) ?_)
    refine stp hm 3 (bNT (by decide) ?_)
    refine stp hm 7 (x_isIn hE (fun c1a c1b => ?_) (fun c1 => ?_))
    · show sxWP sc cl Q 157 (56, [some (.int (nI v)), some (.int 3), some (.int (((nI v) / 7) + (-1))), some (.int (((nI v) - (nI v) / 7 * 7) + 0))], [.int 1], hp, 0, 0)
      refine stp hm 1 (bF (by decide) ?_)
      refine stp hm 4 (x_isIn hE (fun c2a c2b => ?_) (fun c2 => ?_))
      · show sxWP sc cl Q 157 (66, [some (.int (nI v)), some (.int 3), some (.int (((nI v) / 7) + (-1))), some (.int (((nI v) - (nI v) / 7 * 7) + 0))], [.int 1], hp, 0, 0)
        refine stp hm 1 (bF (by decide) ?_)
        refine stp hm 7 ?_
        show Q (some (.int ((7 * (((nI v) / 7) + (-1))) + (((nI v) - (nI v) / 7 * 7) + 0)))) hp
        exact qe h ((by decide +kernel : ∀ v, v < 49 → ((¬ (((nI v) / 7) + (-1)) < 0) ∧ (¬ 6 < (((nI v) / 7) + (-1))) ∧ (¬ (((nI v) - (nI v) / 7 * 7) + 0) < 0) ∧ (¬ 6 < (((nI v) - (nI v) / 7 * 7) + 0))) → ((7 * (((nI v) / 7) + (-1))) + (((nI v) - (nI v) / 7 * 7) + 0)) = iZ (nxN v 3)) v hv ⟨c1a, c1b, c2a, c2b⟩)
      · show sxWP sc cl Q 157 (66, [some (.int (nI v)), some (.int 3), some (.int (((nI v) / 7) + (-1))), some (.int (((nI v) - (nI v) / 7 * 7) + 0))], [.int 0], hp, 0, 0)
        refine stp hm 1 (bT (by decide) ?_)
        refine stp hm 2 ?_
        show Q (some (.int (-1))) hp
        exact qe h ((by decide +kernel : ∀ v, v < 49 → ((¬ (((nI v) / 7) + (-1)) < 0) ∧ (¬ 6 < (((nI v) / 7) + (-1))) ∧ ((((nI v) - (nI v) / 7 * 7) + 0) < 0 ∨ 6 < (((nI v) - (nI v) / 7 * 7) + 0))) → ((-1 : Int32)) = iZ (nxN v 3)) v hv ⟨c1a, c1b, c2⟩)
    · show sxWP sc cl Q 157 (56, [some (.int (nI v)), some (.int 3), some (.int (((nI v) / 7) + (-1))), some (.int (((nI v) - (nI v) / 7 * 7) + 0))], [.int 0], hp, 0, 0)
      refine stp hm 1 (bT (by decide) ?_)
      refine stp hm 2 ?_
      show Q (some (.int (-1))) hp
      exact qe h ((by decide +kernel : ∀ v, v < 49 → (((((nI v) / 7) + (-1)) < 0 ∨ 6 < (((nI v) / 7) + (-1)))) → ((-1 : Int32)) = iZ (nxN v 3)) v hv c1)
set_option maxRecDepth 4000 in
theorem x_stride {w : Nat} (hc : call = sxE sc (d + 1)) (hw : w < 4) (h : Q (some (.int (iZ (drN w * 7 + dcN w)))) hp) : call 14 [.int (nI w)] hp Q := by
  refine ent hc rfl (fun cl hE hm => ?_)
  refine stp hm 2 (And.intro (fun c1 => ?_) (fun c1 => ?_))
  · have c1 : ¬ (nI w) = 0 := c1
    refine stp hm 3 (And.intro (fun c2 => ?_) (fun c2 => ?_))
    · have c2 : ¬ (nI w) = 1 := c2
      refine stp hm 3 (And.intro (fun c3 => ?_) (fun c3 => ?_))
      · have c3 : ¬ (nI w) = 2 := c3
        refine stp hm 2 ?_
        show Q (some (.int (-7))) hp
        exact qe h ((by decide +kernel : ∀ w, w < 4 → (¬ (nI w) = 0 ∧ ¬ (nI w) = 1 ∧ ¬ (nI w) = 2) → (-7 : Int32) = iZ (drN w * 7 + dcN w)) w hw ⟨c1, c2, c3⟩)
      · have c3 : (nI w) = 2 := c3
        refine stp hm 3 ?_
        show Q (some (.int (-1))) hp
        exact qe h ((by decide +kernel : ∀ w, w < 4 → (¬ (nI w) = 0 ∧ ¬ (nI w) = 1 ∧ (nI w) = 2) → (-1 : Int32) = iZ (drN w * 7 + dcN w)) w hw ⟨c1, c2, c3⟩)
    · have c2 : (nI w) = 1 := c2
      refine stp hm 3 ?_
      show Q (some (.int 7)) hp
      exact qe h ((by decide +kernel : ∀ w, w < 4 → (¬ (nI w) = 0 ∧ (nI w) = 1) → (7 : Int32) = iZ (drN w * 7 + dcN w)) w hw ⟨c1, c2⟩)
  · have c1 : (nI w) = 0 := c1
    refine stp hm 3 ?_
    show Q (some (.int 1)) hp
    exact qe h ((by decide +kernel : ∀ w, w < 4 → ((nI w) = 0) → (1 : Int32) = iZ (drN w * 7 + dcN w)) w hw c1)
def blkI (r c : Int32) : Bool := decide (((r + c) &&& 1) = 0)
set_option maxRecDepth 4000 in
theorem m_isBlackAt {r c : Int32} (hc : call = sxE sc (d + 1)) (h1 : blkI r c = true → Q (some (.int 1)) hp) (h0 : blkI r c = false → Q (some (.int 0)) hp) : call 144 [.int r, .int c] hp Q := by
  refine ent hc rfl (fun cl hE hm => ?_)
  refine stp hm 6 (And.intro (fun c1 => ?_) (fun c1 => ?_))
  · have c1 : ¬ ((r + c) &&& 1) = 0 := c1
    refine stp hm 2 (And.intro (Or.inl rfl) ?_)
    show Q (some (.int 0)) hp
    exact h0 (decide_eq_false c1)
  · have c1 : ((r + c) &&& 1) = 0 := c1
    refine stp hm 3 (And.intro (Or.inr rfl) ?_)
    show Q (some (.int 1)) hp
    exact h1 (decide_eq_true c1)
set_option maxRecDepth 4000 in
theorem m_heightOf {v w : Nat} (hc : call = sxE sc (d + 2)) (hv : v < 49) (hw : w < 4) (h : Q (some (.int (iZ (hsN v w)))) hp) : call 164 [.int (nI v), .int (nI w)] hp Q := by
  match w, hw, h with
  | 0, hw, h =>
    show call 164 [.int (nI v), .int 0] hp Q
    refine ent hc rfl (fun cl hE hm => ?_)
    refine stp hm 3 (m_leftRow (w := 0) hE hv (by decide) ?_)
    show sxWP sc cl Q 164 (5, [some (.int (nI v)), some (.int 0)], [.int (iZ (lrN v 0))], hp, 0, 0)
    refine stp hm 3 (m_leftColumn (w := 0) hE hv (by decide) ?_)
    show sxWP sc cl Q 164 (10, [some (.int (nI v)), some (.int 0)], [.int (iZ (lcN v 0)), .int (iZ (lrN v 0))], hp, 0, 0)
    refine stp hm 1 (m_isBlackAt hE (fun c3 => ?_) (fun c3 => ?_))
    · show sxWP sc cl Q 164 (13, [some (.int (nI v)), some (.int 0)], [.int 1], hp, 0, 0)
      refine stp hm 1 (bF (by decide) ?_)
      refine stp hm 3 ?_
      show Q (some (.int 1)) hp
      exact qe h ((by decide +kernel : ∀ v, v < 49 → ((blkI (iZ (lrN v 0)) (iZ (lcN v 0)) = true)) → ((1 : Int32)) = iZ (hsN v 0)) v hv c3)
    · show sxWP sc cl Q 164 (13, [some (.int (nI v)), some (.int 0)], [.int 0], hp, 0, 0)
      refine stp hm 1 (bT (by decide) ?_)
      refine stp hm 2 ?_
      show Q (some (.int (-1))) hp
      exact qe h ((by decide +kernel : ∀ v, v < 49 → ((blkI (iZ (lrN v 0)) (iZ (lcN v 0)) = false)) → ((-1 : Int32)) = iZ (hsN v 0)) v hv c3)
  | 1, hw, h =>
    show call 164 [.int (nI v), .int 1] hp Q
    refine ent hc rfl (fun cl hE hm => ?_)
    refine stp hm 3 (m_leftRow (w := 1) hE hv (by decide) ?_)
    show sxWP sc cl Q 164 (5, [some (.int (nI v)), some (.int 1)], [.int (iZ (lrN v 1))], hp, 0, 0)
    refine stp hm 3 (m_leftColumn (w := 1) hE hv (by decide) ?_)
    show sxWP sc cl Q 164 (10, [some (.int (nI v)), some (.int 1)], [.int (iZ (lcN v 1)), .int (iZ (lrN v 1))], hp, 0, 0)
    refine stp hm 1 (m_isBlackAt hE (fun c3 => ?_) (fun c3 => ?_))
    · show sxWP sc cl Q 164 (13, [some (.int (nI v)), some (.int 1)], [.int 1], hp, 0, 0)
      refine stp hm 1 (bF (by decide) ?_)
      refine stp hm 3 ?_
      show Q (some (.int 1)) hp
      exact qe h ((by decide +kernel : ∀ v, v < 49 → ((blkI (iZ (lrN v 1)) (iZ (lcN v 1)) = true)) → ((1 : Int32)) = iZ (hsN v 1)) v hv c3)
    · show sxWP sc cl Q 164 (13, [some (.int (nI v)), some (.int 1)], [.int 0], hp, 0, 0)
      refine stp hm 1 (bT (by decide) ?_)
      refine stp hm 2 ?_
      show Q (some (.int (-1))) hp
      exact qe h ((by decide +kernel : ∀ v, v < 49 → ((blkI (iZ (lrN v 1)) (iZ (lcN v 1)) = false)) → ((-1 : Int32)) = iZ (hsN v 1)) v hv c3)
  | 2, hw, h =>
    show call 164 [.int (nI v), .int 2] hp Q
    refine ent hc rfl (fun cl hE hm => ?_)
    refine stp hm 3 (m_leftRow (w := 2) hE hv (by decide) ?_)
    show sxWP sc cl Q 164 (5, [some (.int (nI v)), some (.int 2)], [.int (iZ (lrN v 2))], hp, 0, 0)
    refine stp hm 3 (m_leftColumn (w := 2) hE hv (by decide) ?_)
    show sxWP sc cl Q 164 (10, [some (.int (nI v)), some (.int 2)], [.int (iZ (lcN v 2)), .int (iZ (lrN v 2))], hp, 0, 0)
    refine stp hm 1 (m_isBlackAt hE (fun c3 => ?_) (fun c3 => ?_))
    · show sxWP sc cl Q 164 (13, [some (.int (nI v)), some (.int 2)], [.int 1], hp, 0, 0)
      refine stp hm 1 (bF (by decide) ?_)
      refine stp hm 3 ?_
      show Q (some (.int 1)) hp
      exact qe h ((by decide +kernel : ∀ v, v < 49 → ((blkI (iZ (lrN v 2)) (iZ (lcN v 2)) = true)) → ((1 : Int32)) = iZ (hsN v 2)) v hv c3)
    · show sxWP sc cl Q 164 (13, [some (.int (nI v)), some (.int 2)], [.int 0], hp, 0, 0)
      refine stp hm 1 (bT (by decide) ?_)
      refine stp hm 2 ?_
      show Q (some (.int (-1))) hp
      exact qe h ((by decide +kernel : ∀ v, v < 49 → ((blkI (iZ (lrN v 2)) (iZ (lcN v 2)) = false)) → ((-1 : Int32)) = iZ (hsN v 2)) v hv c3)
  | 3, hw, h =>
    show call 164 [.int (nI v), .int 3] hp Q
    refine ent hc rfl (fun cl hE hm => ?_)
    refine stp hm 3 (m_leftRow (w := 3) hE hv (by decide) ?_)
    show sxWP sc cl Q 164 (5, [some (.int (nI v)), some (.int 3)], [.int (iZ (lrN v 3))], hp, 0, 0)
    refine stp hm 3 (m_leftColumn (w := 3) hE hv (by decide) ?_)
    show sxWP sc cl Q 164 (10, [some (.int (nI v)), some (.int 3)], [.int (iZ (lcN v 3)), .int (iZ (lrN v 3))], hp, 0, 0)
    refine stp hm 1 (m_isBlackAt hE (fun c3 => ?_) (fun c3 => ?_))
    · show sxWP sc cl Q 164 (13, [some (.int (nI v)), some (.int 3)], [.int 1], hp, 0, 0)
      refine stp hm 1 (bF (by decide) ?_)
      refine stp hm 3 ?_
      show Q (some (.int 1)) hp
      exact qe h ((by decide +kernel : ∀ v, v < 49 → ((blkI (iZ (lrN v 3)) (iZ (lcN v 3)) = true)) → ((1 : Int32)) = iZ (hsN v 3)) v hv c3)
    · show sxWP sc cl Q 164 (13, [some (.int (nI v)), some (.int 3)], [.int 0], hp, 0, 0)
      refine stp hm 1 (bT (by decide) ?_)
      refine stp hm 2 ?_
      show Q (some (.int (-1))) hp
      exact qe h ((by decide +kernel : ∀ v, v < 49 → ((blkI (iZ (lrN v 3)) (iZ (lcN v 3)) = false)) → ((-1 : Int32)) = iZ (hsN v 3)) v hv c3)
def blN (c : Nat) : Bool := decide ((c / 6 + c % 6) % 2 = 0)
set_option maxRecDepth 4000 in
theorem m_isBlack {c : Nat} (hc : call = sxE sc (d + 2)) (hc0 : c < 36) (h1 : blN c = true → Q (some (.int 1)) hp) (h0 : blN c = false → Q (some (.int 0)) hp) : call 145 [.int (nI c)] hp Q := by
  refine ent hc rfl (fun cl hE hm => ?_)
  refine stp hm 3 (And.intro (by decide) (?_ : sxWP sc cl Q 145 (4, [some (.int (nI c))], [.int ((nI c) / 6)], hp, 0, 0)))
  refine stp hm 3 (And.intro (by decide) (?_ : sxWP sc cl Q 145 (8, [some (.int (nI c))], [.int ((nI c) - (nI c) / 6 * 6), .int ((nI c) / 6)], hp, 0, 0)))
  refine stp hm 1 (m_isBlackAt hE (fun c1 => ?_) (fun c1 => ?_))
  · show sxWP sc cl Q 145 (11, [some (.int (nI c))], [.int 1], hp, 0, 0)
    refine stp hm 1 (And.intro (Or.inr rfl) ?_)
    show Q (some (.int 1)) hp
    exact h1 ((by decide +kernel : ∀ c, c < 36 → blkI ((nI c) / 6) ((nI c) - (nI c) / 6 * 6) = true → decide ((c / 6 + c % 6) % 2 = 0) = true) c hc0 c1)
  · show sxWP sc cl Q 145 (11, [some (.int (nI c))], [.int 0], hp, 0, 0)
    refine stp hm 1 (And.intro (Or.inl rfl) ?_)
    show Q (some (.int 0)) hp
    exact h0 ((by decide +kernel : ∀ c, c < 36 → blkI ((nI c) / 6) ((nI c) - (nI c) / 6 * 6) = false → decide ((c / 6 + c % 6) % 2 = 0) = false) c hc0 c1)
set_option maxRecDepth 4000 in
theorem m_isCell {x : Int32} (hc : call = sxE sc (d + 2)) (h1 : ¬ x < 0 → ¬ 35 < x → Q (some (.int 1)) hp) (h0 : (x < 0 ∨ 35 < x) → Q (some (.int 0)) hp) : call 140 [.int x] hp Q := by
  refine ent hc rfl (fun cl hE hm => ?_)
  refine stp hm 4 (x_isIn hE (fun c1a c1b => ?_) (fun c1 => ?_))
  · show sxWP sc cl Q 140 (7, [some (.int x)], [.int 1], hp, 0, 0)
    refine stp hm 1 (And.intro (Or.inr rfl) ?_)
    show Q (some (.int 1)) hp
    exact h1 c1a c1b
  · show sxWP sc cl Q 140 (7, [some (.int x)], [.int 0], hp, 0, 0)
    refine stp hm 1 (And.intro (Or.inl rfl) ?_)
    show Q (some (.int 0)) hp
    exact h0 c1
set_option maxRecDepth 4000 in
theorem m_isVertex {x : Int32} (hc : call = sxE sc (d + 2)) (h1 : ¬ x < 0 → ¬ 48 < x → Q (some (.int 1)) hp) (h0 : (x < 0 ∨ 48 < x) → Q (some (.int 0)) hp) : call 141 [.int x] hp Q := by
  refine ent hc rfl (fun cl hE hm => ?_)
  refine stp hm 4 (x_isIn hE (fun c1a c1b => ?_) (fun c1 => ?_))
  · show sxWP sc cl Q 141 (7, [some (.int x)], [.int 1], hp, 0, 0)
    refine stp hm 1 (And.intro (Or.inr rfl) ?_)
    show Q (some (.int 1)) hp
    exact h1 c1a c1b
  · show sxWP sc cl Q 141 (7, [some (.int x)], [.int 0], hp, 0, 0)
    refine stp hm 1 (And.intro (Or.inl rfl) ?_)
    show Q (some (.int 0)) hp
    exact h0 c1
set_option maxRecDepth 4000 in
theorem m_isKind {x : Int32} (hc : call = sxE sc (d + 2)) (h1 : ¬ x < 0 → ¬ 2 < x → Q (some (.int 1)) hp) (h0 : (x < 0 ∨ 2 < x) → Q (some (.int 0)) hp) : call 212 [.int x] hp Q := by
  refine ent hc rfl (fun cl hE hm => ?_)
  refine stp hm 4 (x_isIn hE (fun c1a c1b => ?_) (fun c1 => ?_))
  · show sxWP sc cl Q 212 (6, [some (.int x)], [.int 1], hp, 0, 0)
    refine stp hm 1 (And.intro (Or.inr rfl) ?_)
    show Q (some (.int 1)) hp
    exact h1 c1a c1b
  · show sxWP sc cl Q 212 (6, [some (.int x)], [.int 0], hp, 0, 0)
    refine stp hm 1 (And.intro (Or.inl rfl) ?_)
    show Q (some (.int 0)) hp
    exact h0 c1
set_option maxRecDepth 4000 in
theorem m_isTape {x : Int32} (hc : call = sxE sc (d + 2)) (h1 : ¬ x < 0 → ¬ 5 < x → Q (some (.int 1)) hp) (h0 : (x < 0 ∨ 5 < x) → Q (some (.int 0)) hp) : call 231 [.int x] hp Q := by
  refine ent hc rfl (fun cl hE hm => ?_)
  refine stp hm 4 (x_isIn hE (fun c1a c1b => ?_) (fun c1 => ?_))
  · show sxWP sc cl Q 231 (6, [some (.int x)], [.int 1], hp, 0, 0)
    refine stp hm 1 (And.intro (Or.inr rfl) ?_)
    show Q (some (.int 1)) hp
    exact h1 c1a c1b
  · show sxWP sc cl Q 231 (6, [some (.int x)], [.int 0], hp, 0, 0)
    refine stp hm 1 (And.intro (Or.inl rfl) ?_)
    show Q (some (.int 0)) hp
    exact h0 c1
set_option maxRecDepth 4000 in
theorem m_isOnGround {r c : Int32} (hc : call = sxE sc (d + 2)) (h1 : ¬ r < 0 → ¬ 5 < r → ¬ c < 0 → ¬ 5 < c → Q (some (.int 1)) hp) (h0 : ((r < 0 ∨ 5 < r) ∨ (c < 0 ∨ 5 < c)) → Q (some (.int 0)) hp) : call 196 [.int r, .int c] hp Q := by
  refine ent hc rfl (fun cl hE hm => ?_)
  refine stp hm 4 (x_isIn hE (fun c1a c1b => ?_) (fun c1 => ?_))
  · show sxWP sc cl Q 196 (6, [some (.int r), some (.int c)], [.int 1], hp, 0, 0)
    refine stp hm 1 (bF (by decide) ?_)
    refine stp hm 4 (x_isIn hE (fun c2a c2b => ?_) (fun c2 => ?_))
    · show sxWP sc cl Q 196 (15, [some (.int r), some (.int c)], [.int 1], hp, 0, 0)
      refine stp hm 1 (bF (by decide) ?_)
      refine stp hm 3 (And.intro (Or.inr rfl) ?_)
      show Q (some (.int 1)) hp
      exact h1 c1a c1b c2a c2b
    · show sxWP sc cl Q 196 (15, [some (.int r), some (.int c)], [.int 0], hp, 0, 0)
      refine stp hm 1 (bT (by decide) ?_)
      refine stp hm 2 (And.intro (Or.inl rfl) ?_)
      show Q (some (.int 0)) hp
      exact h0 (Or.inr c2)
  · show sxWP sc cl Q 196 (6, [some (.int r), some (.int c)], [.int 0], hp, 0, 0)
    refine stp hm 1 (bT (by decide) ?_)
    refine stp hm 2 (And.intro (Or.inl rfl) ?_)
    show Q (some (.int 0)) hp
    exact h0 (Or.inl c1)
theorem b6_test {w : Int64} {k : Nat} (hk : k < 64) : ((w.toUInt64 >>> ((nI k).toInt64.toUInt64 &&& Int64.toUInt64 63)).toInt64 &&& 1 = 0) ↔ b6 w k = false := by
  constructor
  · intro h
    have h1 := congrArg (fun x => b6 x 0) h
    simp only [b6_and, b6_ushr k hk, b6_0, b6_1] at h1
    simpa using h1
  · intro h
    apply b6_ext
    intro i hi
    rw [b6_and, b6_ushr k hk, b6_0, b6_1]
    by_cases q : i = 0
    · subst q; simp [h]
    · simp [q]
theorem b6_testS {w : Int64} {k : Nat} (hk : k < 64) : (w >>> ((nI k).toInt64 &&& 63)) &&& 1 = 1 ↔ b6 w k = true := by
  constructor
  · intro h
    have h1 := congrArg (fun x => b6 x 0) h
    simp only [b6_and, b6_sshr k hk w (i := 0) (by decide), b6_1] at h1
    simpa [hk] using h1
  · intro h
    apply b6_ext
    intro i hi
    rw [b6_and, b6_1]
    by_cases q : i = 0
    · subst q
      rw [b6_sshr k hk w (i := 0) (by decide)]
      simp [h, hk]
    · simp [q]
theorem hzcase {z : Int} (h : -1 ≤ z ∧ z < 36) : iZ z = -1 ∧ z = -1 ∨ ∃ k : Nat, k < 36 ∧ iZ z = nI k ∧ z = k := by
  rcases (show z = -1 ∨ 0 ≤ z by omega) with q | q
  · subst q; exact Or.inl ⟨by decide, rfl⟩
  · refine Or.inr ⟨z.toNat, by omega, ?_, by omega⟩
    rw [iZ_nI]
    congr 1
    omega
theorem bnf {b : Bool} (h : ¬ b = false) : b = true := by cases b with
  | true => rfl
  | false => exact absurd rfl h
theorem hz_k (w : Int64) (k : Nat) : hz w (k : Int) = b6 w k := by simp [hz]
theorem nI_nlt0 : ∀ k, k < 36 → ¬ nI k < 0 ∧ ¬ 36 ≤ nI k := by decide +kernel
set_option maxRecDepth 4000 in
theorem x_holdsN {w : Int64} {k : Nat} (hc : call = sxE sc (d + 2)) (hk : k < 36) (h1 : hz w k = true → Q (some (.int 1)) hp) (h0 : hz w k = false → Q (some (.int 0)) hp) : call 6 [.long w, .int (nI k)] hp Q := by
  refine ent hc rfl (fun cl hE hm => ?_)
  refine stp hm 2 (x_isCell hE (fun c1a c1b => ?_) (fun c1 => ?_))
  · show sxWP sc cl Q 6 (4, [some (.long w), none, some (.int (nI k))], [.int 1], hp, 0, 0)
    refine stp hm 1 (bF (by decide) ?_)
    refine stp hm 8 (And.intro (fun c2 => ?_) (fun c2 => ?_))
    · have c2 : (lg_cmp (((w.toUInt64 >>> ((nI k).toInt64.toUInt64 &&& Int64.toUInt64 63)).toInt64) &&& 1) 0) = 0 := c2
      refine stp hm 2 (And.intro (Or.inl rfl) ?_)
      show Q (some (.int 0)) hp
      exact h0 (by rw [hz_k]; exact (b6_test (by omega)).mp ((lg_cmp_eq _ _).mp c2))
    · have c2 : ¬ (lg_cmp (((w.toUInt64 >>> ((nI k).toInt64.toUInt64 &&& Int64.toUInt64 63)).toInt64) &&& 1) 0) = 0 := c2
      refine stp hm 3 (And.intro (Or.inr rfl) ?_)
      show Q (some (.int 1)) hp
      exact h1 (by rw [hz_k]; exact bnf (fun q => c2 ((lg_cmp_eq _ _).mpr ((b6_test (by omega)).mpr q))))
  · show sxWP sc cl Q 6 (4, [some (.long w), none, some (.int (nI k))], [.int 0], hp, 0, 0)
    refine stp hm 1 (bT (by decide) ?_)
    refine stp hm 2 (And.intro (Or.inl rfl) ?_)
    show Q (some (.int 0)) hp
    exact absurd c1 (fun q => q.elim (nI_nlt0 k hk).1 (nI_nlt0 k hk).2)
set_option maxRecDepth 4000 in
theorem x_holdsM {w : Int64} (hc : call = sxE sc (d + 2)) (h : Q (some (.int 0)) hp) : call 6 [.long w, .int (-1)] hp Q := by
  refine ent hc rfl (fun cl hE hm => ?_)
  refine stp hm 2 (x_isCell hE (fun c1a c1b => ?_) (fun c1 => ?_))
  · show sxWP sc cl Q 6 (4, [some (.long w), none, some (.int (-1))], [.int 1], hp, 0, 0)
    refine stp hm 1 (bF (by decide) ?_)
    refine stp hm 8 (And.intro (fun c2 => ?_) (fun c2 => ?_))
    · have c2 : (lg_cmp (((w.toUInt64 >>> ((-1 : Int32).toInt64.toUInt64 &&& Int64.toUInt64 63)).toInt64) &&& 1) 0) = 0 := c2
      refine stp hm 2 (And.intro (Or.inl rfl) ?_)
      show Q (some (.int 0)) hp
      exact absurd (show (-1 : Int32) < 0 by decide) c1a
    · have c2 : ¬ (lg_cmp (((w.toUInt64 >>> ((-1 : Int32).toInt64.toUInt64 &&& Int64.toUInt64 63)).toInt64) &&& 1) 0) = 0 := c2
      refine stp hm 3 (And.intro (Or.inr rfl) ?_)
      show Q (some (.int 1)) hp
      exact absurd (show (-1 : Int32) < 0 by decide) c1a
  · show sxWP sc cl Q 6 (4, [some (.long w), none, some (.int (-1))], [.int 0], hp, 0, 0)
    refine stp hm 1 (bT (by decide) ?_)
    refine stp hm 2 (And.intro (Or.inl rfl) ?_)
    show Q (some (.int 0)) hp
    exact h
theorem x_holds {w : Int64} {z : Int} (hc : call = sxE sc (d + 2)) (hz0 : -1 ≤ z ∧ z < 36) (h1 : hz w z = true → Q (some (.int 1)) hp) (h0 : hz w z = false → Q (some (.int 0)) hp) : call 6 [.long w, .int (iZ z)] hp Q := by
  rcases hzcase hz0 with ⟨e, rfl⟩ | ⟨k, hk, e, rfl⟩
  · rw [e]; exact x_holdsM hc (h0 rfl)
  · rw [e]; exact x_holdsN hc hk h1 h0
end PURE
