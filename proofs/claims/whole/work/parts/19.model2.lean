/-! the reference: cells of the region -/
section PT
variable {sc : sxS} {d : Nat} {Q : sxR} {hp : sxH} {call : sxX} {nw kp : tSt} {im : Int32} {ol : tOl} {sn : tSn} {sr : tSc} {tp : Nat → tTp} {mk : tMk} {mg : tMg} {mt : tMt} {mc : tMc} {T : sxH}
/-- how many places below n have it -/
def cnt (f : Nat → Bool) : Nat → Nat
  | 0 => 0
  | n + 1 => cnt f n + (if f n then 1 else 0)
theorem cnt_le (f : Nat → Bool) : ∀ n, cnt f n ≤ n
  | 0 => Nat.le_refl _
  | n + 1 => by
    have := cnt_le f n
    unfold cnt
    split <;> omega
theorem cnt_s1 {f : Nat → Bool} {n : Nat} (h : f n = true) : nI (cnt f n) + 1 = nI (cnt f (n + 1)) := by
  rw [nI_1]; congr 1; simp [cnt, h]
theorem cnt_s0 {f : Nat → Bool} {n : Nat} (h : f n = false) : nI (cnt f n) + 0 = nI (cnt f (n + 1)) := by
  have e : cnt f (n + 1) = cnt f n := by simp [cnt, h]
  rw [e]
  exact Int32.add_zero _
set_option maxRecDepth 10000 in
theorem m_has {k : Nat} (hc : call = sxE sc (d + 1)) (hk : k < 64) (h1 : b6 mk.1 k = true → Q (some (.int 1)) (cW nw kp im ol sn sr tp (mW mk mg mt mc T))) (h0 : b6 mk.1 k = false → Q (some (.int 0)) (cW nw kp im ol sn sr tp (mW mk mg mt mc T))) : call 142 [.ref 59, .int (nI k)] (cW nw kp im ol sn sr tp (mW mk mg mt mc T)) Q := by
  refine ent hc rfl (fun cl hE hm => ?_)
  refine stp hm 9 (And.intro (fun c1 => ?_) (fun c1 => ?_))
  · have c1 : ¬ (lg_cmp ((mk.1 >>> ((nI k).toInt64 &&& 63)) &&& 1) 1) = 0 := c1
    refine stp hm 2 (And.intro (Or.inl rfl) ?_)
    show Q (some (.int 0)) (cW nw kp im ol sn sr tp (mW mk mg mt mc T))
    exact h0 (by cases hq : b6 mk.1 k with
    | false => rfl
    | true => exact absurd ((lg_cmp_eq _ _).mpr ((b6_testS (by omega)).mpr hq)) c1)
  · have c1 : (lg_cmp ((mk.1 >>> ((nI k).toInt64 &&& 63)) &&& 1) 1) = 0 := c1
    refine stp hm 3 (And.intro (Or.inr rfl) ?_)
    show Q (some (.int 1)) (cW nw kp im ol sn sr tp (mW mk mg mt mc T))
    exact h1 ((b6_testS (by omega)).mp ((lg_cmp_eq _ _).mp c1))
set_option maxRecDepth 10000 in
theorem m_cells  (hc : call = sxE sc (d + 2)) (h : Q (some (.int (nI (cnt (b6 mk.1) 36)))) (cW nw kp im ol sn sr tp (mW mk mg mt mc T))) : call 146 [.ref 59] (cW nw kp im ol sn sr tp (mW mk mg mt mc T)) Q := by
  refine ent hc rfl (fun cl hE hm => ?_)
  have loop : ∀ n k, k + n = 36 → sxWP sc cl Q 146 (4, [some (.ref 59), some (.int (nI (cnt (b6 mk.1) k))), some (.int (nI k))], [], (cW nw kp im ol sn sr tp (mW mk mg mt mc T)), 0, 0) := by
    intro n
    induction n with
    | zero =>
      intro k hk
      have hk : k = 36 := by omega
      subst hk
      refine stp hm 3 (bT (geT (n := 36) (by omega) (by omega)) ?_)
      refine stp hm 2 ?_
      show Q (some (.int (nI (cnt (b6 mk.1) 36)))) (cW nw kp im ol sn sr tp (mW mk mg mt mc T))
      exact h
    | succ n ih =>
      intro k hk
      refine stp hm 3 (bF (geF (n := 36) (by omega) (by decide)) ?_)
      refine stp hm 4 (m_has hE (by omega) (fun c1 => ?_) (fun c1 => ?_))
      · show sxWP sc cl Q 146 (16, [some (.ref 59), some (.int (nI (cnt (b6 mk.1) k))), some (.int (nI k))], [.int 1, .int (nI (cnt (b6 mk.1) k))], (cW nw kp im ol sn sr tp (mW mk mg mt mc T)), 0, 0)
        refine stp hm 1 (bF (by decide) ?_)
        refine stp hm 6 (?_ : sxWP sc cl Q 146 (4, [some (.ref 59), some (.int ((nI (cnt (b6 mk.1) k)) + 1)), some (.int ((nI k) + 1))], [], (cW nw kp im ol sn sr tp (mW mk mg mt mc T)), 0, 0))
        rw [cnt_s1 c1, nI_1]
        exact ih (k + 1) (by omega)
      · show sxWP sc cl Q 146 (16, [some (.ref 59), some (.int (nI (cnt (b6 mk.1) k))), some (.int (nI k))], [.int 0, .int (nI (cnt (b6 mk.1) k))], (cW nw kp im ol sn sr tp (mW mk mg mt mc T)), 0, 0)
        refine stp hm 1 (bT (by decide) ?_)
        refine stp hm 5 (?_ : sxWP sc cl Q 146 (4, [some (.ref 59), some (.int ((nI (cnt (b6 mk.1) k)) + 0)), some (.int ((nI k) + 1))], [], (cW nw kp im ol sn sr tp (mW mk mg mt mc T)), 0, 0))
        rw [cnt_s0 c1, nI_1]
        exact ih (k + 1) (by omega)
  refine stp hm 4 (?_ : sxWP sc cl Q 146 (4, [some (.ref 59), some (.int 0), some (.int 0)], [], (cW nw kp im ol sn sr tp (mW mk mg mt mc T)), 0, 0))
  exact loop 36 0 rfl
set_option maxRecDepth 10000 in
theorem m_blacks  (hc : call = sxE sc (d + 3)) (h : Q (some (.int (nI (cnt (fun i => b6 mk.1 i && blN i) 36)))) (cW nw kp im ol sn sr tp (mW mk mg mt mc T))) : call 147 [.ref 59] (cW nw kp im ol sn sr tp (mW mk mg mt mc T)) Q := by
  refine ent hc rfl (fun cl hE hm => ?_)
  have loop : ∀ n k, k + n = 36 → sxWP sc cl Q 147 (4, [some (.ref 59), some (.int (nI (cnt (fun i => b6 mk.1 i && blN i) k))), some (.int (nI k))], [], (cW nw kp im ol sn sr tp (mW mk mg mt mc T)), 0, 0) := by
    intro n
    induction n with
    | zero =>
      intro k hk
      have hk : k = 36 := by omega
      subst hk
      refine stp hm 3 (bT (geT (n := 36) (by omega) (by omega)) ?_)
      refine stp hm 2 ?_
      show Q (some (.int (nI (cnt (fun i => b6 mk.1 i && blN i) 36)))) (cW nw kp im ol sn sr tp (mW mk mg mt mc T))
      exact h
    | succ n ih =>
      intro k hk
      refine stp hm 3 (bF (geF (n := 36) (by omega) (by decide)) ?_)
      refine stp hm 4 (m_has hE (by omega) (fun c1 => ?_) (fun c1 => ?_))
      · show sxWP sc cl Q 147 (16, [some (.ref 59), some (.int (nI (cnt (fun i => b6 mk.1 i && blN i) k))), some (.int (nI k))], [.int 1, .int (nI (cnt (fun i => b6 mk.1 i && blN i) k))], (cW nw kp im ol sn sr tp (mW mk mg mt mc T)), 0, 0)
        refine stp hm 1 (bF (by decide) ?_)
        refine stp hm 2 (m_isBlack hE (by omega) (fun c2 => ?_) (fun c2 => ?_))
        · show sxWP sc cl Q 147 (23, [some (.ref 59), some (.int (nI (cnt (fun i => b6 mk.1 i && blN i) k))), some (.int (nI k))], [.int 1, .int (nI (cnt (fun i => b6 mk.1 i && blN i) k))], (cW nw kp im ol sn sr tp (mW mk mg mt mc T)), 0, 0)
          refine stp hm 1 (bF (by decide) ?_)
          refine stp hm 6 (?_ : sxWP sc cl Q 147 (4, [some (.ref 59), some (.int ((nI (cnt (fun i => b6 mk.1 i && blN i) k)) + 1)), some (.int ((nI k) + 1))], [], (cW nw kp im ol sn sr tp (mW mk mg mt mc T)), 0, 0))
          rw [cnt_s1 (f := (fun i => b6 mk.1 i && blN i)) (by simp [c2, c1]), nI_1]
          exact ih (k + 1) (by omega)
        · show sxWP sc cl Q 147 (23, [some (.ref 59), some (.int (nI (cnt (fun i => b6 mk.1 i && blN i) k))), some (.int (nI k))], [.int 0, .int (nI (cnt (fun i => b6 mk.1 i && blN i) k))], (cW nw kp im ol sn sr tp (mW mk mg mt mc T)), 0, 0)
          refine stp hm 1 (bT (by decide) ?_)
          refine stp hm 5 (?_ : sxWP sc cl Q 147 (4, [some (.ref 59), some (.int ((nI (cnt (fun i => b6 mk.1 i && blN i) k)) + 0)), some (.int ((nI k) + 1))], [], (cW nw kp im ol sn sr tp (mW mk mg mt mc T)), 0, 0))
          rw [cnt_s0 (f := (fun i => b6 mk.1 i && blN i)) (by simp [c2, c1]), nI_1]
          exact ih (k + 1) (by omega)
      · show sxWP sc cl Q 147 (16, [some (.ref 59), some (.int (nI (cnt (fun i => b6 mk.1 i && blN i) k))), some (.int (nI k))], [.int 0, .int (nI (cnt (fun i => b6 mk.1 i && blN i) k))], (cW nw kp im ol sn sr tp (mW mk mg mt mc T)), 0, 0)
        refine stp hm 1 (bT (by decide) ?_)
        refine stp hm 5 (?_ : sxWP sc cl Q 147 (4, [some (.ref 59), some (.int ((nI (cnt (fun i => b6 mk.1 i && blN i) k)) + 0)), some (.int ((nI k) + 1))], [], (cW nw kp im ol sn sr tp (mW mk mg mt mc T)), 0, 0))
        rw [cnt_s0 (f := (fun i => b6 mk.1 i && blN i)) (by simp [c1]), nI_1]
        exact ih (k + 1) (by omega)
  refine stp hm 4 (?_ : sxWP sc cl Q 147 (4, [some (.ref 59), some (.int 0), some (.int 0)], [], (cW nw kp im ol sn sr tp (mW mk mg mt mc T)), 0, 0))
  exact loop 36 0 rfl
def clK (s : Nat → Int32) (k : Nat) : Nat → Int32 := fun j => if j = 0 then 0 else if 6 ≤ j ∧ j < 6 + k then -5 else s j
theorem clK_0 (s : Nat → Int32) : upd s (0 : Int32).toNatClampNeg 0 = clK s 0 := by
  funext j
  have e : (0 : Int32).toNatClampNeg = 0 := by decide
  have : ¬ (6 ≤ j ∧ j < 6 + 0) := by omega
  simp [upd, clK, e, this]
theorem clK_s (s : Nat → Int32) (k : Nat) (h : k < 36) : upd (clK s k) (6 + nI k).toNatClampNeg (-5) = clK s (k + 1) := by
  have e : (6 + nI k).toNatClampNeg = 6 + k := by
    have : (6 : Int32) + nI k = nI (6 + k) := nI_add 6 k
    rw [this, nI_clamp (by omega)]
  rw [e]
  funext j
  simp only [upd, clK]
  by_cases q : j = 6 + k
  · subst q
    have : ¬ 6 + k = 0 := by omega
    simp [this]
  · by_cases q0 : j = 0
    · subst q0
      have : ¬ 0 = 6 + k := by omega
      simp [this]
    · have e2 : (6 ≤ j ∧ j < 6 + (k + 1)) ↔ (6 ≤ j ∧ j < 6 + k) := by omega
      simp [q, q0, e2]
theorem in6 {k : Nat} (h : k < 36) : vp_in (6 + nI k) 122 := by
  have : (6 : Int32) + nI k = nI (6 + k) := nI_add 6 k
  rw [this]
  exact inN (by omega) (by decide)
set_option maxRecDepth 10000 in
theorem m_clears  (hc : call = sxE sc (d + 1)) (h : Q none (cW nw kp im ol sn sr tp (mW (mk.1, mk.2.1, (clK mk.2.2.1 36), mk.2.2.2.1, mk.2.2.2.2.1, mk.2.2.2.2.2.1, mk.2.2.2.2.2.2.1, mk.2.2.2.2.2.2.2.1, mk.2.2.2.2.2.2.2.2.1, mk.2.2.2.2.2.2.2.2.2) mg mt mc T))) : call 149 [.ref 59] (cW nw kp im ol sn sr tp (mW mk mg mt mc T)) Q := by
  refine ent hc rfl (fun cl hE hm => ?_)
  have loop : ∀ n k, k + n = 36 → sxWP sc cl Q 149 (9, [some (.ref 59), some (.int (nI k))], [], (cW nw kp im ol sn sr tp (mW (mk.1, mk.2.1, (clK mk.2.2.1 k), mk.2.2.2.1, mk.2.2.2.2.1, mk.2.2.2.2.2.1, mk.2.2.2.2.2.2.1, mk.2.2.2.2.2.2.2.1, mk.2.2.2.2.2.2.2.2.1, mk.2.2.2.2.2.2.2.2.2) mg mt mc T)), 0, 0) := by
    intro n
    induction n with
    | zero =>
      intro k hk
      have hk : k = 36 := by omega
      subst hk
      refine stp hm 3 (bT (geT (n := 36) (by omega) (by omega)) ?_)
      refine stp hm 1 ?_
      show Q none (cW nw kp im ol sn sr tp (mW (mk.1, mk.2.1, (clK mk.2.2.1 36), mk.2.2.2.1, mk.2.2.2.2.1, mk.2.2.2.2.2.1, mk.2.2.2.2.2.2.1, mk.2.2.2.2.2.2.2.1, mk.2.2.2.2.2.2.2.2.1, mk.2.2.2.2.2.2.2.2.2) mg mt mc T))
      exact h
    | succ n ih =>
      intro k hk
      refine stp hm 3 (bF (geF (n := 36) (by omega) (by decide)) ?_)
      refine stp hm 7 (And.intro (in6 (by omega)) (?_ : sxWP sc cl Q 149 (26, [some (.ref 59), some (.int (nI k))], [], (cW nw kp im ol sn sr tp (mW (mk.1, mk.2.1, (upd (clK mk.2.2.1 k) (6 + (nI k)).toNatClampNeg (-5)), mk.2.2.2.1, mk.2.2.2.2.1, mk.2.2.2.2.2.1, mk.2.2.2.2.2.2.1, mk.2.2.2.2.2.2.2.1, mk.2.2.2.2.2.2.2.2.1, mk.2.2.2.2.2.2.2.2.2) mg mt mc T)), 0, 0)))
      refine stp hm 2 (?_ : sxWP sc cl Q 149 (9, [some (.ref 59), some (.int ((nI k) + 1))], [], (cW nw kp im ol sn sr tp (mW (mk.1, mk.2.1, (upd (clK mk.2.2.1 k) (6 + (nI k)).toNatClampNeg (-5)), mk.2.2.2.1, mk.2.2.2.2.1, mk.2.2.2.2.2.1, mk.2.2.2.2.2.2.1, mk.2.2.2.2.2.2.2.1, mk.2.2.2.2.2.2.2.2.1, mk.2.2.2.2.2.2.2.2.2) mg mt mc T)), 0, 0))
      rw [clK_s _ k (by omega), nI_1]
      exact ih (k + 1) (by omega)
  refine stp hm 5 (And.intro (inN (k := 0) (by decide) (by decide)) (?_ : sxWP sc cl Q 149 (7, [some (.ref 59), none], [], (cW nw kp im ol sn sr tp (mW (mk.1, mk.2.1, (upd mk.2.2.1 (0 : Int32).toNatClampNeg 0), mk.2.2.2.1, mk.2.2.2.2.1, mk.2.2.2.2.2.1, mk.2.2.2.2.2.2.1, mk.2.2.2.2.2.2.2.1, mk.2.2.2.2.2.2.2.2.1, mk.2.2.2.2.2.2.2.2.2) mg mt mc T)), 0, 0)))
  refine stp hm 2 (?_ : sxWP sc cl Q 149 (9, [some (.ref 59), some (.int 0)], [], (cW nw kp im ol sn sr tp (mW (mk.1, mk.2.1, (upd mk.2.2.1 (0 : Int32).toNatClampNeg 0), mk.2.2.2.1, mk.2.2.2.2.1, mk.2.2.2.2.2.1, mk.2.2.2.2.2.2.1, mk.2.2.2.2.2.2.2.1, mk.2.2.2.2.2.2.2.2.1, mk.2.2.2.2.2.2.2.2.2) mg mt mc T)), 0, 0))
  rw [clK_0]
  exact loop 36 0 rfl
set_option maxRecDepth 10000 in
theorem m_becomes {x : Int64} (hc : call = sxE sc (d + 2)) (h1 : ¬ x = mk.1 → Q none (cW nw kp im ol sn sr tp (mW (x, mk.2.1, (clK mk.2.2.1 36), mk.2.2.2.1, mk.2.2.2.2.1, mk.2.2.2.2.2.1, mk.2.2.2.2.2.2.1, mk.2.2.2.2.2.2.2.1, mk.2.2.2.2.2.2.2.2.1, mk.2.2.2.2.2.2.2.2.2) mg mt mc T))) (h0 : x = mk.1 → Q none (cW nw kp im ol sn sr tp (mW (x, mk.2.1, mk.2.2.1, mk.2.2.2.1, mk.2.2.2.2.1, mk.2.2.2.2.2.1, mk.2.2.2.2.2.2.1, mk.2.2.2.2.2.2.2.1, mk.2.2.2.2.2.2.2.2.1, mk.2.2.2.2.2.2.2.2.2) mg mt mc T))) : call 150 [.ref 59, .long x] (cW nw kp im ol sn sr tp (mW mk mg mt mc T)) Q := by
  refine ent hc rfl (fun cl hE hm => ?_)
  refine stp hm 5 (And.intro (fun c1 => ?_) (fun c1 => ?_))
  · have c1 : (lg_cmp x mk.1) = 0 := c1
    refine stp hm 4 ?_
    show Q none (cW nw kp im ol sn sr tp (mW (x, mk.2.1, mk.2.2.1, mk.2.2.2.1, mk.2.2.2.2.1, mk.2.2.2.2.2.1, mk.2.2.2.2.2.2.1, mk.2.2.2.2.2.2.2.1, mk.2.2.2.2.2.2.2.2.1, mk.2.2.2.2.2.2.2.2.2) mg mt mc T))
    exact h0 ((lg_cmp_eq _ _).mp c1)
  · have c1 : ¬ (lg_cmp x mk.1) = 0 := c1
    refine stp hm 2 (m_clears hE ?_)
    show sxWP sc cl Q 150 (13, [some (.ref 59), some (.long x), none], [], (cW nw kp im ol sn sr tp (mW (mk.1, mk.2.1, (clK mk.2.2.1 36), mk.2.2.2.1, mk.2.2.2.2.1, mk.2.2.2.2.2.1, mk.2.2.2.2.2.2.1, mk.2.2.2.2.2.2.2.1, mk.2.2.2.2.2.2.2.2.1, mk.2.2.2.2.2.2.2.2.2) mg mt mc T)), 0, 0)
    refine stp hm 4 ?_
    show Q none (cW nw kp im ol sn sr tp (mW (x, mk.2.1, (clK mk.2.2.1 36), mk.2.2.2.1, mk.2.2.2.2.1, mk.2.2.2.2.2.1, mk.2.2.2.2.2.2.1, mk.2.2.2.2.2.2.2.1, mk.2.2.2.2.2.2.2.2.1, mk.2.2.2.2.2.2.2.2.2) mg mt mc T))
    exact h1 (fun q => c1 ((lg_cmp_eq _ _).mpr q))
end PT
