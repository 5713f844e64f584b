/-! range checks, decided -/
section PT
variable {sc : sxS} {d : Nat} {Q : sxR} {hp : sxH} {call : sxX} {nw kp : tSt} {im : Int32} {ol : tOl} {sn : tSn} {sr : tSc} {tp : Nat → tTp} {mk : tMk} {mg : tMg} {mt : tMt} {mc : tMc} {T : sxH}
/-- beyond 0 .. n - 1 -/
def oor (n : Nat) (x : Int32) : Prop := x < 0 ∨ nI n ≤ x
theorem oor_or {n : Nat} (hn : n < 2 ^ 31) (x : Int32) : oor n x ∨ ∃ v : Nat, v < n ∧ x = nI v := by
  rcases pk_ix x hn with h | h | h
  · exact Or.inl (Or.inl h)
  · exact Or.inl (Or.inr h)
  · exact Or.inr h
theorem rgT {v n : Nat} (hv : v < n) (hn : n < 2 ^ 31) : ¬ (nI v < 0 ∨ nI n ≤ nI v) := fun o => o.elim (nI_pos (by omega)) (nI_ge hv hn)
theorem rgU {v m : Nat} (hv : v ≤ m) (hn : m < 2 ^ 31) : ¬ (nI v < 0 ∨ nI m < nI v) := fun o => o.elim (nI_pos (by omega)) (nI_nlt hv hn)
theorem lt_succ {x : Int32} {m : Nat} (hm : m + 1 < 2 ^ 31) : nI (m + 1) ≤ x ↔ nI m < x := by
  rw [Int32.le_iff_toInt_le, Int32.lt_iff_toInt_lt, nI_toInt hm, nI_toInt (by omega)]
  omega
theorem rgF {x : Int32} {m : Nat} (hm : m + 1 < 2 ^ 31) (h : oor (m + 1) x) : x < 0 ∨ nI m < x := h.imp id (lt_succ hm).mp
theorem oor_lt {x : Int32} {n : Nat} (hn : n < 2 ^ 31) (h : nI n ≤ x) : ¬ x < 0 := fun q => by
  rw [Int32.le_iff_toInt_le, nI_toInt hn] at h
  rw [Int32.lt_iff_toInt_lt] at q
  have e : (0 : Int32).toInt = 0 := rfl
  omega
theorem iZ_0le {z : Int} (h : sm z) : 0 ≤ iZ z ↔ 0 ≤ z := by
  have := iZ_le (a := 0) (b := z) (by unfold sm; omega) h
  exact this
theorem iZ_lt0 {z : Int} (h : sm z) : iZ z < 0 ↔ z < 0 := by
  have := iZ_lt (a := z) (b := 0) h (by unfold sm; omega)
  exact this
theorem iZ_em1 {z : Int} (h : sm z) : iZ z = -1 ↔ z = -1 := by
  rw [show (-1 : Int32) = iZ (-1) by decide]
  exact iZ_eq h (by unfold sm; omega)
theorem oor_ne {x : Int32} {n v : Nat} (hn : n < 2 ^ 31) (h : oor n x) (hv : v < n) : ¬ x = nI v := fun e => by
  subst e
  exact rgT hv hn h
theorem x_isCellT {v : Nat} (hc : call = sxE sc (d + 1)) (hv : v < 36) (h : Q (some (.int 1)) hp) : call 2 [.int (nI v)] hp Q := x_isCell hc (fun _ _ => h) (fun o => absurd o (rgT hv (by decide)))
theorem x_isCellF {x : Int32} (hc : call = sxE sc (d + 1)) (h : oor 36 x) (q : Q (some (.int 0)) hp) : call 2 [.int x] hp Q := x_isCell hc (fun a b => absurd (h) (fun o => o.elim a b)) (fun _ => q)
theorem x_isVertexT {v : Nat} (hc : call = sxE sc (d + 1)) (hv : v < 49) (h : Q (some (.int 1)) hp) : call 3 [.int (nI v)] hp Q := x_isVertex hc (fun _ _ => h) (fun o => absurd o (rgT hv (by decide)))
theorem x_isVertexF {x : Int32} (hc : call = sxE sc (d + 1)) (h : oor 49 x) (q : Q (some (.int 0)) hp) : call 3 [.int x] hp Q := x_isVertex hc (fun a b => absurd (h) (fun o => o.elim a b)) (fun _ => q)
theorem x_isTapeT {v : Nat} (hc : call = sxE sc (d + 1)) (hv : v < 6) (h : Q (some (.int 1)) hp) : call 135 [.int (nI v)] hp Q := x_isTape hc (fun _ _ => h) (fun o => absurd o (rgT hv (by decide)))
theorem x_isTapeF {x : Int32} (hc : call = sxE sc (d + 1)) (h : oor 6 x) (q : Q (some (.int 0)) hp) : call 135 [.int x] hp Q := x_isTape hc (fun a b => absurd (h) (fun o => o.elim a b)) (fun _ => q)
theorem x_isKindT {v : Nat} (hc : call = sxE sc (d + 1)) (hv : v < 3) (h : Q (some (.int 1)) hp) : call 72 [.int (nI v)] hp Q := x_isKind hc (fun _ _ => h) (fun o => absurd o (rgU (m := 2) (by omega) (by decide)))
theorem x_isKindF {x : Int32} (hc : call = sxE sc (d + 1)) (h : oor 3 x) (q : Q (some (.int 0)) hp) : call 72 [.int x] hp Q := x_isKind hc (fun a b => absurd (rgF (m := 2) (by decide) h) (fun o => o.elim a b)) (fun _ => q)
theorem m_isCellT {v : Nat} (hc : call = sxE sc (d + 2)) (hv : v < 36) (h : Q (some (.int 1)) hp) : call 140 [.int (nI v)] hp Q := m_isCell hc (fun _ _ => h) (fun o => absurd o (rgU (m := 35) (by omega) (by decide)))
theorem m_isCellF {x : Int32} (hc : call = sxE sc (d + 2)) (h : oor 36 x) (q : Q (some (.int 0)) hp) : call 140 [.int x] hp Q := m_isCell hc (fun a b => absurd (rgF (m := 35) (by decide) h) (fun o => o.elim a b)) (fun _ => q)
theorem m_isVertexT {v : Nat} (hc : call = sxE sc (d + 2)) (hv : v < 49) (h : Q (some (.int 1)) hp) : call 141 [.int (nI v)] hp Q := m_isVertex hc (fun _ _ => h) (fun o => absurd o (rgU (m := 48) (by omega) (by decide)))
theorem m_isVertexF {x : Int32} (hc : call = sxE sc (d + 2)) (h : oor 49 x) (q : Q (some (.int 0)) hp) : call 141 [.int x] hp Q := m_isVertex hc (fun a b => absurd (rgF (m := 48) (by decide) h) (fun o => o.elim a b)) (fun _ => q)
theorem m_isKindT {v : Nat} (hc : call = sxE sc (d + 2)) (hv : v < 3) (h : Q (some (.int 1)) hp) : call 212 [.int (nI v)] hp Q := m_isKind hc (fun _ _ => h) (fun o => absurd o (rgU (m := 2) (by omega) (by decide)))
theorem m_isKindF {x : Int32} (hc : call = sxE sc (d + 2)) (h : oor 3 x) (q : Q (some (.int 0)) hp) : call 212 [.int x] hp Q := m_isKind hc (fun a b => absurd (rgF (m := 2) (by decide) h) (fun o => o.elim a b)) (fun _ => q)
theorem m_isTapeT {v : Nat} (hc : call = sxE sc (d + 2)) (hv : v < 6) (h : Q (some (.int 1)) hp) : call 231 [.int (nI v)] hp Q := m_isTape hc (fun _ _ => h) (fun o => absurd o (rgU (m := 5) (by omega) (by decide)))
theorem m_isTapeF {x : Int32} (hc : call = sxE sc (d + 2)) (h : oor 6 x) (q : Q (some (.int 0)) hp) : call 231 [.int x] hp Q := m_isTape hc (fun a b => absurd (rgF (m := 5) (by decide) h) (fun o => o.elim a b)) (fun _ => q)
theorem x_isBitT {v : Nat} (hc : call = sxE sc (d + 1)) (hv : v < 2) (h : Q (some (.int 1)) hp) : call 136 [.int (nI v)] hp Q := x_isBit hc (fun _ => h) (fun a b => by
  rcases (by omega : v = 0 ∨ v = 1) with e | e <;> subst e
  · exact absurd rfl a
  · exact absurd rfl b)
theorem x_isBitF {x : Int32} (hc : call = sxE sc (d + 1)) (h : oor 2 x) (q : Q (some (.int 0)) hp) : call 136 [.int x] hp Q := x_isBit hc (fun o => o.elim (fun e => absurd e (oor_ne (v := 0) (by decide) h (by decide))) (fun e => absurd e (oor_ne (v := 1) (by decide) h (by decide)))) (fun _ _ => q)
theorem x_isInT {v m : Nat} (hc : call = sxE sc (d + 1)) (hm : m < 2 ^ 31) (hv : v ≤ m) (h : Q (some (.int 1)) hp) : call 139 [.int (nI v), .int 0, .int (nI m)] hp Q := x_isIn hc (fun _ _ => h) (fun o => absurd o (rgU hv hm))
theorem x_isInF {x : Int32} {m : Nat} (hc : call = sxE sc (d + 1)) (hm : m + 1 < 2 ^ 31) (h : oor (m + 1) x) (q : Q (some (.int 0)) hp) : call 139 [.int x, .int 0, .int (nI m)] hp Q := x_isIn hc (fun a b => absurd (rgF hm h) (fun o => o.elim a b)) (fun _ => q)
end PT
