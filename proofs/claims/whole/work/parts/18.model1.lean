/-! the reference: small methods and loops -/
section PT
variable {sc : sxS} {d : Nat} {Q : sxR} {hp : sxH} {call : sxX} {nw kp : tSt} {im : Int32} {ol : tOl} {sn : tSn} {sr : tSc} {tp : Nat → tTp} {mk : tMk} {mg : tMg} {mt : tMt} {mc : tMc} {T : sxH}
theorem geT {k n : Nat} (h : n ≤ k) (hk : k < 2 ^ 31) : nI n ≤ nI k := nI_le h hk
theorem geF {k n : Nat} (h : k < n) (hn : n < 2 ^ 31) : ¬ nI n ≤ nI k := nI_ge h hn
theorem inN {k n : Nat} (h : k < n) (hn : n < 2 ^ 31) : vp_in (nI k) n := vp_in_nI h hn
def cpK (f g : Nat → Int32) (k : Nat) : Nat → Int32 := fun j => if j < k then f j else g j
theorem cpK_0 (f g : Nat → Int32) : cpK f g 0 = g := by funext j; simp [cpK]
theorem cpK_s (f g : Nat → Int32) (k : Nat) (h : k < 2 ^ 31) : upd (cpK f g k) (nI k).toNatClampNeg (f (nI k).toNatClampNeg) = cpK f g (k + 1) := by
  rw [nI_clamp h]
  funext j
  simp only [upd, cpK]
  by_cases q : j = k
  · subst q; simp
  · by_cases q2 : j < k
    · have : j < k + 1 := by omega
      simp [q, q2, this]
    · have : ¬ j < k + 1 := by omega
      simp [q, q2, this]
set_option maxRecDepth 10000 in
theorem m_copies_sk  (hc : call = sxE sc (d + 1)) (h : Q none (cW nw kp im ol sn sr tp (mW (mk.1, mk.2.1, mk.2.2.1, (cpK mk.2.2.1 mk.2.2.2.1 122), mk.2.2.2.2.1, mk.2.2.2.2.2.1, mk.2.2.2.2.2.2.1, mk.2.2.2.2.2.2.2.1, mk.2.2.2.2.2.2.2.2.1, mk.2.2.2.2.2.2.2.2.2) mg mt mc T))) : call 233 [.ref 60, .ref 61] (cW nw kp im ol sn sr tp (mW mk mg mt mc T)) Q := by
  refine ent hc rfl (fun cl hE hm => ?_)
  have loop : ∀ n k, k + n = 122 → sxWP sc cl Q 233 (2, [some (.ref 60), some (.ref 61), some (.int (nI k))], [], (cW nw kp im ol sn sr tp (mW (mk.1, mk.2.1, mk.2.2.1, (cpK mk.2.2.1 mk.2.2.2.1 k), mk.2.2.2.2.1, mk.2.2.2.2.2.1, mk.2.2.2.2.2.2.1, mk.2.2.2.2.2.2.2.1, mk.2.2.2.2.2.2.2.2.1, mk.2.2.2.2.2.2.2.2.2) mg mt mc T)), 0, 0) := by
    intro n
    induction n with
    | zero =>
      intro k hk
      have hk : k = 122 := by omega
      subst hk
      refine stp hm 3 (bT (geT (n := 122) (by omega) (by omega)) ?_)
      refine stp hm 1 ?_
      show Q none (cW nw kp im ol sn sr tp (mW (mk.1, mk.2.1, mk.2.2.1, (cpK mk.2.2.1 mk.2.2.2.1 122), mk.2.2.2.2.1, mk.2.2.2.2.2.1, mk.2.2.2.2.2.2.1, mk.2.2.2.2.2.2.2.1, mk.2.2.2.2.2.2.2.2.1, mk.2.2.2.2.2.2.2.2.2) mg mt mc T))
      exact h
    | succ n ih =>
      intro k hk
      refine stp hm 3 (bF (geF (n := 122) (by omega) (by decide)) ?_)
      refine stp hm 5 (And.intro (inN (by omega) (by decide)) (?_ : sxWP sc cl Q 233 (13, [some (.ref 60), some (.ref 61), some (.int (nI k))], [.int (mk.2.2.1 (nI k).toNatClampNeg), .int (nI k), .ref 61], (cW nw kp im ol sn sr tp (mW (mk.1, mk.2.1, mk.2.2.1, (cpK mk.2.2.1 mk.2.2.2.1 k), mk.2.2.2.2.1, mk.2.2.2.2.2.1, mk.2.2.2.2.2.2.1, mk.2.2.2.2.2.2.2.1, mk.2.2.2.2.2.2.2.2.1, mk.2.2.2.2.2.2.2.2.2) mg mt mc T)), 0, 0)))
      refine stp hm 1 (And.intro (inN (by omega) (by decide)) (?_ : sxWP sc cl Q 233 (14, [some (.ref 60), some (.ref 61), some (.int (nI k))], [], (cW nw kp im ol sn sr tp (mW (mk.1, mk.2.1, mk.2.2.1, (upd (cpK mk.2.2.1 mk.2.2.2.1 k) (nI k).toNatClampNeg (mk.2.2.1 (nI k).toNatClampNeg)), mk.2.2.2.2.1, mk.2.2.2.2.2.1, mk.2.2.2.2.2.2.1, mk.2.2.2.2.2.2.2.1, mk.2.2.2.2.2.2.2.2.1, mk.2.2.2.2.2.2.2.2.2) mg mt mc T)), 0, 0)))
      refine stp hm 2 (?_ : sxWP sc cl Q 233 (2, [some (.ref 60), some (.ref 61), some (.int ((nI k) + 1))], [], (cW nw kp im ol sn sr tp (mW (mk.1, mk.2.1, mk.2.2.1, (upd (cpK mk.2.2.1 mk.2.2.2.1 k) (nI k).toNatClampNeg (mk.2.2.1 (nI k).toNatClampNeg)), mk.2.2.2.2.1, mk.2.2.2.2.2.1, mk.2.2.2.2.2.2.1, mk.2.2.2.2.2.2.2.1, mk.2.2.2.2.2.2.2.2.1, mk.2.2.2.2.2.2.2.2.2) mg mt mc T)), 0, 0))
      rw [cpK_s _ _ k (by omega), nI_1]
      exact ih (k + 1) (by omega)
  have l0 := loop 122 0 rfl
  rw [cpK_0] at l0
  refine stp hm 2 (?_ : sxWP sc cl Q 233 (2, [some (.ref 60), some (.ref 61), some (.int 0)], [], (cW nw kp im ol sn sr tp (mW mk mg mt mc T)), 0, 0))
  exact l0
set_option maxRecDepth 10000 in
theorem m_copies_ks  (hc : call = sxE sc (d + 1)) (h : Q none (cW nw kp im ol sn sr tp (mW (mk.1, mk.2.1, (cpK mk.2.2.2.1 mk.2.2.1 122), mk.2.2.2.1, mk.2.2.2.2.1, mk.2.2.2.2.2.1, mk.2.2.2.2.2.2.1, mk.2.2.2.2.2.2.2.1, mk.2.2.2.2.2.2.2.2.1, mk.2.2.2.2.2.2.2.2.2) mg mt mc T))) : call 233 [.ref 61, .ref 60] (cW nw kp im ol sn sr tp (mW mk mg mt mc T)) Q := by
  refine ent hc rfl (fun cl hE hm => ?_)
  have loop : ∀ n k, k + n = 122 → sxWP sc cl Q 233 (2, [some (.ref 61), some (.ref 60), some (.int (nI k))], [], (cW nw kp im ol sn sr tp (mW (mk.1, mk.2.1, (cpK mk.2.2.2.1 mk.2.2.1 k), mk.2.2.2.1, mk.2.2.2.2.1, mk.2.2.2.2.2.1, mk.2.2.2.2.2.2.1, mk.2.2.2.2.2.2.2.1, mk.2.2.2.2.2.2.2.2.1, mk.2.2.2.2.2.2.2.2.2) mg mt mc T)), 0, 0) := by
    intro n
    induction n with
    | zero =>
      intro k hk
      have hk : k = 122 := by omega
      subst hk
      refine stp hm 3 (bT (geT (n := 122) (by omega) (by omega)) ?_)
      refine stp hm 1 ?_
      show Q none (cW nw kp im ol sn sr tp (mW (mk.1, mk.2.1, (cpK mk.2.2.2.1 mk.2.2.1 122), mk.2.2.2.1, mk.2.2.2.2.1, mk.2.2.2.2.2.1, mk.2.2.2.2.2.2.1, mk.2.2.2.2.2.2.2.1, mk.2.2.2.2.2.2.2.2.1, mk.2.2.2.2.2.2.2.2.2) mg mt mc T))
      exact h
    | succ n ih =>
      intro k hk
      refine stp hm 3 (bF (geF (n := 122) (by omega) (by decide)) ?_)
      refine stp hm 5 (And.intro (inN (by omega) (by decide)) (?_ : sxWP sc cl Q 233 (13, [some (.ref 61), some (.ref 60), some (.int (nI k))], [.int (mk.2.2.2.1 (nI k).toNatClampNeg), .int (nI k), .ref 60], (cW nw kp im ol sn sr tp (mW (mk.1, mk.2.1, (cpK mk.2.2.2.1 mk.2.2.1 k), mk.2.2.2.1, mk.2.2.2.2.1, mk.2.2.2.2.2.1, mk.2.2.2.2.2.2.1, mk.2.2.2.2.2.2.2.1, mk.2.2.2.2.2.2.2.2.1, mk.2.2.2.2.2.2.2.2.2) mg mt mc T)), 0, 0)))
      refine stp hm 1 (And.intro (inN (by omega) (by decide)) (?_ : sxWP sc cl Q 233 (14, [some (.ref 61), some (.ref 60), some (.int (nI k))], [], (cW nw kp im ol sn sr tp (mW (mk.1, mk.2.1, (upd (cpK mk.2.2.2.1 mk.2.2.1 k) (nI k).toNatClampNeg (mk.2.2.2.1 (nI k).toNatClampNeg)), mk.2.2.2.1, mk.2.2.2.2.1, mk.2.2.2.2.2.1, mk.2.2.2.2.2.2.1, mk.2.2.2.2.2.2.2.1, mk.2.2.2.2.2.2.2.2.1, mk.2.2.2.2.2.2.2.2.2) mg mt mc T)), 0, 0)))
      refine stp hm 2 (?_ : sxWP sc cl Q 233 (2, [some (.ref 61), some (.ref 60), some (.int ((nI k) + 1))], [], (cW nw kp im ol sn sr tp (mW (mk.1, mk.2.1, (upd (cpK mk.2.2.2.1 mk.2.2.1 k) (nI k).toNatClampNeg (mk.2.2.2.1 (nI k).toNatClampNeg)), mk.2.2.2.1, mk.2.2.2.2.1, mk.2.2.2.2.2.1, mk.2.2.2.2.2.2.1, mk.2.2.2.2.2.2.2.1, mk.2.2.2.2.2.2.2.2.1, mk.2.2.2.2.2.2.2.2.2) mg mt mc T)), 0, 0))
      rw [cpK_s _ _ k (by omega), nI_1]
      exact ih (k + 1) (by omega)
  have l0 := loop 122 0 rfl
  rw [cpK_0] at l0
  refine stp hm 2 (?_ : sxWP sc cl Q 233 (2, [some (.ref 61), some (.ref 60), some (.int 0)], [], (cW nw kp im ol sn sr tp (mW mk mg mt mc T)), 0, 0))
  exact l0
end PT
