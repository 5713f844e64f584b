/-! walks -/
section PT
variable {sc : sxS} {d : Nat} {Q : sxR} {hp : sxH} {call : sxX} {nw kp : tSt} {im : Int32} {ol : tOl} {sn : tSn} {sr : tSc} {tp : Nat → tTp} {mk : tMk} {mg : tMg} {mt : tMt} {mc : tMc} {T : sxH}
/-- where a walk is behind i steps -/
def pos (s : Nat) (w : Nat → Nat) : Nat → Nat
  | 0 => s
  | i + 1 => (nxN (pos s w i) (w i)).toNat
def wOK (s n : Nat) (w : Nat → Nat) : Prop := s < 49 ∧ n ≤ 40 ∧ ∀ i, i < n → w i < 4 ∧ 0 ≤ nxN (pos s w i) (w i)
theorem nxN_lt : ∀ v, v < 49 → ∀ w, w < 4 → nxN v w < 49 ∧ -1 ≤ nxN v w := by decide +kernel
theorem pos_lt {s n : Nat} {w : Nat → Nat} (h : wOK s n w) : ∀ i, i ≤ n → pos s w i < 49
  | 0, _ => h.1
  | i + 1, hi => by
    have h1 := pos_lt h i (by omega)
    obtain ⟨h2, h3⟩ := h.2.2 i (by omega)
    have h4 := nxN_lt _ h1 _ h2
    show (nxN (pos s w i) (w i)).toNat < 49
    omega
theorem pos_s {s n : Nat} {w : Nat → Nat} (h : wOK s n w) {i : Nat} (hi : i < n) : iZ (nxN (pos s w i) (w i)) = nI (pos s w (i + 1)) := by
  obtain ⟨h2, h3⟩ := h.2.2 i hi
  rw [iZ_nI]
  congr 1
  show _ = ((nxN (pos s w i) (w i)).toNat : Int)
  omega
set_option maxRecDepth 10000 in
theorem x_end {rg : Int64} {ld : Int32} {mts : tA} {pw pr : tA} {se ev pg : tRo} {s n : Nat} {w : Nat → Nat} (hc : call = sxE sc (d + 3)) (hW : wOK s n w) (hpw : ∀ i, i < n → pw i = nI (w i)) (h : Q (some (.int (nI (pos s w n)))) (cW (rg, ld, mts, ((nI s), (nI n), pw, pr), se, ev, pg) kp im ol sn sr tp (mW mk mg mt mc T))) : call 39 [.ref 3] (cW (rg, ld, mts, ((nI s), (nI n), pw, pr), se, ev, pg) kp im ol sn sr tp (mW mk mg mt mc T)) Q := by
  refine ent hc rfl (fun cl hE hm => ?_)
  have hn40 := hW.2.1
  have loop : ∀ q k, k + q = n → sxWP sc cl Q 39 (7, [some (.ref 3), some (.int (nI (pos s w k))), some (.int (nI k))], [], (cW (rg, ld, mts, ((nI s), (nI n), pw, pr), se, ev, pg) kp im ol sn sr tp (mW mk mg mt mc T)), 0, 0) := by
    intro q
    induction q with
    | zero =>
      intro k hk
      have hk : n = k := by omega
      rw [← hk]
      clear hk
      refine stp hm 4 (bT (geT (Nat.le_refl n) (by omega)) ?_)
      refine stp hm 2 ?_
      show Q (some (.int (nI (pos s w n)))) (cW (rg, ld, mts, ((nI s), (nI n), pw, pr), se, ev, pg) kp im ol sn sr tp (mW mk mg mt mc T))
      exact h
    | succ q ih =>
      intro k hk
      refine stp hm 4 (bF (geF (by omega) (by omega)) ?_)
      refine stp hm 3 (bF (geF (n := 40) (by omega) (by decide)) ?_)
      refine stp hm 5 (And.intro (inN (by omega) (by decide)) (?_ : sxWP sc cl Q 39 (28, [some (.ref 3), some (.int (nI (pos s w k))), some (.int (nI k))], [.int (pw (nI k).toNatClampNeg), .int (nI (pos s w k))], (cW (rg, ld, mts, ((nI s), (nI n), pw, pr), se, ev, pg) kp im ol sn sr tp (mW mk mg mt mc T)), 0, 0)))
      rw [show pw (nI k).toNatClampNeg = nI (w k) by rw [nI_clamp (by omega)]; exact hpw k (by omega)]
      refine stp hm 1 (x_next hE (pos_lt hW k (by omega)) (hW.2.2 k (by omega)).1 ?_)
      show sxWP sc cl Q 39 (31, [some (.ref 3), some (.int (nI (pos s w k))), some (.int (nI k))], [.int (iZ (nxN (pos s w k) (w k)))], (cW (rg, ld, mts, ((nI s), (nI n), pw, pr), se, ev, pg) kp im ol sn sr tp (mW mk mg mt mc T)), 0, 0)
      refine stp hm 3 (?_ : sxWP sc cl Q 39 (7, [some (.ref 3), some (.int (iZ (nxN (pos s w k) (w k)))), some (.int ((nI k) + 1))], [], (cW (rg, ld, mts, ((nI s), (nI n), pw, pr), se, ev, pg) kp im ol sn sr tp (mW mk mg mt mc T)), 0, 0))
      rw [pos_s hW (by omega), nI_1]
      exact ih (k + 1) (by omega)
  refine stp hm 5 (?_ : sxWP sc cl Q 39 (7, [some (.ref 3), some (.int (nI s)), some (.int 0)], [], (cW (rg, ld, mts, ((nI s), (nI n), pw, pr), se, ev, pg) kp im ol sn sr tp (mW mk mg mt mc T)), 0, 0))
  exact loop n 0 (by omega)
end PT
