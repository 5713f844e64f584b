/-! walks: the reference, and the calls -/
section PT
variable {sc : sxS} {d : Nat} {Q : sxR} {hp : sxH} {call : sxX} {nw kp : tSt} {im : Int32} {ol : tOl} {sn : tSn} {sr : tSc} {tp : Nat → tTp} {mk : tMk} {mg : tMg} {mt : tMt} {mc : tMc} {T : sxH}
/-- a walk as the reference keeps it -/
def msW (ms : tA) (s n : Nat) (w : Nat → Nat) : Prop := ms 1 = nI s ∧ ms 2 = nI n ∧ ∀ i, i < n → ms (42 + i) = nI (w i)
theorem wdM : ∀ v, v < 49 → ∀ w, w < 4 → 0 ≤ nxN v w → ∀ c, c < 36 → wdN v w c = if c % 6 < v % 7 then (if w = 1 ∧ v / 7 = c / 6 then 1 else 0) - (if w = 3 ∧ (nxN v w).toNat / 7 = c / 6 then 1 else 0) else 0 := by decide +kernel
theorem iZ_a0 (z : Int) : iZ z + 0 = iZ z := Int32.add_zero _
theorem iZ_s0 (z : Int) : iZ z - 0 = iZ z := Int32.sub_zero _
theorem iZ_s1 (z : Int) : iZ z - 1 = iZ (z - 1) := iZ_sub z 1

set_option maxRecDepth 10000 in
theorem m_end {ms : tA} {s n : Nat} {w : Nat → Nat} (hc : call = sxE sc (d + 3)) (hW : wOK s n w) (hM : msW ms s n w) (h : Q (some (.int (nI (pos s w n)))) (cW nw kp im ol sn sr tp (mW (mk.1, mk.2.1, ms, mk.2.2.2.1, mk.2.2.2.2.1, mk.2.2.2.2.2.1, mk.2.2.2.2.2.2.1, mk.2.2.2.2.2.2.2.1, mk.2.2.2.2.2.2.2.2.1, mk.2.2.2.2.2.2.2.2.2) mg mt mc T))) : call 181 [.ref 59] (cW nw kp im ol sn sr tp (mW (mk.1, mk.2.1, ms, mk.2.2.2.1, mk.2.2.2.2.1, mk.2.2.2.2.2.1, mk.2.2.2.2.2.2.1, mk.2.2.2.2.2.2.2.1, mk.2.2.2.2.2.2.2.2.1, mk.2.2.2.2.2.2.2.2.2) mg mt mc T)) Q := by
  refine ent hc rfl (fun cl hE hm => ?_)
  have hn40 := hW.2.1
  have hs49 := hW.1
  have loop : ∀ q k, k + q = n → sxWP sc cl Q 181 (9, [some (.ref 59), some (.int (nI (pos s w k))), some (.int (nI k))], [], (cW nw kp im ol sn sr tp (mW (mk.1, mk.2.1, ms, mk.2.2.2.1, mk.2.2.2.2.1, mk.2.2.2.2.2.1, mk.2.2.2.2.2.2.1, mk.2.2.2.2.2.2.2.1, mk.2.2.2.2.2.2.2.2.1, mk.2.2.2.2.2.2.2.2.2) mg mt mc T)), 0, 0) := by
    intro q
    induction q with
    | zero =>
      intro k hk
      have hk : n = k := by omega
      rw [← hk]
      clear hk
      refine stp hm 5 (And.intro (inN (k := 2) (by omega) (by decide)) (?_ : sxWP sc cl Q 181 (16, [some (.ref 59), some (.int (nI (pos s w n))), some (.int (nI n))], [.int (ms (2 : Int32).toNatClampNeg), .int (nI n)], (cW nw kp im ol sn sr tp (mW (mk.1, mk.2.1, ms, mk.2.2.2.1, mk.2.2.2.2.1, mk.2.2.2.2.2.1, mk.2.2.2.2.2.2.1, mk.2.2.2.2.2.2.2.1, mk.2.2.2.2.2.2.2.2.1, mk.2.2.2.2.2.2.2.2.2) mg mt mc T)), 0, 0)))
      rw [show ms (2 : Int32).toNatClampNeg = nI n from hM.2.1]
      refine stp hm 1 (bT (geT (Nat.le_refl _) (by omega)) ?_)
      refine stp hm 2 ?_
      show Q (some (.int (nI (pos s w n)))) (cW nw kp im ol sn sr tp (mW (mk.1, mk.2.1, ms, mk.2.2.2.1, mk.2.2.2.2.1, mk.2.2.2.2.2.1, mk.2.2.2.2.2.2.1, mk.2.2.2.2.2.2.2.1, mk.2.2.2.2.2.2.2.2.1, mk.2.2.2.2.2.2.2.2.2) mg mt mc T))
      exact h
    | succ q ih =>
      intro k hk
      refine stp hm 5 (And.intro (inN (k := 2) (by omega) (by decide)) (?_ : sxWP sc cl Q 181 (16, [some (.ref 59), some (.int (nI (pos s w k))), some (.int (nI k))], [.int (ms (2 : Int32).toNatClampNeg), .int (nI k)], (cW nw kp im ol sn sr tp (mW (mk.1, mk.2.1, ms, mk.2.2.2.1, mk.2.2.2.2.1, mk.2.2.2.2.2.1, mk.2.2.2.2.2.2.1, mk.2.2.2.2.2.2.2.1, mk.2.2.2.2.2.2.2.2.1, mk.2.2.2.2.2.2.2.2.2) mg mt mc T)), 0, 0)))
      rw [show ms (2 : Int32).toNatClampNeg = nI n from hM.2.1]
      refine stp hm 1 (bF (geF (by omega) (by omega)) ?_)
      refine stp hm 6 (?_ : sxWP sc cl Q 181 (28, [some (.ref 59), some (.int (nI (pos s w k))), some (.int (nI k))], [.int (42 + (nI k)), .ref 60, .int (nI (pos s w k))], (cW nw kp im ol sn sr tp (mW (mk.1, mk.2.1, ms, mk.2.2.2.1, mk.2.2.2.2.1, mk.2.2.2.2.2.1, mk.2.2.2.2.2.2.1, mk.2.2.2.2.2.2.2.1, mk.2.2.2.2.2.2.2.2.1, mk.2.2.2.2.2.2.2.2.2) mg mt mc T)), 0, 0))
      rw [show 42 + (nI k) = nI (42 + k) from nI_add 42 k]
      refine stp hm 1 (And.intro (inN (k := (42 + k)) (by omega) (by decide)) (?_ : sxWP sc cl Q 181 (29, [some (.ref 59), some (.int (nI (pos s w k))), some (.int (nI k))], [.int (ms (nI (42 + k)).toNatClampNeg), .int (nI (pos s w k))], (cW nw kp im ol sn sr tp (mW (mk.1, mk.2.1, ms, mk.2.2.2.1, mk.2.2.2.2.1, mk.2.2.2.2.2.1, mk.2.2.2.2.2.2.1, mk.2.2.2.2.2.2.2.1, mk.2.2.2.2.2.2.2.2.1, mk.2.2.2.2.2.2.2.2.2) mg mt mc T)), 0, 0)))
      rw [show ms (nI (42 + k)).toNatClampNeg = nI (w k) from by rw [nI_clamp (by omega)]; exact hM.2.2 k (by omega)]
      refine stp hm 1 (m_onByP hE hW (by omega) ?_)
      show sxWP sc cl Q 181 (32, [some (.ref 59), some (.int (nI (pos s w k))), some (.int (nI k))], [.int (nI (pos s w (k + 1)))], (cW nw kp im ol sn sr tp (mW (mk.1, mk.2.1, ms, mk.2.2.2.1, mk.2.2.2.2.1, mk.2.2.2.2.2.1, mk.2.2.2.2.2.2.1, mk.2.2.2.2.2.2.2.1, mk.2.2.2.2.2.2.2.2.1, mk.2.2.2.2.2.2.2.2.2) mg mt mc T)), 0, 0)
      refine stp hm 2 (?_ : sxWP sc cl Q 181 (36, [some (.ref 59), some (.int (nI (pos s w (k + 1)))), some (.int ((nI k) + 1))], [], (cW nw kp im ol sn sr tp (mW (mk.1, mk.2.1, ms, mk.2.2.2.1, mk.2.2.2.2.1, mk.2.2.2.2.2.1, mk.2.2.2.2.2.2.1, mk.2.2.2.2.2.2.2.1, mk.2.2.2.2.2.2.2.2.1, mk.2.2.2.2.2.2.2.2.2) mg mt mc T)), 0, 0))
      rw [nI_1]
      refine stp hm 1 (?_ : sxWP sc cl Q 181 (9, [some (.ref 59), some (.int (nI (pos s w (k + 1)))), some (.int (nI (k + 1)))], [], (cW nw kp im ol sn sr tp (mW (mk.1, mk.2.1, ms, mk.2.2.2.1, mk.2.2.2.2.1, mk.2.2.2.2.2.1, mk.2.2.2.2.2.2.1, mk.2.2.2.2.2.2.2.1, mk.2.2.2.2.2.2.2.2.1, mk.2.2.2.2.2.2.2.2.2) mg mt mc T)), 0, 0))
      exact ih (k + 1) (by omega)
  refine stp hm 4 (And.intro (inN (k := 1) (by omega) (by decide)) (?_ : sxWP sc cl Q 181 (6, [some (.ref 59), none, none], [.int (ms (1 : Int32).toNatClampNeg)], (cW nw kp im ol sn sr tp (mW (mk.1, mk.2.1, ms, mk.2.2.2.1, mk.2.2.2.2.1, mk.2.2.2.2.2.1, mk.2.2.2.2.2.2.1, mk.2.2.2.2.2.2.2.1, mk.2.2.2.2.2.2.2.2.1, mk.2.2.2.2.2.2.2.2.2) mg mt mc T)), 0, 0)))
  rw [show ms (1 : Int32).toNatClampNeg = nI s from hM.1]
  refine stp hm 3 (?_ : sxWP sc cl Q 181 (9, [some (.ref 59), some (.int (nI s)), some (.int 0)], [], (cW nw kp im ol sn sr tp (mW (mk.1, mk.2.1, ms, mk.2.2.2.1, mk.2.2.2.2.1, mk.2.2.2.2.2.1, mk.2.2.2.2.2.2.1, mk.2.2.2.2.2.2.2.1, mk.2.2.2.2.2.2.2.2.1, mk.2.2.2.2.2.2.2.2.2) mg mt mc T)), 0, 0))
  exact loop n 0 (by omega)
set_option maxRecDepth 10000 in
theorem m_walkedHeight {ms : tA} {s n : Nat} {w : Nat → Nat} (hc : call = sxE sc (d + 3)) (hW : wOK s n w) (hM : msW ms s n w) (h : Q (some (.int (iZ (risN s w n)))) (cW nw kp im ol sn sr tp (mW (mk.1, mk.2.1, ms, mk.2.2.2.1, mk.2.2.2.2.1, mk.2.2.2.2.2.1, mk.2.2.2.2.2.2.1, mk.2.2.2.2.2.2.2.1, mk.2.2.2.2.2.2.2.2.1, mk.2.2.2.2.2.2.2.2.2) mg mt mc T))) : call 184 [.ref 59] (cW nw kp im ol sn sr tp (mW (mk.1, mk.2.1, ms, mk.2.2.2.1, mk.2.2.2.2.1, mk.2.2.2.2.2.1, mk.2.2.2.2.2.2.1, mk.2.2.2.2.2.2.2.1, mk.2.2.2.2.2.2.2.2.1, mk.2.2.2.2.2.2.2.2.2) mg mt mc T)) Q := by
  refine ent hc rfl (fun cl hE hm => ?_)
  have hn40 := hW.2.1
  have hs49 := hW.1
  have loop : ∀ q k, k + q = n → sxWP sc cl Q 184 (11, [some (.ref 59), some (.int (nI (pos s w k))), some (.int (iZ (risN s w k))), some (.int (nI k))], [], (cW nw kp im ol sn sr tp (mW (mk.1, mk.2.1, ms, mk.2.2.2.1, mk.2.2.2.2.1, mk.2.2.2.2.2.1, mk.2.2.2.2.2.2.1, mk.2.2.2.2.2.2.2.1, mk.2.2.2.2.2.2.2.2.1, mk.2.2.2.2.2.2.2.2.2) mg mt mc T)), 0, 0) := by
    intro q
    induction q with
    | zero =>
      intro k hk
      have hk : n = k := by omega
      rw [← hk]
      clear hk
      refine stp hm 5 (And.intro (inN (k := 2) (by omega) (by decide)) (?_ : sxWP sc cl Q 184 (18, [some (.ref 59), some (.int (nI (pos s w n))), some (.int (iZ (risN s w n))), some (.int (nI n))], [.int (ms (2 : Int32).toNatClampNeg), .int (nI n)], (cW nw kp im ol sn sr tp (mW (mk.1, mk.2.1, ms, mk.2.2.2.1, mk.2.2.2.2.1, mk.2.2.2.2.2.1, mk.2.2.2.2.2.2.1, mk.2.2.2.2.2.2.2.1, mk.2.2.2.2.2.2.2.2.1, mk.2.2.2.2.2.2.2.2.2) mg mt mc T)), 0, 0)))
      rw [show ms (2 : Int32).toNatClampNeg = nI n from hM.2.1]
      refine stp hm 1 (bT (geT (Nat.le_refl _) (by omega)) ?_)
      refine stp hm 2 ?_
      show Q (some (.int (iZ (risN s w n)))) (cW nw kp im ol sn sr tp (mW (mk.1, mk.2.1, ms, mk.2.2.2.1, mk.2.2.2.2.1, mk.2.2.2.2.2.1, mk.2.2.2.2.2.2.1, mk.2.2.2.2.2.2.2.1, mk.2.2.2.2.2.2.2.2.1, mk.2.2.2.2.2.2.2.2.2) mg mt mc T))
      exact h
    | succ q ih =>
      intro k hk
      refine stp hm 5 (And.intro (inN (k := 2) (by omega) (by decide)) (?_ : sxWP sc cl Q 184 (18, [some (.ref 59), some (.int (nI (pos s w k))), some (.int (iZ (risN s w k))), some (.int (nI k))], [.int (ms (2 : Int32).toNatClampNeg), .int (nI k)], (cW nw kp im ol sn sr tp (mW (mk.1, mk.2.1, ms, mk.2.2.2.1, mk.2.2.2.2.1, mk.2.2.2.2.2.1, mk.2.2.2.2.2.2.1, mk.2.2.2.2.2.2.2.1, mk.2.2.2.2.2.2.2.2.1, mk.2.2.2.2.2.2.2.2.2) mg mt mc T)), 0, 0)))
      rw [show ms (2 : Int32).toNatClampNeg = nI n from hM.2.1]
      refine stp hm 1 (bF (geF (by omega) (by omega)) ?_)
      refine stp hm 7 (?_ : sxWP sc cl Q 184 (31, [some (.ref 59), some (.int (nI (pos s w k))), some (.int (iZ (risN s w k))), some (.int (nI k))], [.int (42 + (nI k)), .ref 60, .int (nI (pos s w k)), .int (iZ (risN s w k))], (cW nw kp im ol sn sr tp (mW (mk.1, mk.2.1, ms, mk.2.2.2.1, mk.2.2.2.2.1, mk.2.2.2.2.2.1, mk.2.2.2.2.2.2.1, mk.2.2.2.2.2.2.2.1, mk.2.2.2.2.2.2.2.2.1, mk.2.2.2.2.2.2.2.2.2) mg mt mc T)), 0, 0))
      rw [show 42 + (nI k) = nI (42 + k) from nI_add 42 k]
      refine stp hm 1 (And.intro (inN (k := (42 + k)) (by omega) (by decide)) (?_ : sxWP sc cl Q 184 (32, [some (.ref 59), some (.int (nI (pos s w k))), some (.int (iZ (risN s w k))), some (.int (nI k))], [.int (ms (nI (42 + k)).toNatClampNeg), .int (nI (pos s w k)), .int (iZ (risN s w k))], (cW nw kp im ol sn sr tp (mW (mk.1, mk.2.1, ms, mk.2.2.2.1, mk.2.2.2.2.1, mk.2.2.2.2.2.1, mk.2.2.2.2.2.2.1, mk.2.2.2.2.2.2.2.1, mk.2.2.2.2.2.2.2.2.1, mk.2.2.2.2.2.2.2.2.2) mg mt mc T)), 0, 0)))
      rw [show ms (nI (42 + k)).toNatClampNeg = nI (w k) from by rw [nI_clamp (by omega)]; exact hM.2.2 k (by omega)]
      refine stp hm 1 (m_heightOf hE (pos_lt hW k (by omega)) (hW.2.2 k (by omega)).1 ?_)
      show sxWP sc cl Q 184 (35, [some (.ref 59), some (.int (nI (pos s w k))), some (.int (iZ (risN s w k))), some (.int (nI k))], [.int (iZ (hsN (pos s w k) (w k))), .int (iZ (risN s w k))], (cW nw kp im ol sn sr tp (mW (mk.1, mk.2.1, ms, mk.2.2.2.1, mk.2.2.2.2.1, mk.2.2.2.2.2.1, mk.2.2.2.2.2.2.1, mk.2.2.2.2.2.2.2.1, mk.2.2.2.2.2.2.2.2.1, mk.2.2.2.2.2.2.2.2.2) mg mt mc T)), 0, 0)
      refine stp hm 8 (?_ : sxWP sc cl Q 184 (46, [some (.ref 59), some (.int (nI (pos s w k))), some (.int ((iZ (risN s w k)) + (iZ (hsN (pos s w k) (w k))))), some (.int (nI k))], [.int (42 + (nI k)), .ref 60, .int (nI (pos s w k))], (cW nw kp im ol sn sr tp (mW (mk.1, mk.2.1, ms, mk.2.2.2.1, mk.2.2.2.2.1, mk.2.2.2.2.2.1, mk.2.2.2.2.2.2.1, mk.2.2.2.2.2.2.2.1, mk.2.2.2.2.2.2.2.2.1, mk.2.2.2.2.2.2.2.2.2) mg mt mc T)), 0, 0))
      rw [show 42 + (nI k) = nI (42 + k) from nI_add 42 k]
      refine stp hm 1 (And.intro (inN (k := (42 + k)) (by omega) (by decide)) (?_ : sxWP sc cl Q 184 (47, [some (.ref 59), some (.int (nI (pos s w k))), some (.int ((iZ (risN s w k)) + (iZ (hsN (pos s w k) (w k))))), some (.int (nI k))], [.int (ms (nI (42 + k)).toNatClampNeg), .int (nI (pos s w k))], (cW nw kp im ol sn sr tp (mW (mk.1, mk.2.1, ms, mk.2.2.2.1, mk.2.2.2.2.1, mk.2.2.2.2.2.1, mk.2.2.2.2.2.2.1, mk.2.2.2.2.2.2.2.1, mk.2.2.2.2.2.2.2.2.1, mk.2.2.2.2.2.2.2.2.2) mg mt mc T)), 0, 0)))
      rw [show ms (nI (42 + k)).toNatClampNeg = nI (w k) from by rw [nI_clamp (by omega)]; exact hM.2.2 k (by omega)]
      refine stp hm 1 (m_onByP hE hW (by omega) ?_)
      show sxWP sc cl Q 184 (50, [some (.ref 59), some (.int (nI (pos s w k))), some (.int ((iZ (risN s w k)) + (iZ (hsN (pos s w k) (w k))))), some (.int (nI k))], [.int (nI (pos s w (k + 1)))], (cW nw kp im ol sn sr tp (mW (mk.1, mk.2.1, ms, mk.2.2.2.1, mk.2.2.2.2.1, mk.2.2.2.2.2.1, mk.2.2.2.2.2.2.1, mk.2.2.2.2.2.2.2.1, mk.2.2.2.2.2.2.2.2.1, mk.2.2.2.2.2.2.2.2.2) mg mt mc T)), 0, 0)
      refine stp hm 2 (?_ : sxWP sc cl Q 184 (54, [some (.ref 59), some (.int (nI (pos s w (k + 1)))), some (.int ((iZ (risN s w k)) + (iZ (hsN (pos s w k) (w k))))), some (.int ((nI k) + 1))], [], (cW nw kp im ol sn sr tp (mW (mk.1, mk.2.1, ms, mk.2.2.2.1, mk.2.2.2.2.1, mk.2.2.2.2.2.1, mk.2.2.2.2.2.2.1, mk.2.2.2.2.2.2.2.1, mk.2.2.2.2.2.2.2.2.1, mk.2.2.2.2.2.2.2.2.2) mg mt mc T)), 0, 0))
      rw [nI_1]
      refine stp hm 1 (?_ : sxWP sc cl Q 184 (11, [some (.ref 59), some (.int (nI (pos s w (k + 1)))), some (.int ((iZ (risN s w k)) + (iZ (hsN (pos s w k) (w k))))), some (.int (nI (k + 1)))], [], (cW nw kp im ol sn sr tp (mW (mk.1, mk.2.1, ms, mk.2.2.2.1, mk.2.2.2.2.1, mk.2.2.2.2.2.1, mk.2.2.2.2.2.2.1, mk.2.2.2.2.2.2.2.1, mk.2.2.2.2.2.2.2.2.1, mk.2.2.2.2.2.2.2.2.2) mg mt mc T)), 0, 0))
      rw [iZ_add]
      exact ih (k + 1) (by omega)
  refine stp hm 4 (And.intro (inN (k := 1) (by omega) (by decide)) (?_ : sxWP sc cl Q 184 (6, [some (.ref 59), none, none, none], [.int (ms (1 : Int32).toNatClampNeg)], (cW nw kp im ol sn sr tp (mW (mk.1, mk.2.1, ms, mk.2.2.2.1, mk.2.2.2.2.1, mk.2.2.2.2.2.1, mk.2.2.2.2.2.2.1, mk.2.2.2.2.2.2.2.1, mk.2.2.2.2.2.2.2.2.1, mk.2.2.2.2.2.2.2.2.2) mg mt mc T)), 0, 0)))
  rw [show ms (1 : Int32).toNatClampNeg = nI s from hM.1]
  refine stp hm 5 (?_ : sxWP sc cl Q 184 (11, [some (.ref 59), some (.int (nI s)), some (.int 0), some (.int 0)], [], (cW nw kp im ol sn sr tp (mW (mk.1, mk.2.1, ms, mk.2.2.2.1, mk.2.2.2.2.1, mk.2.2.2.2.2.1, mk.2.2.2.2.2.2.1, mk.2.2.2.2.2.2.2.1, mk.2.2.2.2.2.2.2.2.1, mk.2.2.2.2.2.2.2.2.2) mg mt mc T)), 0, 0))
  exact loop n 0 (by omega)
set_option maxRecDepth 10000 in
theorem m_shortened {ms : tA} {s n : Nat} {w : Nat → Nat} (hc : call = sxE sc (d + 1)) (hW : wOK s n w) (hM : msW ms s n w) (h : ∀ f, Q (some (.int (nI (shr w n).length))) (cW nw kp im ol sn sr tp (mW (mk.1, mk.2.1, ms, mk.2.2.2.1, mk.2.2.2.2.1, mk.2.2.2.2.2.1, mk.2.2.2.2.2.2.1, mk.2.2.2.2.2.2.2.1, mk.2.2.2.2.2.2.2.2.1, mk.2.2.2.2.2.2.2.2.2) (mg.1, f, mg.2.2.1, mg.2.2.2.1, mg.2.2.2.2.1, mg.2.2.2.2.2.1, mg.2.2.2.2.2.2.1, mg.2.2.2.2.2.2.2.1, mg.2.2.2.2.2.2.2.2.1, mg.2.2.2.2.2.2.2.2.2.1, mg.2.2.2.2.2.2.2.2.2.2.1, mg.2.2.2.2.2.2.2.2.2.2.2.1, mg.2.2.2.2.2.2.2.2.2.2.2.2) mt mc T))) : call 183 [.ref 59] (cW nw kp im ol sn sr tp (mW (mk.1, mk.2.1, ms, mk.2.2.2.1, mk.2.2.2.2.1, mk.2.2.2.2.2.1, mk.2.2.2.2.2.2.1, mk.2.2.2.2.2.2.2.1, mk.2.2.2.2.2.2.2.2.1, mk.2.2.2.2.2.2.2.2.2) mg mt mc T)) Q := by
  refine ent hc rfl (fun cl hE hm => ?_)
  have hn40 := hW.2.1
  have hs49 := hW.1
  have loop : ∀ q k, k + q = n → ∀ m f, (shr w k).length = m → stk (shr w k) f → sxWP sc cl Q 183 (4, [some (.ref 59), some (.int (nI m)), some (.int (nI k))], [], (cW nw kp im ol sn sr tp (mW (mk.1, mk.2.1, ms, mk.2.2.2.1, mk.2.2.2.2.1, mk.2.2.2.2.2.1, mk.2.2.2.2.2.2.1, mk.2.2.2.2.2.2.2.1, mk.2.2.2.2.2.2.2.2.1, mk.2.2.2.2.2.2.2.2.2) (mg.1, f, mg.2.2.1, mg.2.2.2.1, mg.2.2.2.2.1, mg.2.2.2.2.2.1, mg.2.2.2.2.2.2.1, mg.2.2.2.2.2.2.2.1, mg.2.2.2.2.2.2.2.2.1, mg.2.2.2.2.2.2.2.2.2.1, mg.2.2.2.2.2.2.2.2.2.2.1, mg.2.2.2.2.2.2.2.2.2.2.2.1, mg.2.2.2.2.2.2.2.2.2.2.2.2) mt mc T)), 0, 0) := by
    intro q
    induction q with
    | zero =>
      intro k hk m f hm0 hf
      have hk : n = k := by omega
      subst hk
      refine stp hm 5 (And.intro (inN (k := 2) (by omega) (by decide)) (?_ : sxWP sc cl Q 183 (11, [some (.ref 59), some (.int (nI m)), some (.int (nI n))], [.int (ms (2 : Int32).toNatClampNeg), .int (nI n)], (cW nw kp im ol sn sr tp (mW (mk.1, mk.2.1, ms, mk.2.2.2.1, mk.2.2.2.2.1, mk.2.2.2.2.2.1, mk.2.2.2.2.2.2.1, mk.2.2.2.2.2.2.2.1, mk.2.2.2.2.2.2.2.2.1, mk.2.2.2.2.2.2.2.2.2) (mg.1, f, mg.2.2.1, mg.2.2.2.1, mg.2.2.2.2.1, mg.2.2.2.2.2.1, mg.2.2.2.2.2.2.1, mg.2.2.2.2.2.2.2.1, mg.2.2.2.2.2.2.2.2.1, mg.2.2.2.2.2.2.2.2.2.1, mg.2.2.2.2.2.2.2.2.2.2.1, mg.2.2.2.2.2.2.2.2.2.2.2.1, mg.2.2.2.2.2.2.2.2.2.2.2.2) mt mc T)), 0, 0)))
      rw [show ms (2 : Int32).toNatClampNeg = nI n from hM.2.1]
      refine stp hm 1 (bT (geT (Nat.le_refl _) (by omega)) ?_)
      refine stp hm 2 ?_
      show Q (some (.int (nI m))) (cW nw kp im ol sn sr tp (mW (mk.1, mk.2.1, ms, mk.2.2.2.1, mk.2.2.2.2.1, mk.2.2.2.2.2.1, mk.2.2.2.2.2.2.1, mk.2.2.2.2.2.2.2.1, mk.2.2.2.2.2.2.2.2.1, mk.2.2.2.2.2.2.2.2.2) (mg.1, f, mg.2.2.1, mg.2.2.2.1, mg.2.2.2.2.1, mg.2.2.2.2.2.1, mg.2.2.2.2.2.2.1, mg.2.2.2.2.2.2.2.1, mg.2.2.2.2.2.2.2.2.1, mg.2.2.2.2.2.2.2.2.2.1, mg.2.2.2.2.2.2.2.2.2.2.1, mg.2.2.2.2.2.2.2.2.2.2.2.1, mg.2.2.2.2.2.2.2.2.2.2.2.2) mt mc T))
      rw [← hm0]
      exact h f
    | succ q ih =>
      intro k hk m f hm0 hf
      have hl := shr_len w k
      have hlt := shr_lt (fun i hi => (hW.2.2 i hi).1) k (by omega)
      subst hm0
      cases e : shr w k with
      | nil =>
        rw [e] at hf
        refine stp hm 5 (And.intro (inN (k := 2) (by omega) (by decide)) (?_ : sxWP sc cl Q 183 (11, [some (.ref 59), some (.int 0), some (.int (nI k))], [.int (ms (2 : Int32).toNatClampNeg), .int (nI k)], (cW nw kp im ol sn sr tp (mW (mk.1, mk.2.1, ms, mk.2.2.2.1, mk.2.2.2.2.1, mk.2.2.2.2.2.1, mk.2.2.2.2.2.2.1, mk.2.2.2.2.2.2.2.1, mk.2.2.2.2.2.2.2.2.1, mk.2.2.2.2.2.2.2.2.2) (mg.1, f, mg.2.2.1, mg.2.2.2.1, mg.2.2.2.2.1, mg.2.2.2.2.2.1, mg.2.2.2.2.2.2.1, mg.2.2.2.2.2.2.2.1, mg.2.2.2.2.2.2.2.2.1, mg.2.2.2.2.2.2.2.2.2.1, mg.2.2.2.2.2.2.2.2.2.2.1, mg.2.2.2.2.2.2.2.2.2.2.2.1, mg.2.2.2.2.2.2.2.2.2.2.2.2) mt mc T)), 0, 0)))
        rw [show ms (2 : Int32).toNatClampNeg = nI n from hM.2.1]
        refine stp hm 1 (bF (geF (by omega) (by omega)) ?_)
        refine stp hm 2 (bT (by decide) ?_)
        refine stp hm 8 (?_ : sxWP sc cl Q 183 (59, [some (.ref 59), some (.int 0), some (.int (nI k))], [.int (42 + (nI k)), .ref 60, .int 0, .ref 67], (cW nw kp im ol sn sr tp (mW (mk.1, mk.2.1, ms, mk.2.2.2.1, mk.2.2.2.2.1, mk.2.2.2.2.2.1, mk.2.2.2.2.2.2.1, mk.2.2.2.2.2.2.2.1, mk.2.2.2.2.2.2.2.2.1, mk.2.2.2.2.2.2.2.2.2) (mg.1, f, mg.2.2.1, mg.2.2.2.1, mg.2.2.2.2.1, mg.2.2.2.2.2.1, mg.2.2.2.2.2.2.1, mg.2.2.2.2.2.2.2.1, mg.2.2.2.2.2.2.2.2.1, mg.2.2.2.2.2.2.2.2.2.1, mg.2.2.2.2.2.2.2.2.2.2.1, mg.2.2.2.2.2.2.2.2.2.2.2.1, mg.2.2.2.2.2.2.2.2.2.2.2.2) mt mc T)), 0, 0))
        rw [show 42 + (nI k) = nI (42 + k) from nI_add 42 k]
        refine stp hm 1 (And.intro (inN (k := (42 + k)) (by omega) (by decide)) (?_ : sxWP sc cl Q 183 (60, [some (.ref 59), some (.int 0), some (.int (nI k))], [.int (ms (nI (42 + k)).toNatClampNeg), .int 0, .ref 67], (cW nw kp im ol sn sr tp (mW (mk.1, mk.2.1, ms, mk.2.2.2.1, mk.2.2.2.2.1, mk.2.2.2.2.2.1, mk.2.2.2.2.2.2.1, mk.2.2.2.2.2.2.2.1, mk.2.2.2.2.2.2.2.2.1, mk.2.2.2.2.2.2.2.2.2) (mg.1, f, mg.2.2.1, mg.2.2.2.1, mg.2.2.2.2.1, mg.2.2.2.2.2.1, mg.2.2.2.2.2.2.1, mg.2.2.2.2.2.2.2.1, mg.2.2.2.2.2.2.2.2.1, mg.2.2.2.2.2.2.2.2.2.1, mg.2.2.2.2.2.2.2.2.2.2.1, mg.2.2.2.2.2.2.2.2.2.2.2.1, mg.2.2.2.2.2.2.2.2.2.2.2.2) mt mc T)), 0, 0)))
        rw [show ms (nI (42 + k)).toNatClampNeg = nI (w k) from by rw [nI_clamp (by omega)]; exact hM.2.2 k (by omega)]
        refine stp hm 1 (And.intro (inN (k := 0) (by omega) (by decide)) (?_ : sxWP sc cl Q 183 (61, [some (.ref 59), some (.int 0), some (.int (nI k))], [], (cW nw kp im ol sn sr tp (mW (mk.1, mk.2.1, ms, mk.2.2.2.1, mk.2.2.2.2.1, mk.2.2.2.2.2.1, mk.2.2.2.2.2.2.1, mk.2.2.2.2.2.2.2.1, mk.2.2.2.2.2.2.2.2.1, mk.2.2.2.2.2.2.2.2.2) (mg.1, (upd f (0 : Int32).toNatClampNeg (nI (w k))), mg.2.2.1, mg.2.2.2.1, mg.2.2.2.2.1, mg.2.2.2.2.2.1, mg.2.2.2.2.2.2.1, mg.2.2.2.2.2.2.2.1, mg.2.2.2.2.2.2.2.2.1, mg.2.2.2.2.2.2.2.2.2.1, mg.2.2.2.2.2.2.2.2.2.2.1, mg.2.2.2.2.2.2.2.2.2.2.2.1, mg.2.2.2.2.2.2.2.2.2.2.2.2) mt mc T)), 0, 0)))
        rw [show (0 : Int32).toNatClampNeg = 0 from rfl]
        refine stp hm 2 (?_ : sxWP sc cl Q 183 (67, [some (.ref 59), some (.int (0 + 1)), some (.int ((nI k) + 1))], [], (cW nw kp im ol sn sr tp (mW (mk.1, mk.2.1, ms, mk.2.2.2.1, mk.2.2.2.2.1, mk.2.2.2.2.2.1, mk.2.2.2.2.2.2.1, mk.2.2.2.2.2.2.2.1, mk.2.2.2.2.2.2.2.2.1, mk.2.2.2.2.2.2.2.2.2) (mg.1, (upd f 0 (nI (w k))), mg.2.2.1, mg.2.2.2.1, mg.2.2.2.2.1, mg.2.2.2.2.2.1, mg.2.2.2.2.2.2.1, mg.2.2.2.2.2.2.2.1, mg.2.2.2.2.2.2.2.2.1, mg.2.2.2.2.2.2.2.2.2.1, mg.2.2.2.2.2.2.2.2.2.2.1, mg.2.2.2.2.2.2.2.2.2.2.2.1, mg.2.2.2.2.2.2.2.2.2.2.2.2) mt mc T)), 0, 0))
        rw [nI_1]
        refine stp hm 1 (?_ : sxWP sc cl Q 183 (4, [some (.ref 59), some (.int (0 + 1)), some (.int (nI (k + 1)))], [], (cW nw kp im ol sn sr tp (mW (mk.1, mk.2.1, ms, mk.2.2.2.1, mk.2.2.2.2.1, mk.2.2.2.2.2.1, mk.2.2.2.2.2.2.1, mk.2.2.2.2.2.2.2.1, mk.2.2.2.2.2.2.2.2.1, mk.2.2.2.2.2.2.2.2.2) (mg.1, (upd f 0 (nI (w k))), mg.2.2.1, mg.2.2.2.1, mg.2.2.2.2.1, mg.2.2.2.2.2.1, mg.2.2.2.2.2.2.1, mg.2.2.2.2.2.2.2.1, mg.2.2.2.2.2.2.2.2.1, mg.2.2.2.2.2.2.2.2.2.1, mg.2.2.2.2.2.2.2.2.2.2.1, mg.2.2.2.2.2.2.2.2.2.2.2.1, mg.2.2.2.2.2.2.2.2.2.2.2.2) mt mc T)), 0, 0))
        refine ih (k + 1) (by omega) 1 _ (by rw [shr_e e]; rfl) ?_
        rw [shr_e e]
        exact ⟨rfl, trivial⟩
      | cons a r =>
        rw [e] at hf hl hlt
        have ha := hlt a (List.mem_cons_self)
        have hl : r.length + 1 ≤ k := hl
        show sxWP sc cl Q 183 (4, [some (.ref 59), some (.int (nI (r.length + 1))), some (.int (nI k))], [], (cW nw kp im ol sn sr tp (mW (mk.1, mk.2.1, ms, mk.2.2.2.1, mk.2.2.2.2.1, mk.2.2.2.2.2.1, mk.2.2.2.2.2.2.1, mk.2.2.2.2.2.2.2.1, mk.2.2.2.2.2.2.2.2.1, mk.2.2.2.2.2.2.2.2.2) (mg.1, f, mg.2.2.1, mg.2.2.2.1, mg.2.2.2.2.1, mg.2.2.2.2.2.1, mg.2.2.2.2.2.2.1, mg.2.2.2.2.2.2.2.1, mg.2.2.2.2.2.2.2.2.1, mg.2.2.2.2.2.2.2.2.2.1, mg.2.2.2.2.2.2.2.2.2.2.1, mg.2.2.2.2.2.2.2.2.2.2.2.1, mg.2.2.2.2.2.2.2.2.2.2.2.2) mt mc T)), 0, 0)
        refine stp hm 5 (And.intro (inN (k := 2) (by omega) (by decide)) (?_ : sxWP sc cl Q 183 (11, [some (.ref 59), some (.int (nI (r.length + 1))), some (.int (nI k))], [.int (ms (2 : Int32).toNatClampNeg), .int (nI k)], (cW nw kp im ol sn sr tp (mW (mk.1, mk.2.1, ms, mk.2.2.2.1, mk.2.2.2.2.1, mk.2.2.2.2.2.1, mk.2.2.2.2.2.2.1, mk.2.2.2.2.2.2.2.1, mk.2.2.2.2.2.2.2.2.1, mk.2.2.2.2.2.2.2.2.2) (mg.1, f, mg.2.2.1, mg.2.2.2.1, mg.2.2.2.2.1, mg.2.2.2.2.2.1, mg.2.2.2.2.2.2.1, mg.2.2.2.2.2.2.2.1, mg.2.2.2.2.2.2.2.2.1, mg.2.2.2.2.2.2.2.2.2.1, mg.2.2.2.2.2.2.2.2.2.2.1, mg.2.2.2.2.2.2.2.2.2.2.2.1, mg.2.2.2.2.2.2.2.2.2.2.2.2) mt mc T)), 0, 0)))
        rw [show ms (2 : Int32).toNatClampNeg = nI n from hM.2.1]
        refine stp hm 1 (bF (geF (by omega) (by omega)) ?_)
        refine stp hm 2 (bF (nI_nle (by omega) (by omega)) ?_)
        refine stp hm 5 (?_ : sxWP sc cl Q 183 (25, [some (.ref 59), some (.int (nI (r.length + 1))), some (.int (nI k))], [.int ((nI (r.length + 1)) - 1), .ref 67], (cW nw kp im ol sn sr tp (mW (mk.1, mk.2.1, ms, mk.2.2.2.1, mk.2.2.2.2.1, mk.2.2.2.2.2.1, mk.2.2.2.2.2.2.1, mk.2.2.2.2.2.2.2.1, mk.2.2.2.2.2.2.2.2.1, mk.2.2.2.2.2.2.2.2.2) (mg.1, f, mg.2.2.1, mg.2.2.2.1, mg.2.2.2.2.1, mg.2.2.2.2.2.1, mg.2.2.2.2.2.2.1, mg.2.2.2.2.2.2.2.1, mg.2.2.2.2.2.2.2.2.1, mg.2.2.2.2.2.2.2.2.2.1, mg.2.2.2.2.2.2.2.2.2.2.1, mg.2.2.2.2.2.2.2.2.2.2.2.1, mg.2.2.2.2.2.2.2.2.2.2.2.2) mt mc T)), 0, 0))
        rw [show (nI (r.length + 1)) - 1 = nI r.length from nI_pred _]
        refine stp hm 1 (And.intro (inN (k := r.length) (by omega) (by decide)) (?_ : sxWP sc cl Q 183 (26, [some (.ref 59), some (.int (nI (r.length + 1))), some (.int (nI k))], [.int (f (nI r.length).toNatClampNeg)], (cW nw kp im ol sn sr tp (mW (mk.1, mk.2.1, ms, mk.2.2.2.1, mk.2.2.2.2.1, mk.2.2.2.2.2.1, mk.2.2.2.2.2.2.1, mk.2.2.2.2.2.2.2.1, mk.2.2.2.2.2.2.2.2.1, mk.2.2.2.2.2.2.2.2.2) (mg.1, f, mg.2.2.1, mg.2.2.2.1, mg.2.2.2.2.1, mg.2.2.2.2.2.1, mg.2.2.2.2.2.2.1, mg.2.2.2.2.2.2.2.1, mg.2.2.2.2.2.2.2.2.1, mg.2.2.2.2.2.2.2.2.2.1, mg.2.2.2.2.2.2.2.2.2.2.1, mg.2.2.2.2.2.2.2.2.2.2.2.1, mg.2.2.2.2.2.2.2.2.2.2.2.2) mt mc T)), 0, 0)))
        rw [show f (nI r.length).toNatClampNeg = nI a from by rw [nI_clamp (by omega)]; exact hf.1]
        refine stp hm 5 (?_ : sxWP sc cl Q 183 (34, [some (.ref 59), some (.int (nI (r.length + 1))), some (.int (nI k))], [.int (42 + (nI k)), .ref 60, .int (nI a)], (cW nw kp im ol sn sr tp (mW (mk.1, mk.2.1, ms, mk.2.2.2.1, mk.2.2.2.2.1, mk.2.2.2.2.2.1, mk.2.2.2.2.2.2.1, mk.2.2.2.2.2.2.2.1, mk.2.2.2.2.2.2.2.2.1, mk.2.2.2.2.2.2.2.2.2) (mg.1, f, mg.2.2.1, mg.2.2.2.1, mg.2.2.2.2.1, mg.2.2.2.2.2.1, mg.2.2.2.2.2.2.1, mg.2.2.2.2.2.2.2.1, mg.2.2.2.2.2.2.2.2.1, mg.2.2.2.2.2.2.2.2.2.1, mg.2.2.2.2.2.2.2.2.2.2.1, mg.2.2.2.2.2.2.2.2.2.2.2.1, mg.2.2.2.2.2.2.2.2.2.2.2.2) mt mc T)), 0, 0))
        rw [show 42 + (nI k) = nI (42 + k) from nI_add 42 k]
        refine stp hm 1 (And.intro (inN (k := (42 + k)) (by omega) (by decide)) (?_ : sxWP sc cl Q 183 (35, [some (.ref 59), some (.int (nI (r.length + 1))), some (.int (nI k))], [.int (ms (nI (42 + k)).toNatClampNeg), .int (nI a)], (cW nw kp im ol sn sr tp (mW (mk.1, mk.2.1, ms, mk.2.2.2.1, mk.2.2.2.2.1, mk.2.2.2.2.2.1, mk.2.2.2.2.2.2.1, mk.2.2.2.2.2.2.2.1, mk.2.2.2.2.2.2.2.2.1, mk.2.2.2.2.2.2.2.2.2) (mg.1, f, mg.2.2.1, mg.2.2.2.1, mg.2.2.2.2.1, mg.2.2.2.2.2.1, mg.2.2.2.2.2.2.1, mg.2.2.2.2.2.2.2.1, mg.2.2.2.2.2.2.2.2.1, mg.2.2.2.2.2.2.2.2.2.1, mg.2.2.2.2.2.2.2.2.2.2.1, mg.2.2.2.2.2.2.2.2.2.2.2.1, mg.2.2.2.2.2.2.2.2.2.2.2.2) mt mc T)), 0, 0)))
        rw [show ms (nI (42 + k)).toNatClampNeg = nI (w k) from by rw [nI_clamp (by omega)]; exact hM.2.2 k (by omega)]
        refine stp hm 3 (And.intro (fun c1 => ?_) (fun c1 => ?_))
        · have c1 : ¬ ((nI a) ^^^ (nI (w k))) = 2 := c1
          refine stp hm 8 (?_ : sxWP sc cl Q 183 (59, [some (.ref 59), some (.int (nI (r.length + 1))), some (.int (nI k))], [.int (42 + (nI k)), .ref 60, .int (nI (r.length + 1)), .ref 67], (cW nw kp im ol sn sr tp (mW (mk.1, mk.2.1, ms, mk.2.2.2.1, mk.2.2.2.2.1, mk.2.2.2.2.2.1, mk.2.2.2.2.2.2.1, mk.2.2.2.2.2.2.2.1, mk.2.2.2.2.2.2.2.2.1, mk.2.2.2.2.2.2.2.2.2) (mg.1, f, mg.2.2.1, mg.2.2.2.1, mg.2.2.2.2.1, mg.2.2.2.2.2.1, mg.2.2.2.2.2.2.1, mg.2.2.2.2.2.2.2.1, mg.2.2.2.2.2.2.2.2.1, mg.2.2.2.2.2.2.2.2.2.1, mg.2.2.2.2.2.2.2.2.2.2.1, mg.2.2.2.2.2.2.2.2.2.2.2.1, mg.2.2.2.2.2.2.2.2.2.2.2.2) mt mc T)), 0, 0))
          rw [show 42 + (nI k) = nI (42 + k) from nI_add 42 k]
          refine stp hm 1 (And.intro (inN (k := (42 + k)) (by omega) (by decide)) (?_ : sxWP sc cl Q 183 (60, [some (.ref 59), some (.int (nI (r.length + 1))), some (.int (nI k))], [.int (ms (nI (42 + k)).toNatClampNeg), .int (nI (r.length + 1)), .ref 67], (cW nw kp im ol sn sr tp (mW (mk.1, mk.2.1, ms, mk.2.2.2.1, mk.2.2.2.2.1, mk.2.2.2.2.2.1, mk.2.2.2.2.2.2.1, mk.2.2.2.2.2.2.2.1, mk.2.2.2.2.2.2.2.2.1, mk.2.2.2.2.2.2.2.2.2) (mg.1, f, mg.2.2.1, mg.2.2.2.1, mg.2.2.2.2.1, mg.2.2.2.2.2.1, mg.2.2.2.2.2.2.1, mg.2.2.2.2.2.2.2.1, mg.2.2.2.2.2.2.2.2.1, mg.2.2.2.2.2.2.2.2.2.1, mg.2.2.2.2.2.2.2.2.2.2.1, mg.2.2.2.2.2.2.2.2.2.2.2.1, mg.2.2.2.2.2.2.2.2.2.2.2.2) mt mc T)), 0, 0)))
          rw [show ms (nI (42 + k)).toNatClampNeg = nI (w k) from by rw [nI_clamp (by omega)]; exact hM.2.2 k (by omega)]
          refine stp hm 1 (And.intro (inN (k := (r.length + 1)) (by omega) (by decide)) (?_ : sxWP sc cl Q 183 (61, [some (.ref 59), some (.int (nI (r.length + 1))), some (.int (nI k))], [], (cW nw kp im ol sn sr tp (mW (mk.1, mk.2.1, ms, mk.2.2.2.1, mk.2.2.2.2.1, mk.2.2.2.2.2.1, mk.2.2.2.2.2.2.1, mk.2.2.2.2.2.2.2.1, mk.2.2.2.2.2.2.2.2.1, mk.2.2.2.2.2.2.2.2.2) (mg.1, (upd f (nI (r.length + 1)).toNatClampNeg (nI (w k))), mg.2.2.1, mg.2.2.2.1, mg.2.2.2.2.1, mg.2.2.2.2.2.1, mg.2.2.2.2.2.2.1, mg.2.2.2.2.2.2.2.1, mg.2.2.2.2.2.2.2.2.1, mg.2.2.2.2.2.2.2.2.2.1, mg.2.2.2.2.2.2.2.2.2.2.1, mg.2.2.2.2.2.2.2.2.2.2.2.1, mg.2.2.2.2.2.2.2.2.2.2.2.2) mt mc T)), 0, 0)))
          rw [nI_clamp (n := (r.length + 1)) (by omega)]
          refine stp hm 1 (?_ : sxWP sc cl Q 183 (64, [some (.ref 59), some (.int ((nI (r.length + 1)) + 1)), some (.int (nI k))], [], (cW nw kp im ol sn sr tp (mW (mk.1, mk.2.1, ms, mk.2.2.2.1, mk.2.2.2.2.1, mk.2.2.2.2.2.1, mk.2.2.2.2.2.2.1, mk.2.2.2.2.2.2.2.1, mk.2.2.2.2.2.2.2.2.1, mk.2.2.2.2.2.2.2.2.2) (mg.1, (upd f (r.length + 1) (nI (w k))), mg.2.2.1, mg.2.2.2.1, mg.2.2.2.2.1, mg.2.2.2.2.2.1, mg.2.2.2.2.2.2.1, mg.2.2.2.2.2.2.2.1, mg.2.2.2.2.2.2.2.2.1, mg.2.2.2.2.2.2.2.2.2.1, mg.2.2.2.2.2.2.2.2.2.2.1, mg.2.2.2.2.2.2.2.2.2.2.2.1, mg.2.2.2.2.2.2.2.2.2.2.2.2) mt mc T)), 0, 0))
          rw [nI_1]
          refine stp hm 1 (?_ : sxWP sc cl Q 183 (67, [some (.ref 59), some (.int (nI ((r.length + 1) + 1))), some (.int ((nI k) + 1))], [], (cW nw kp im ol sn sr tp (mW (mk.1, mk.2.1, ms, mk.2.2.2.1, mk.2.2.2.2.1, mk.2.2.2.2.2.1, mk.2.2.2.2.2.2.1, mk.2.2.2.2.2.2.2.1, mk.2.2.2.2.2.2.2.2.1, mk.2.2.2.2.2.2.2.2.2) (mg.1, (upd f (r.length + 1) (nI (w k))), mg.2.2.1, mg.2.2.2.1, mg.2.2.2.2.1, mg.2.2.2.2.2.1, mg.2.2.2.2.2.2.1, mg.2.2.2.2.2.2.2.1, mg.2.2.2.2.2.2.2.2.1, mg.2.2.2.2.2.2.2.2.2.1, mg.2.2.2.2.2.2.2.2.2.2.1, mg.2.2.2.2.2.2.2.2.2.2.2.1, mg.2.2.2.2.2.2.2.2.2.2.2.2) mt mc T)), 0, 0))
          rw [nI_1]
          refine stp hm 1 (?_ : sxWP sc cl Q 183 (4, [some (.ref 59), some (.int (nI ((r.length + 1) + 1))), some (.int (nI (k + 1)))], [], (cW nw kp im ol sn sr tp (mW (mk.1, mk.2.1, ms, mk.2.2.2.1, mk.2.2.2.2.1, mk.2.2.2.2.2.1, mk.2.2.2.2.2.2.1, mk.2.2.2.2.2.2.2.1, mk.2.2.2.2.2.2.2.2.1, mk.2.2.2.2.2.2.2.2.2) (mg.1, (upd f (r.length + 1) (nI (w k))), mg.2.2.1, mg.2.2.2.1, mg.2.2.2.2.1, mg.2.2.2.2.2.1, mg.2.2.2.2.2.2.1, mg.2.2.2.2.2.2.2.1, mg.2.2.2.2.2.2.2.2.1, mg.2.2.2.2.2.2.2.2.2.1, mg.2.2.2.2.2.2.2.2.2.2.1, mg.2.2.2.2.2.2.2.2.2.2.2.1, mg.2.2.2.2.2.2.2.2.2.2.2.2) mt mc T)), 0, 0))
          have cb : bkN a (w k) = false := by
            cases hq : bkN a (w k) with
            | false => rfl
            | true => exact absurd ((bkX a ha _ (hW.2.2 k (by omega)).1).mpr hq) c1
          refine ih (k + 1) (by omega) (r.length + 1 + 1) _ (by rw [shr_n e cb]; rfl) ?_
          rw [shr_n e cb]
          exact stk_push (l := a :: r) hf
        · have c1 : ((nI a) ^^^ (nI (w k))) = 2 := c1
          refine stp hm 3 (?_ : sxWP sc cl Q 183 (67, [some (.ref 59), some (.int ((nI (r.length + 1)) + (-1))), some (.int ((nI k) + 1))], [], (cW nw kp im ol sn sr tp (mW (mk.1, mk.2.1, ms, mk.2.2.2.1, mk.2.2.2.2.1, mk.2.2.2.2.2.1, mk.2.2.2.2.2.2.1, mk.2.2.2.2.2.2.2.1, mk.2.2.2.2.2.2.2.2.1, mk.2.2.2.2.2.2.2.2.2) (mg.1, f, mg.2.2.1, mg.2.2.2.1, mg.2.2.2.2.1, mg.2.2.2.2.2.1, mg.2.2.2.2.2.2.1, mg.2.2.2.2.2.2.2.1, mg.2.2.2.2.2.2.2.2.1, mg.2.2.2.2.2.2.2.2.2.1, mg.2.2.2.2.2.2.2.2.2.2.1, mg.2.2.2.2.2.2.2.2.2.2.2.1, mg.2.2.2.2.2.2.2.2.2.2.2.2) mt mc T)), 0, 0))
          rw [nI_1]
          refine stp hm 1 (?_ : sxWP sc cl Q 183 (4, [some (.ref 59), some (.int ((nI (r.length + 1)) + (-1))), some (.int (nI (k + 1)))], [], (cW nw kp im ol sn sr tp (mW (mk.1, mk.2.1, ms, mk.2.2.2.1, mk.2.2.2.2.1, mk.2.2.2.2.2.1, mk.2.2.2.2.2.2.1, mk.2.2.2.2.2.2.2.1, mk.2.2.2.2.2.2.2.2.1, mk.2.2.2.2.2.2.2.2.2) (mg.1, f, mg.2.2.1, mg.2.2.2.1, mg.2.2.2.2.1, mg.2.2.2.2.2.1, mg.2.2.2.2.2.2.1, mg.2.2.2.2.2.2.2.1, mg.2.2.2.2.2.2.2.2.1, mg.2.2.2.2.2.2.2.2.2.1, mg.2.2.2.2.2.2.2.2.2.2.1, mg.2.2.2.2.2.2.2.2.2.2.2.1, mg.2.2.2.2.2.2.2.2.2.2.2.2) mt mc T)), 0, 0))
          have cb := (bkX a ha _ (hW.2.2 k (by omega)).1).mp c1
          rw [nI_m1]
          refine ih (k + 1) (by omega) r.length _ (by rw [shr_b e cb]) ?_
          rw [shr_b e cb]
          exact hf.2
  refine stp hm 4 (?_ : sxWP sc cl Q 183 (4, [some (.ref 59), some (.int 0), some (.int 0)], [], (cW nw kp im ol sn sr tp (mW (mk.1, mk.2.1, ms, mk.2.2.2.1, mk.2.2.2.2.1, mk.2.2.2.2.2.1, mk.2.2.2.2.2.2.1, mk.2.2.2.2.2.2.2.1, mk.2.2.2.2.2.2.2.2.1, mk.2.2.2.2.2.2.2.2.2) mg mt mc T)), 0, 0))
  exact loop n 0 (by omega) 0 _ rfl trivial
end PT
