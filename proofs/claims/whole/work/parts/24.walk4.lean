/-! begin, walk, walked, winds -/
section PT
variable {sc : sxS} {d : Nat} {Q : sxR} {hp : sxH} {call : sxX} {nw kp : tSt} {im : Int32} {ol : tOl} {sn : tSn} {sr : tSc} {tp : Nat → tTp} {mk : tMk} {mg : tMg} {mt : tMt} {mc : tMc} {T : sxH}
set_option maxRecDepth 10000 in
theorem x_beginF {rg : Int64} {ld : Int32} {mts : tA} {pw pr : tA} {se ev pg : tRo} {s n : Nat} {w : Nat → Nat} {x : Int32} (hc : call = sxE sc (d + 2)) (hx : oor 49 x) (q : Q (some (.int (-1))) (cW (rg, ld, mts, ((nI s), (nI n), pw, pr), se, ev, pg) kp im ol sn sr tp (mW mk mg mt mc T))) : call 95 [.ref 0, .int x] (cW (rg, ld, mts, ((nI s), (nI n), pw, pr), se, ev, pg) kp im ol sn sr tp (mW mk mg mt mc T)) Q := by
  refine ent hc rfl (fun cl hE hm => ?_)
  refine stp hm 2 (x_isVertexF hE hx ?_)
  show sxWP sc cl Q 95 (4, [some (.ref 0), some (.int x), none], [.int 0], (cW (rg, ld, mts, ((nI s), (nI n), pw, pr), se, ev, pg) kp im ol sn sr tp (mW mk mg mt mc T)), 0, 0)
  refine stp hm 1 (bNF (by decide) ?_)
  refine stp hm 2 ?_
  show Q (some (.int (-1))) (cW (rg, ld, mts, ((nI s), (nI n), pw, pr), se, ev, pg) kp im ol sn sr tp (mW mk mg mt mc T))
  exact q
set_option maxRecDepth 10000 in
theorem x_beginT {rg : Int64} {ld : Int32} {mts : tA} {pw pr : tA} {se ev pg : tRo} {s n : Nat} {w : Nat → Nat} {v : Nat} (hc : call = sxE sc (d + 2)) (hv : v < 49) (q : Q (some (.int (nI n))) (cW (rg, ld, mts, ((nI v), 0, pw, pr), se, ev, pg) kp im ol sn sr tp (mW mk mg mt mc T))) : call 95 [.ref 0, .int (nI v)] (cW (rg, ld, mts, ((nI s), (nI n), pw, pr), se, ev, pg) kp im ol sn sr tp (mW mk mg mt mc T)) Q := by
  refine ent hc rfl (fun cl hE hm => ?_)
  refine stp hm 2 (x_isVertexT hE hv ?_)
  show sxWP sc cl Q 95 (4, [some (.ref 0), some (.int (nI v)), none], [.int 1], (cW (rg, ld, mts, ((nI s), (nI n), pw, pr), se, ev, pg) kp im ol sn sr tp (mW mk mg mt mc T)), 0, 0)
  refine stp hm 1 (bNT (by decide) ?_)
  refine stp hm 10 (x_restart (w := w) hE ?_)
  show sxWP sc cl Q 95 (31, [some (.ref 0), some (.int (nI v)), some (.int (nI n))], [], (cW (rg, ld, mts, ((nI v), 0, pw, pr), se, ev, pg) kp im ol sn sr tp (mW mk mg mt mc T)), 0, 0)
  refine stp hm 2 ?_
  show Q (some (.int (nI n))) (cW (rg, ld, mts, ((nI v), 0, pw, pr), se, ev, pg) kp im ol sn sr tp (mW mk mg mt mc T))
  exact q
set_option maxRecDepth 10000 in
theorem m_beginF {ms : tA} {s n : Nat} {w : Nat → Nat} {x : Int32} (hc : call = sxE sc (d + 3)) (hx : oor 49 x) (q : Q (some (.int (-1))) (cW nw kp im ol sn sr tp (mW (mk.1, mk.2.1, ms, mk.2.2.2.1, mk.2.2.2.2.1, mk.2.2.2.2.2.1, mk.2.2.2.2.2.2.1, mk.2.2.2.2.2.2.2.1, mk.2.2.2.2.2.2.2.2.1, mk.2.2.2.2.2.2.2.2.2) mg mt mc T))) : call 180 [.ref 59, .int x] (cW nw kp im ol sn sr tp (mW (mk.1, mk.2.1, ms, mk.2.2.2.1, mk.2.2.2.2.1, mk.2.2.2.2.2.1, mk.2.2.2.2.2.2.1, mk.2.2.2.2.2.2.2.1, mk.2.2.2.2.2.2.2.2.1, mk.2.2.2.2.2.2.2.2.2) mg mt mc T)) Q := by
  refine ent hc rfl (fun cl hE hm => ?_)
  refine stp hm 2 (m_isVertexF hE hx ?_)
  show sxWP sc cl Q 180 (4, [some (.ref 59), some (.int x), none], [.int 0], (cW nw kp im ol sn sr tp (mW (mk.1, mk.2.1, ms, mk.2.2.2.1, mk.2.2.2.2.1, mk.2.2.2.2.2.1, mk.2.2.2.2.2.2.1, mk.2.2.2.2.2.2.2.1, mk.2.2.2.2.2.2.2.2.1, mk.2.2.2.2.2.2.2.2.2) mg mt mc T)), 0, 0)
  refine stp hm 1 (bNF (by decide) ?_)
  refine stp hm 2 ?_
  show Q (some (.int (-1))) (cW nw kp im ol sn sr tp (mW (mk.1, mk.2.1, ms, mk.2.2.2.1, mk.2.2.2.2.1, mk.2.2.2.2.2.1, mk.2.2.2.2.2.2.1, mk.2.2.2.2.2.2.2.1, mk.2.2.2.2.2.2.2.2.1, mk.2.2.2.2.2.2.2.2.2) mg mt mc T))
  exact q
set_option maxRecDepth 10000 in
theorem m_beginT {ms : tA} {s n : Nat} {w : Nat → Nat} {v : Nat} (hc : call = sxE sc (d + 3)) (hM : msW ms s n w) (hv : v < 49) (q : Q (some (.int (nI n))) (cW nw kp im ol sn sr tp (mW (mk.1, mk.2.1, (upd (upd ms 1 (nI v)) 2 0), mk.2.2.2.1, mk.2.2.2.2.1, mk.2.2.2.2.2.1, mk.2.2.2.2.2.2.1, mk.2.2.2.2.2.2.2.1, mk.2.2.2.2.2.2.2.2.1, mk.2.2.2.2.2.2.2.2.2) mg mt mc T))) : call 180 [.ref 59, .int (nI v)] (cW nw kp im ol sn sr tp (mW (mk.1, mk.2.1, ms, mk.2.2.2.1, mk.2.2.2.2.1, mk.2.2.2.2.2.1, mk.2.2.2.2.2.2.1, mk.2.2.2.2.2.2.2.1, mk.2.2.2.2.2.2.2.2.1, mk.2.2.2.2.2.2.2.2.2) mg mt mc T)) Q := by
  refine ent hc rfl (fun cl hE hm => ?_)
  refine stp hm 2 (m_isVertexT hE hv ?_)
  show sxWP sc cl Q 180 (4, [some (.ref 59), some (.int (nI v)), none], [.int 1], (cW nw kp im ol sn sr tp (mW (mk.1, mk.2.1, ms, mk.2.2.2.1, mk.2.2.2.2.1, mk.2.2.2.2.2.1, mk.2.2.2.2.2.2.1, mk.2.2.2.2.2.2.2.1, mk.2.2.2.2.2.2.2.2.1, mk.2.2.2.2.2.2.2.2.2) mg mt mc T)), 0, 0)
  refine stp hm 1 (bNT (by decide) ?_)
  refine stp hm 4 (And.intro (inN (k := 2) (by omega) (by decide)) (?_ : sxWP sc cl Q 180 (15, [some (.ref 59), some (.int (nI v)), none], [.int (ms (2 : Int32).toNatClampNeg)], (cW nw kp im ol sn sr tp (mW (mk.1, mk.2.1, ms, mk.2.2.2.1, mk.2.2.2.2.1, mk.2.2.2.2.2.1, mk.2.2.2.2.2.2.1, mk.2.2.2.2.2.2.2.1, mk.2.2.2.2.2.2.2.2.1, mk.2.2.2.2.2.2.2.2.2) mg mt mc T)), 0, 0)))
  rw [show ms (2 : Int32).toNatClampNeg = nI n from hM.2.1]
  refine stp hm 6 (And.intro (inN (k := 1) (by omega) (by decide)) (?_ : sxWP sc cl Q 180 (23, [some (.ref 59), some (.int (nI v)), some (.int (nI n))], [], (cW nw kp im ol sn sr tp (mW (mk.1, mk.2.1, (upd ms (1 : Int32).toNatClampNeg (nI v)), mk.2.2.2.1, mk.2.2.2.2.1, mk.2.2.2.2.2.1, mk.2.2.2.2.2.2.1, mk.2.2.2.2.2.2.2.1, mk.2.2.2.2.2.2.2.2.1, mk.2.2.2.2.2.2.2.2.2) mg mt mc T)), 0, 0)))
  rw [show (1 : Int32).toNatClampNeg = 1 from rfl]
  refine stp hm 5 (And.intro (inN (k := 2) (by omega) (by decide)) (?_ : sxWP sc cl Q 180 (30, [some (.ref 59), some (.int (nI v)), some (.int (nI n))], [], (cW nw kp im ol sn sr tp (mW (mk.1, mk.2.1, (upd (upd ms 1 (nI v)) (2 : Int32).toNatClampNeg 0), mk.2.2.2.1, mk.2.2.2.2.1, mk.2.2.2.2.2.1, mk.2.2.2.2.2.2.1, mk.2.2.2.2.2.2.2.1, mk.2.2.2.2.2.2.2.2.1, mk.2.2.2.2.2.2.2.2.2) mg mt mc T)), 0, 0)))
  rw [show (2 : Int32).toNatClampNeg = 2 from rfl]
  refine stp hm 2 ?_
  show Q (some (.int (nI n))) (cW nw kp im ol sn sr tp (mW (mk.1, mk.2.1, (upd (upd ms 1 (nI v)) 2 0), mk.2.2.2.1, mk.2.2.2.2.1, mk.2.2.2.2.2.1, mk.2.2.2.2.2.2.1, mk.2.2.2.2.2.2.2.1, mk.2.2.2.2.2.2.2.2.1, mk.2.2.2.2.2.2.2.2.2) mg mt mc T))
  exact q
set_option maxRecDepth 10000 in
theorem x_walkF {rg : Int64} {ld : Int32} {mts : tA} {pw pr : tA} {se ev pg : tRo} {s n : Nat} {w : Nat → Nat} {x : Int32} (hc : call = sxE sc (d + 2)) (hx : oor 4 x) (q : Q (some (.int (-2))) (cW (rg, ld, mts, ((nI s), (nI n), pw, pr), se, ev, pg) kp im ol sn sr tp (mW mk mg mt mc T))) : call 96 [.ref 0, .int x] (cW (rg, ld, mts, ((nI s), (nI n), pw, pr), se, ev, pg) kp im ol sn sr tp (mW mk mg mt mc T)) Q := by
  refine ent hc rfl (fun cl hE hm => ?_)
  rcases hx with hx | hx
  · refine stp hm 2 (bT (hx) ?_)
    refine stp hm 2 ?_
    show Q (some (.int (-2))) (cW (rg, ld, mts, ((nI s), (nI n), pw, pr), se, ev, pg) kp im ol sn sr tp (mW mk mg mt mc T))
    exact q
  · refine stp hm 2 (bF (oor_lt (by decide) hx) ?_)
    refine stp hm 3 (bF (Int32.not_le.mpr ((lt_succ (m := 3) (by decide)).mp hx)) ?_)
    refine stp hm 2 ?_
    show Q (some (.int (-2))) (cW (rg, ld, mts, ((nI s), (nI n), pw, pr), se, ev, pg) kp im ol sn sr tp (mW mk mg mt mc T))
    exact q
set_option maxRecDepth 10000 in
theorem x_walkT {rg : Int64} {ld : Int32} {mts : tA} {pw pr : tA} {se ev pg : tRo} {s n : Nat} {w : Nat → Nat} {v : Nat} (hc : call = sxE sc (d + 4)) (hW : wOK s n w) (hpw : ∀ i, i < n → pw i = nI (w i)) (hv : v < 4) (h1 : nxN (pos s w n) v < 0 → Q (some (.int (-3))) (cW (rg, ld, mts, ((nI s), (nI n), pw, pr), se, ev, pg) kp im ol sn sr tp (mW mk mg mt mc T))) (h2 : 0 ≤ nxN (pos s w n) v → n < 40 → Q (some (.int (nI (n + 1)))) (cW (rg, ld, mts, ((nI s), (nI (n + 1)), (upd pw n (nI v)), pr), se, ev, pg) kp im ol sn sr tp (mW mk mg mt mc T))) (h3 : 0 ≤ nxN (pos s w n) v → n = 40 → Q (some (.int (-4))) (cW (rg, ld, mts, ((nI s), (nI n), pw, pr), se, ev, pg) kp im ol sn sr tp (mW mk mg mt mc T))) : call 96 [.ref 0, .int (nI v)] (cW (rg, ld, mts, ((nI s), (nI n), pw, pr), se, ev, pg) kp im ol sn sr tp (mW mk mg mt mc T)) Q := by
  refine ent hc rfl (fun cl hE hm => ?_)
  have hp49 := pos_lt hW n (Nat.le_refl _)
  have hn40 := hW.2.1
  have hs49 := hW.1
  have hnx := nxN_lt _ hp49 v hv
  refine stp hm 2 (bF (fun q => absurd ((nI_ltI (a := v) (b := 0) (by omega) (by omega)).mp q) (by omega)) ?_)
  refine stp hm 3 (bT ((nI_leI (a := v) (b := 3) (by omega) (by omega)).mpr (by omega)) ?_)
  refine stp hm 4 (x_end hE hW hpw ?_)
  show sxWP sc cl Q 96 (22, [some (.ref 0), some (.int (nI v))], [.int (nI (pos s w n))], (cW (rg, ld, mts, ((nI s), (nI n), pw, pr), se, ev, pg) kp im ol sn sr tp (mW mk mg mt mc T)), 0, 0)
  refine stp hm 2 (x_next hE hp49 hv ?_)
  show sxWP sc cl Q 96 (26, [some (.ref 0), some (.int (nI v))], [.int (iZ (nxN (pos s w n) v))], (cW (rg, ld, mts, ((nI s), (nI n), pw, pr), se, ev, pg) kp im ol sn sr tp (mW mk mg mt mc T)), 0, 0)
  refine stp hm 1 (And.intro (fun c3 => ?_) (fun c3 => ?_))
  · have c3 : 0 ≤ (iZ (nxN (pos s w n) v)) := c3
    have c3 : 0 ≤ (nxN (pos s w n) v) := (iZ_0le (by unfold sm; omega)).mp c3
    refine stp hm 5 (x_append (w := w) hE hn40 (fun c4 => ?_) (fun c4 => ?_))
    · show sxWP sc cl Q 96 (43, [some (.ref 0), some (.int (nI v))], [.int 1], (cW (rg, ld, mts, ((nI s), (nI (n + 1)), (upd pw n (nI v)), pr), se, ev, pg) kp im ol sn sr tp (mW mk mg mt mc T)), 0, 0)
      refine stp hm 1 (bF (by decide) ?_)
      refine stp hm 6 ?_
      show Q (some (.int (nI (n + 1)))) (cW (rg, ld, mts, ((nI s), (nI (n + 1)), (upd pw n (nI v)), pr), se, ev, pg) kp im ol sn sr tp (mW mk mg mt mc T))
      exact h2 (by omega) (by omega)
    · show sxWP sc cl Q 96 (43, [some (.ref 0), some (.int (nI v))], [.int 0], (cW (rg, ld, mts, ((nI s), (nI n), pw, pr), se, ev, pg) kp im ol sn sr tp (mW mk mg mt mc T)), 0, 0)
      refine stp hm 1 (bT (by decide) ?_)
      refine stp hm 2 ?_
      show Q (some (.int (-4))) (cW (rg, ld, mts, ((nI s), (nI n), pw, pr), se, ev, pg) kp im ol sn sr tp (mW mk mg mt mc T))
      exact h3 (by omega) (by omega)
  · have c3 : ¬ 0 ≤ (iZ (nxN (pos s w n) v)) := c3
    have c3 : ¬ 0 ≤ (nxN (pos s w n) v) := fun q => c3 ((iZ_0le (by unfold sm; omega)).mpr q)
    refine stp hm 2 ?_
    show Q (some (.int (-3))) (cW (rg, ld, mts, ((nI s), (nI n), pw, pr), se, ev, pg) kp im ol sn sr tp (mW mk mg mt mc T))
    exact h1 (by omega)
set_option maxRecDepth 10000 in
theorem m_walkF {ms : tA} {s n : Nat} {w : Nat → Nat} {x : Int32} (hc : call = sxE sc (d + 2)) (hx : oor 4 x) (q : Q (some (.int (-2))) (cW nw kp im ol sn sr tp (mW (mk.1, mk.2.1, ms, mk.2.2.2.1, mk.2.2.2.2.1, mk.2.2.2.2.2.1, mk.2.2.2.2.2.2.1, mk.2.2.2.2.2.2.2.1, mk.2.2.2.2.2.2.2.2.1, mk.2.2.2.2.2.2.2.2.2) mg mt mc T))) : call 182 [.ref 59, .int x] (cW nw kp im ol sn sr tp (mW (mk.1, mk.2.1, ms, mk.2.2.2.1, mk.2.2.2.2.1, mk.2.2.2.2.2.1, mk.2.2.2.2.2.2.1, mk.2.2.2.2.2.2.2.1, mk.2.2.2.2.2.2.2.2.1, mk.2.2.2.2.2.2.2.2.2) mg mt mc T)) Q := by
  refine ent hc rfl (fun cl hE hm => ?_)
  refine stp hm 4 (x_isInF (m := 3) hE (by decide) hx ?_)
  show sxWP sc cl Q 182 (6, [some (.ref 59), some (.int x)], [.int 0], (cW nw kp im ol sn sr tp (mW (mk.1, mk.2.1, ms, mk.2.2.2.1, mk.2.2.2.2.1, mk.2.2.2.2.2.1, mk.2.2.2.2.2.2.1, mk.2.2.2.2.2.2.2.1, mk.2.2.2.2.2.2.2.2.1, mk.2.2.2.2.2.2.2.2.2) mg mt mc T)), 0, 0)
  refine stp hm 1 (bNF (by decide) ?_)
  refine stp hm 2 ?_
  show Q (some (.int (-2))) (cW nw kp im ol sn sr tp (mW (mk.1, mk.2.1, ms, mk.2.2.2.1, mk.2.2.2.2.1, mk.2.2.2.2.2.1, mk.2.2.2.2.2.2.1, mk.2.2.2.2.2.2.2.1, mk.2.2.2.2.2.2.2.2.1, mk.2.2.2.2.2.2.2.2.2) mg mt mc T))
  exact q
theorem upd_ne {f : Nat → Int32} {i j : Nat} {x : Int32} (h : ¬ j = i) : upd f i x j = f j := if_neg h
theorem upd_eq {f : Nat → Int32} {i : Nat} {x : Int32} : upd f i x i = x := if_pos rfl
set_option maxRecDepth 10000 in
theorem m_walkT {ms : tA} {s n : Nat} {w : Nat → Nat} {v : Nat} (hc : call = sxE sc (d + 4)) (hW : wOK s n w) (hM : msW ms s n w) (hv : v < 4) (h1 : nxN (pos s w n) v < 0 → Q (some (.int (-3))) (cW nw kp im ol sn sr tp (mW (mk.1, mk.2.1, ms, mk.2.2.2.1, mk.2.2.2.2.1, mk.2.2.2.2.2.1, mk.2.2.2.2.2.2.1, mk.2.2.2.2.2.2.2.1, mk.2.2.2.2.2.2.2.2.1, mk.2.2.2.2.2.2.2.2.2) mg mt mc T))) (h2 : 0 ≤ nxN (pos s w n) v → n < 40 → Q (some (.int (nI (n + 1)))) (cW nw kp im ol sn sr tp (mW (mk.1, mk.2.1, (upd (upd ms (42 + n) (nI v)) 2 (nI (n + 1))), mk.2.2.2.1, mk.2.2.2.2.1, mk.2.2.2.2.2.1, mk.2.2.2.2.2.2.1, mk.2.2.2.2.2.2.2.1, mk.2.2.2.2.2.2.2.2.1, mk.2.2.2.2.2.2.2.2.2) mg mt mc T))) (h3 : 0 ≤ nxN (pos s w n) v → n = 40 → Q (some (.int (-4))) (cW nw kp im ol sn sr tp (mW (mk.1, mk.2.1, ms, mk.2.2.2.1, mk.2.2.2.2.1, mk.2.2.2.2.2.1, mk.2.2.2.2.2.2.1, mk.2.2.2.2.2.2.2.1, mk.2.2.2.2.2.2.2.2.1, mk.2.2.2.2.2.2.2.2.2) mg mt mc T))) : call 182 [.ref 59, .int (nI v)] (cW nw kp im ol sn sr tp (mW (mk.1, mk.2.1, ms, mk.2.2.2.1, mk.2.2.2.2.1, mk.2.2.2.2.2.1, mk.2.2.2.2.2.2.1, mk.2.2.2.2.2.2.2.1, mk.2.2.2.2.2.2.2.2.1, mk.2.2.2.2.2.2.2.2.2) mg mt mc T)) Q := by
  refine ent hc rfl (fun cl hE hm => ?_)
  have hp49 := pos_lt hW n (Nat.le_refl _)
  have hn40 := hW.2.1
  have hs49 := hW.1
  have hnx := nxN_lt _ hp49 v hv
  refine stp hm 4 (x_isInT (m := 3) hE (by decide) (by omega) ?_)
  show sxWP sc cl Q 182 (6, [some (.ref 59), some (.int (nI v))], [.int 1], (cW nw kp im ol sn sr tp (mW (mk.1, mk.2.1, ms, mk.2.2.2.1, mk.2.2.2.2.1, mk.2.2.2.2.2.1, mk.2.2.2.2.2.2.1, mk.2.2.2.2.2.2.2.1, mk.2.2.2.2.2.2.2.2.1, mk.2.2.2.2.2.2.2.2.2) mg mt mc T)), 0, 0)
  refine stp hm 1 (bNT (by decide) ?_)
  refine stp hm 2 (m_end hE hW hM ?_)
  show sxWP sc cl Q 182 (16, [some (.ref 59), some (.int (nI v))], [.int (nI (pos s w n))], (cW nw kp im ol sn sr tp (mW (mk.1, mk.2.1, ms, mk.2.2.2.1, mk.2.2.2.2.1, mk.2.2.2.2.2.1, mk.2.2.2.2.2.2.1, mk.2.2.2.2.2.2.2.1, mk.2.2.2.2.2.2.2.2.1, mk.2.2.2.2.2.2.2.2.2) mg mt mc T)), 0, 0)
  refine stp hm 2 (m_onBy hE hp49 hv ?_)
  show sxWP sc cl Q 182 (20, [some (.ref 59), some (.int (nI v))], [.int (iZ (nxN (pos s w n) v))], (cW nw kp im ol sn sr tp (mW (mk.1, mk.2.1, ms, mk.2.2.2.1, mk.2.2.2.2.1, mk.2.2.2.2.2.1, mk.2.2.2.2.2.2.1, mk.2.2.2.2.2.2.2.1, mk.2.2.2.2.2.2.2.2.1, mk.2.2.2.2.2.2.2.2.2) mg mt mc T)), 0, 0)
  refine stp hm 2 (And.intro (fun c4 => ?_) (fun c4 => ?_))
  · have c4 : ¬ (iZ (nxN (pos s w n) v)) = (-1) := c4
    have c4 : ¬ (nxN (pos s w n) v) = -1 := fun q => c4 ((iZ_em1 (by unfold sm; omega)).mpr q)
    refine stp hm 4 (And.intro (inN (k := 2) (by omega) (by decide)) (?_ : sxWP sc cl Q 182 (33, [some (.ref 59), some (.int (nI v))], [.int (ms (2 : Int32).toNatClampNeg)], (cW nw kp im ol sn sr tp (mW (mk.1, mk.2.1, ms, mk.2.2.2.1, mk.2.2.2.2.1, mk.2.2.2.2.2.1, mk.2.2.2.2.2.2.1, mk.2.2.2.2.2.2.2.1, mk.2.2.2.2.2.2.2.2.1, mk.2.2.2.2.2.2.2.2.2) mg mt mc T)), 0, 0)))
    rw [show ms (2 : Int32).toNatClampNeg = nI n from hM.2.1]
    refine stp hm 2 (And.intro (fun c5 => ?_) (fun c5 => ?_))
    · have c5 : ¬ (nI n) = 40 := c5
      have c5 : ¬ n = 40 := fun q => c5 ((nI_eq (a := n) (b := 40) (by omega) (by omega)).mpr q)
      refine stp hm 7 (And.intro (inN (k := 2) (by omega) (by decide)) (?_ : sxWP sc cl Q 182 (53, [some (.ref 59), some (.int (nI v))], [.int (ms (2 : Int32).toNatClampNeg), .int 42, .ref 60], (cW nw kp im ol sn sr tp (mW (mk.1, mk.2.1, ms, mk.2.2.2.1, mk.2.2.2.2.1, mk.2.2.2.2.2.1, mk.2.2.2.2.2.2.1, mk.2.2.2.2.2.2.2.1, mk.2.2.2.2.2.2.2.2.1, mk.2.2.2.2.2.2.2.2.2) mg mt mc T)), 0, 0)))
      rw [show ms (2 : Int32).toNatClampNeg = nI n from hM.2.1]
      refine stp hm 1 (?_ : sxWP sc cl Q 182 (54, [some (.ref 59), some (.int (nI v))], [.int (42 + (nI n)), .ref 60], (cW nw kp im ol sn sr tp (mW (mk.1, mk.2.1, ms, mk.2.2.2.1, mk.2.2.2.2.1, mk.2.2.2.2.2.1, mk.2.2.2.2.2.2.1, mk.2.2.2.2.2.2.2.1, mk.2.2.2.2.2.2.2.2.1, mk.2.2.2.2.2.2.2.2.2) mg mt mc T)), 0, 0))
      rw [show 42 + (nI n) = nI (42 + n) from nI_add 42 n]
      refine stp hm 2 (And.intro (inN (k := (42 + n)) (by omega) (by decide)) (?_ : sxWP sc cl Q 182 (56, [some (.ref 59), some (.int (nI v))], [], (cW nw kp im ol sn sr tp (mW (mk.1, mk.2.1, (upd ms (nI (42 + n)).toNatClampNeg (nI v)), mk.2.2.2.1, mk.2.2.2.2.1, mk.2.2.2.2.2.1, mk.2.2.2.2.2.2.1, mk.2.2.2.2.2.2.2.1, mk.2.2.2.2.2.2.2.2.1, mk.2.2.2.2.2.2.2.2.2) mg mt mc T)), 0, 0)))
      rw [nI_clamp (n := (42 + n)) (by omega)]
      refine stp hm 5 (And.intro (inN (k := 2) (by omega) (by decide)) (?_ : sxWP sc cl Q 182 (63, [some (.ref 59), some (.int (nI v))], [.int ((upd ms (42 + n) (nI v)) (2 : Int32).toNatClampNeg), .int 2, .ref 60], (cW nw kp im ol sn sr tp (mW (mk.1, mk.2.1, (upd ms (42 + n) (nI v)), mk.2.2.2.1, mk.2.2.2.2.1, mk.2.2.2.2.2.1, mk.2.2.2.2.2.2.1, mk.2.2.2.2.2.2.2.1, mk.2.2.2.2.2.2.2.2.1, mk.2.2.2.2.2.2.2.2.2) mg mt mc T)), 0, 0)))
      rw [show (upd ms (42 + n) (nI v)) (2 : Int32).toNatClampNeg = nI n from by show upd ms (42 + n) (nI v) 2 = nI n; rw [upd_ne (by omega)]; exact hM.2.1]
      refine stp hm 2 (?_ : sxWP sc cl Q 182 (65, [some (.ref 59), some (.int (nI v))], [.int ((nI n) + 1), .int 2, .ref 60], (cW nw kp im ol sn sr tp (mW (mk.1, mk.2.1, (upd ms (42 + n) (nI v)), mk.2.2.2.1, mk.2.2.2.2.1, mk.2.2.2.2.2.1, mk.2.2.2.2.2.2.1, mk.2.2.2.2.2.2.2.1, mk.2.2.2.2.2.2.2.2.1, mk.2.2.2.2.2.2.2.2.2) mg mt mc T)), 0, 0))
      rw [show (nI n) + 1 = nI (n + 1) from nI_add n 1]
      refine stp hm 1 (And.intro (inN (k := 2) (by omega) (by decide)) (?_ : sxWP sc cl Q 182 (66, [some (.ref 59), some (.int (nI v))], [], (cW nw kp im ol sn sr tp (mW (mk.1, mk.2.1, (upd (upd ms (42 + n) (nI v)) (2 : Int32).toNatClampNeg (nI (n + 1))), mk.2.2.2.1, mk.2.2.2.2.1, mk.2.2.2.2.2.1, mk.2.2.2.2.2.2.1, mk.2.2.2.2.2.2.2.1, mk.2.2.2.2.2.2.2.2.1, mk.2.2.2.2.2.2.2.2.2) mg mt mc T)), 0, 0)))
      rw [show (2 : Int32).toNatClampNeg = 2 from rfl]
      refine stp hm 4 (And.intro (inN (k := 2) (by omega) (by decide)) (?_ : sxWP sc cl Q 182 (72, [some (.ref 59), some (.int (nI v))], [.int ((upd (upd ms (42 + n) (nI v)) 2 (nI (n + 1))) (2 : Int32).toNatClampNeg)], (cW nw kp im ol sn sr tp (mW (mk.1, mk.2.1, (upd (upd ms (42 + n) (nI v)) 2 (nI (n + 1))), mk.2.2.2.1, mk.2.2.2.2.1, mk.2.2.2.2.2.1, mk.2.2.2.2.2.2.1, mk.2.2.2.2.2.2.2.1, mk.2.2.2.2.2.2.2.2.1, mk.2.2.2.2.2.2.2.2.2) mg mt mc T)), 0, 0)))
      rw [show (upd (upd ms (42 + n) (nI v)) 2 (nI (n + 1))) (2 : Int32).toNatClampNeg = nI (n + 1) from upd_eq]
      refine stp hm 1 ?_
      show Q (some (.int (nI (n + 1)))) (cW nw kp im ol sn sr tp (mW (mk.1, mk.2.1, (upd (upd ms (42 + n) (nI v)) 2 (nI (n + 1))), mk.2.2.2.1, mk.2.2.2.2.1, mk.2.2.2.2.2.1, mk.2.2.2.2.2.2.1, mk.2.2.2.2.2.2.2.1, mk.2.2.2.2.2.2.2.2.1, mk.2.2.2.2.2.2.2.2.2) mg mt mc T))
      exact h2 (by omega) (by omega)
    · have c5 : (nI n) = 40 := c5
      have c5 : n = 40 := (nI_eq (a := n) (b := 40) (by omega) (by omega)).mp c5
      refine stp hm 2 ?_
      show Q (some (.int (-4))) (cW nw kp im ol sn sr tp (mW (mk.1, mk.2.1, ms, mk.2.2.2.1, mk.2.2.2.2.1, mk.2.2.2.2.2.1, mk.2.2.2.2.2.2.1, mk.2.2.2.2.2.2.2.1, mk.2.2.2.2.2.2.2.2.1, mk.2.2.2.2.2.2.2.2.2) mg mt mc T))
      exact h3 (by omega) (by omega)
  · have c4 : (iZ (nxN (pos s w n) v)) = (-1) := c4
    have c4 : (nxN (pos s w n) v) = -1 := (iZ_em1 (by unfold sm; omega)).mp c4
    refine stp hm 2 ?_
    show Q (some (.int (-3))) (cW nw kp im ol sn sr tp (mW (mk.1, mk.2.1, ms, mk.2.2.2.1, mk.2.2.2.2.1, mk.2.2.2.2.2.1, mk.2.2.2.2.2.2.1, mk.2.2.2.2.2.2.2.1, mk.2.2.2.2.2.2.2.2.1, mk.2.2.2.2.2.2.2.2.2) mg mt mc T))
    exact h1 (by omega)
set_option maxRecDepth 10000 in
theorem x_walkedF {rg : Int64} {ld : Int32} {mts : tA} {pw pr : tA} {se ev pg : tRo} {s n : Nat} {w : Nat → Nat} {x : Int32} (hc : call = sxE sc (d + 5)) (hx : oor 6 x) (q : Q (some (.int (-1))) (cW (rg, ld, mts, ((nI s), (nI n), pw, pr), se, ev, pg) kp im ol sn sr tp (mW mk mg mt mc T))) : call 110 [.ref 0, .int x] (cW (rg, ld, mts, ((nI s), (nI n), pw, pr), se, ev, pg) kp im ol sn sr tp (mW mk mg mt mc T)) Q := by
  refine ent hc rfl (fun cl hE hm => ?_)
  have sw1a : ¬ x = 0 := oor_ne (v := 0) (by decide) hx (by decide)
  have sw1b : ¬ x = 1 := oor_ne (v := 1) (by decide) hx (by decide)
  have sw1c : ¬ x = 2 := oor_ne (v := 2) (by decide) hx (by decide)
  have sw1d : ¬ x = 3 := oor_ne (v := 3) (by decide) hx (by decide)
  have sw1e : ¬ x = 4 := oor_ne (v := 4) (by decide) hx (by decide)
  have sw1f : ¬ x = 5 := oor_ne (v := 5) (by decide) hx (by decide)
  have sw1t0 : ¬ x.toInt = 0 := fun e => sw1a (Int32.toInt_inj.mp e)
  have sw1t1 : ¬ x.toInt = 1 := fun e => sw1b (Int32.toInt_inj.mp e)
  have sw1t2 : ¬ x.toInt = 2 := fun e => sw1c (Int32.toInt_inj.mp e)
  have sw1t3 : ¬ x.toInt = 3 := fun e => sw1d (Int32.toInt_inj.mp e)
  have sw1t4 : ¬ x.toInt = 4 := fun e => sw1e (Int32.toInt_inj.mp e)
  have sw1t5 : ¬ x.toInt = 5 := fun e => sw1f (Int32.toInt_inj.mp e)
  refine stp hm 2 ?_
  show sxWP sc cl Q 110 ((swT x.toInt 0 [40, 51, 62, 73, 87, 98] 113), [some (.ref 0), some (.int x)], [], (cW (rg, ld, mts, ((nI s), (nI n), pw, pr), se, ev, pg) kp im ol sn sr tp (mW mk mg mt mc T)), 0, 0)
  rw [show swT x.toInt 0 [40, 51, 62, 73, 87, 98] 113 = 113 by simp [swT, sw1t0, sw1t1, sw1t2, sw1t3, sw1t4, sw1t5]]
  refine stp hm 2 ?_
  show Q (some (.int (-1))) (cW (rg, ld, mts, ((nI s), (nI n), pw, pr), se, ev, pg) kp im ol sn sr tp (mW mk mg mt mc T))
  exact q
set_option maxRecDepth 10000 in
theorem x_walked0 {rg : Int64} {ld : Int32} {mts : tA} {pw pr : tA} {se ev pg : tRo} {s n : Nat} {w : Nat → Nat} (hc : call = sxE sc (d + 5)) (hW : wOK s n w) (hpw : ∀ i, i < n → pw i = nI (w i)) (q : Q (some (.int (nI n))) (cW (rg, ld, mts, ((nI s), (nI n), pw, pr), se, ev, pg) kp im ol sn sr tp (mW mk mg mt mc T))) : call 110 [.ref 0, .int 0] (cW (rg, ld, mts, ((nI s), (nI n), pw, pr), se, ev, pg) kp im ol sn sr tp (mW mk mg mt mc T)) Q := by
  refine ent hc rfl (fun cl hE hm => ?_)
  have hp49 := pos_lt hW n (Nat.le_refl _)
  have hn40 := hW.2.1
  have hs49 := hW.1
  refine stp hm 2 (?_ : sxWP sc cl Q 110 (40, [some (.ref 0), some (.int 0)], [], (cW (rg, ld, mts, ((nI s), (nI n), pw, pr), se, ev, pg) kp im ol sn sr tp (mW mk mg mt mc T)), 0, 0))
  refine stp hm 5 ?_
  show Q (some (.int (nI n))) (cW (rg, ld, mts, ((nI s), (nI n), pw, pr), se, ev, pg) kp im ol sn sr tp (mW mk mg mt mc T))
  exact q
set_option maxRecDepth 10000 in
theorem x_walked1 {rg : Int64} {ld : Int32} {mts : tA} {pw pr : tA} {se ev pg : tRo} {s n : Nat} {w : Nat → Nat} (hc : call = sxE sc (d + 5)) (hW : wOK s n w) (hpw : ∀ i, i < n → pw i = nI (w i)) (q : Q (some (.int (nI s))) (cW (rg, ld, mts, ((nI s), (nI n), pw, pr), se, ev, pg) kp im ol sn sr tp (mW mk mg mt mc T))) : call 110 [.ref 0, .int 1] (cW (rg, ld, mts, ((nI s), (nI n), pw, pr), se, ev, pg) kp im ol sn sr tp (mW mk mg mt mc T)) Q := by
  refine ent hc rfl (fun cl hE hm => ?_)
  have hp49 := pos_lt hW n (Nat.le_refl _)
  have hn40 := hW.2.1
  have hs49 := hW.1
  refine stp hm 2 (?_ : sxWP sc cl Q 110 (51, [some (.ref 0), some (.int 1)], [], (cW (rg, ld, mts, ((nI s), (nI n), pw, pr), se, ev, pg) kp im ol sn sr tp (mW mk mg mt mc T)), 0, 0))
  refine stp hm 5 ?_
  show Q (some (.int (nI s))) (cW (rg, ld, mts, ((nI s), (nI n), pw, pr), se, ev, pg) kp im ol sn sr tp (mW mk mg mt mc T))
  exact q
set_option maxRecDepth 10000 in
theorem x_walked2 {rg : Int64} {ld : Int32} {mts : tA} {pw pr : tA} {se ev pg : tRo} {s n : Nat} {w : Nat → Nat} (hc : call = sxE sc (d + 5)) (hW : wOK s n w) (hpw : ∀ i, i < n → pw i = nI (w i)) (q : Q (some (.int (nI (pos s w n)))) (cW (rg, ld, mts, ((nI s), (nI n), pw, pr), se, ev, pg) kp im ol sn sr tp (mW mk mg mt mc T))) : call 110 [.ref 0, .int 2] (cW (rg, ld, mts, ((nI s), (nI n), pw, pr), se, ev, pg) kp im ol sn sr tp (mW mk mg mt mc T)) Q := by
  refine ent hc rfl (fun cl hE hm => ?_)
  have hp49 := pos_lt hW n (Nat.le_refl _)
  have hn40 := hW.2.1
  have hs49 := hW.1
  refine stp hm 2 (?_ : sxWP sc cl Q 110 (62, [some (.ref 0), some (.int 2)], [], (cW (rg, ld, mts, ((nI s), (nI n), pw, pr), se, ev, pg) kp im ol sn sr tp (mW mk mg mt mc T)), 0, 0))
  refine stp hm 4 (x_end hE hW hpw ?_)
  show sxWP sc cl Q 110 (72, [some (.ref 0), some (.int 2)], [.int (nI (pos s w n))], (cW (rg, ld, mts, ((nI s), (nI n), pw, pr), se, ev, pg) kp im ol sn sr tp (mW mk mg mt mc T)), 0, 0)
  refine stp hm 1 ?_
  show Q (some (.int (nI (pos s w n)))) (cW (rg, ld, mts, ((nI s), (nI n), pw, pr), se, ev, pg) kp im ol sn sr tp (mW mk mg mt mc T))
  exact q
set_option maxRecDepth 10000 in
theorem x_walked3 {rg : Int64} {ld : Int32} {mts : tA} {pw pr : tA} {se ev pg : tRo} {s n : Nat} {w : Nat → Nat} (hc : call = sxE sc (d + 5)) (hW : wOK s n w) (hpw : ∀ i, i < n → pw i = nI (w i)) (h1 : pos s w n = s → Q (some (.int 1)) (cW (rg, ld, mts, ((nI s), (nI n), pw, pr), se, ev, pg) kp im ol sn sr tp (mW mk mg mt mc T))) (h0 : ¬ pos s w n = s → Q (some (.int 0)) (cW (rg, ld, mts, ((nI s), (nI n), pw, pr), se, ev, pg) kp im ol sn sr tp (mW mk mg mt mc T))) : call 110 [.ref 0, .int 3] (cW (rg, ld, mts, ((nI s), (nI n), pw, pr), se, ev, pg) kp im ol sn sr tp (mW mk mg mt mc T)) Q := by
  refine ent hc rfl (fun cl hE hm => ?_)
  have hp49 := pos_lt hW n (Nat.le_refl _)
  have hn40 := hW.2.1
  have hs49 := hW.1
  refine stp hm 2 (?_ : sxWP sc cl Q 110 (73, [some (.ref 0), some (.int 3)], [], (cW (rg, ld, mts, ((nI s), (nI n), pw, pr), se, ev, pg) kp im ol sn sr tp (mW mk mg mt mc T)), 0, 0))
  refine stp hm 4 (x_isClosed hE hW hpw (fun c1 => ?_) (fun c1 => ?_))
  · show sxWP sc cl Q 110 (83, [some (.ref 0), some (.int 3)], [.int 1], (cW (rg, ld, mts, ((nI s), (nI n), pw, pr), se, ev, pg) kp im ol sn sr tp (mW mk mg mt mc T)), 0, 0)
    refine stp hm 1 (x_bit1 hE ?_)
    show sxWP sc cl Q 110 (86, [some (.ref 0), some (.int 3)], [.int 1], (cW (rg, ld, mts, ((nI s), (nI n), pw, pr), se, ev, pg) kp im ol sn sr tp (mW mk mg mt mc T)), 0, 0)
    refine stp hm 1 ?_
    show Q (some (.int 1)) (cW (rg, ld, mts, ((nI s), (nI n), pw, pr), se, ev, pg) kp im ol sn sr tp (mW mk mg mt mc T))
    exact h1 c1
  · show sxWP sc cl Q 110 (83, [some (.ref 0), some (.int 3)], [.int 0], (cW (rg, ld, mts, ((nI s), (nI n), pw, pr), se, ev, pg) kp im ol sn sr tp (mW mk mg mt mc T)), 0, 0)
    refine stp hm 1 (x_bit0 hE ?_)
    show sxWP sc cl Q 110 (86, [some (.ref 0), some (.int 3)], [.int 0], (cW (rg, ld, mts, ((nI s), (nI n), pw, pr), se, ev, pg) kp im ol sn sr tp (mW mk mg mt mc T)), 0, 0)
    refine stp hm 1 ?_
    show Q (some (.int 0)) (cW (rg, ld, mts, ((nI s), (nI n), pw, pr), se, ev, pg) kp im ol sn sr tp (mW mk mg mt mc T))
    exact h0 c1
set_option maxRecDepth 10000 in
theorem x_walked4 {rg : Int64} {ld : Int32} {mts : tA} {pw pr : tA} {se ev pg : tRo} {s n : Nat} {w : Nat → Nat} (hc : call = sxE sc (d + 5)) (hW : wOK s n w) (hpw : ∀ i, i < n → pw i = nI (w i)) (q : ∀ f, Q (some (.int (nI (shr w n).length))) (cW (rg, ld, mts, ((nI s), (nI n), pw, f), se, ev, pg) kp im ol sn sr tp (mW mk mg mt mc T))) : call 110 [.ref 0, .int 4] (cW (rg, ld, mts, ((nI s), (nI n), pw, pr), se, ev, pg) kp im ol sn sr tp (mW mk mg mt mc T)) Q := by
  refine ent hc rfl (fun cl hE hm => ?_)
  have hp49 := pos_lt hW n (Nat.le_refl _)
  have hn40 := hW.2.1
  have hs49 := hW.1
  refine stp hm 2 (?_ : sxWP sc cl Q 110 (87, [some (.ref 0), some (.int 4)], [], (cW (rg, ld, mts, ((nI s), (nI n), pw, pr), se, ev, pg) kp im ol sn sr tp (mW mk mg mt mc T)), 0, 0))
  refine stp hm 4 (x_shortened hE hW hpw (fun f => ?_))
  show sxWP sc cl Q 110 (97, [some (.ref 0), some (.int 4)], [.int (nI (shr w n).length)], (cW (rg, ld, mts, ((nI s), (nI n), pw, f), se, ev, pg) kp im ol sn sr tp (mW mk mg mt mc T)), 0, 0)
  refine stp hm 1 ?_
  show Q (some (.int (nI (shr w n).length))) (cW (rg, ld, mts, ((nI s), (nI n), pw, f), se, ev, pg) kp im ol sn sr tp (mW mk mg mt mc T))
  exact q f
set_option maxRecDepth 10000 in
theorem x_walked5 {rg : Int64} {ld : Int32} {mts : tA} {pw pr : tA} {se ev pg : tRo} {s n : Nat} {w : Nat → Nat} (hc : call = sxE sc (d + 5)) (hW : wOK s n w) (hpw : ∀ i, i < n → pw i = nI (w i)) (q : Q (some (.int (iZ (risN s w n) + 1000))) (cW (rg, ld, mts, ((nI s), (nI n), pw, pr), se, ev, pg) kp im ol sn sr tp (mW mk mg mt mc T))) : call 110 [.ref 0, .int 5] (cW (rg, ld, mts, ((nI s), (nI n), pw, pr), se, ev, pg) kp im ol sn sr tp (mW mk mg mt mc T)) Q := by
  refine ent hc rfl (fun cl hE hm => ?_)
  have hp49 := pos_lt hW n (Nat.le_refl _)
  have hn40 := hW.2.1
  have hs49 := hW.1
  refine stp hm 2 (?_ : sxWP sc cl Q 110 (98, [some (.ref 0), some (.int 5)], [], (cW (rg, ld, mts, ((nI s), (nI n), pw, pr), se, ev, pg) kp im ol sn sr tp (mW mk mg mt mc T)), 0, 0))
  refine stp hm 4 (x_pathRise hE hW hpw ?_)
  show sxWP sc cl Q 110 (108, [some (.ref 0), some (.int 5)], [.int (iZ (risN s w n))], (cW (rg, ld, mts, ((nI s), (nI n), pw, pr), se, ev, pg) kp im ol sn sr tp (mW mk mg mt mc T)), 0, 0)
  refine stp hm 3 ?_
  show Q (some (.int ((iZ (risN s w n)) + 1000))) (cW (rg, ld, mts, ((nI s), (nI n), pw, pr), se, ev, pg) kp im ol sn sr tp (mW mk mg mt mc T))
  exact q
set_option maxRecDepth 10000 in
theorem m_walkedF {ms : tA} {s n : Nat} {w : Nat → Nat} {x : Int32} (hc : call = sxE sc (d + 5)) (hx : oor 6 x) (q : Q (some (.int (-1))) (cW nw kp im ol sn sr tp (mW (mk.1, mk.2.1, ms, mk.2.2.2.1, mk.2.2.2.2.1, mk.2.2.2.2.2.1, mk.2.2.2.2.2.2.1, mk.2.2.2.2.2.2.2.1, mk.2.2.2.2.2.2.2.2.1, mk.2.2.2.2.2.2.2.2.2) mg mt mc T))) : call 185 [.ref 59, .int x] (cW nw kp im ol sn sr tp (mW (mk.1, mk.2.1, ms, mk.2.2.2.1, mk.2.2.2.2.1, mk.2.2.2.2.2.1, mk.2.2.2.2.2.2.1, mk.2.2.2.2.2.2.2.1, mk.2.2.2.2.2.2.2.2.1, mk.2.2.2.2.2.2.2.2.2) mg mt mc T)) Q := by
  refine ent hc rfl (fun cl hE hm => ?_)
  have sw1a : ¬ x = 0 := oor_ne (v := 0) (by decide) hx (by decide)
  have sw1b : ¬ x = 1 := oor_ne (v := 1) (by decide) hx (by decide)
  have sw1c : ¬ x = 2 := oor_ne (v := 2) (by decide) hx (by decide)
  have sw1d : ¬ x = 3 := oor_ne (v := 3) (by decide) hx (by decide)
  have sw1e : ¬ x = 4 := oor_ne (v := 4) (by decide) hx (by decide)
  have sw1f : ¬ x = 5 := oor_ne (v := 5) (by decide) hx (by decide)
  have sw1t0 : ¬ x.toInt = 0 := fun e => sw1a (Int32.toInt_inj.mp e)
  have sw1t1 : ¬ x.toInt = 1 := fun e => sw1b (Int32.toInt_inj.mp e)
  have sw1t2 : ¬ x.toInt = 2 := fun e => sw1c (Int32.toInt_inj.mp e)
  have sw1t3 : ¬ x.toInt = 3 := fun e => sw1d (Int32.toInt_inj.mp e)
  have sw1t4 : ¬ x.toInt = 4 := fun e => sw1e (Int32.toInt_inj.mp e)
  have sw1t5 : ¬ x.toInt = 5 := fun e => sw1f (Int32.toInt_inj.mp e)
  refine stp hm 2 ?_
  show sxWP sc cl Q 185 ((swT x.toInt 0 [40, 47, 54, 59, 78, 83] 92), [some (.ref 59), some (.int x)], [], (cW nw kp im ol sn sr tp (mW (mk.1, mk.2.1, ms, mk.2.2.2.1, mk.2.2.2.2.1, mk.2.2.2.2.2.1, mk.2.2.2.2.2.2.1, mk.2.2.2.2.2.2.2.1, mk.2.2.2.2.2.2.2.2.1, mk.2.2.2.2.2.2.2.2.2) mg mt mc T)), 0, 0)
  rw [show swT x.toInt 0 [40, 47, 54, 59, 78, 83] 92 = 92 by simp [swT, sw1t0, sw1t1, sw1t2, sw1t3, sw1t4, sw1t5]]
  refine stp hm 2 ?_
  show Q (some (.int (-1))) (cW nw kp im ol sn sr tp (mW (mk.1, mk.2.1, ms, mk.2.2.2.1, mk.2.2.2.2.1, mk.2.2.2.2.2.1, mk.2.2.2.2.2.2.1, mk.2.2.2.2.2.2.2.1, mk.2.2.2.2.2.2.2.2.1, mk.2.2.2.2.2.2.2.2.2) mg mt mc T))
  exact q
set_option maxRecDepth 10000 in
theorem m_walked0 {ms : tA} {s n : Nat} {w : Nat → Nat} (hc : call = sxE sc (d + 5)) (hW : wOK s n w) (hM : msW ms s n w) (q : Q (some (.int (nI n))) (cW nw kp im ol sn sr tp (mW (mk.1, mk.2.1, ms, mk.2.2.2.1, mk.2.2.2.2.1, mk.2.2.2.2.2.1, mk.2.2.2.2.2.2.1, mk.2.2.2.2.2.2.2.1, mk.2.2.2.2.2.2.2.2.1, mk.2.2.2.2.2.2.2.2.2) mg mt mc T))) : call 185 [.ref 59, .int 0] (cW nw kp im ol sn sr tp (mW (mk.1, mk.2.1, ms, mk.2.2.2.1, mk.2.2.2.2.1, mk.2.2.2.2.2.1, mk.2.2.2.2.2.2.1, mk.2.2.2.2.2.2.2.1, mk.2.2.2.2.2.2.2.2.1, mk.2.2.2.2.2.2.2.2.2) mg mt mc T)) Q := by
  refine ent hc rfl (fun cl hE hm => ?_)
  have hp49 := pos_lt hW n (Nat.le_refl _)
  have hn40 := hW.2.1
  have hs49 := hW.1
  refine stp hm 2 (?_ : sxWP sc cl Q 185 (40, [some (.ref 59), some (.int 0)], [], (cW nw kp im ol sn sr tp (mW (mk.1, mk.2.1, ms, mk.2.2.2.1, mk.2.2.2.2.1, mk.2.2.2.2.2.1, mk.2.2.2.2.2.2.1, mk.2.2.2.2.2.2.2.1, mk.2.2.2.2.2.2.2.2.1, mk.2.2.2.2.2.2.2.2.2) mg mt mc T)), 0, 0))
  refine stp hm 4 (And.intro (inN (k := 2) (by omega) (by decide)) (?_ : sxWP sc cl Q 185 (46, [some (.ref 59), some (.int 0)], [.int (ms (2 : Int32).toNatClampNeg)], (cW nw kp im ol sn sr tp (mW (mk.1, mk.2.1, ms, mk.2.2.2.1, mk.2.2.2.2.1, mk.2.2.2.2.2.1, mk.2.2.2.2.2.2.1, mk.2.2.2.2.2.2.2.1, mk.2.2.2.2.2.2.2.2.1, mk.2.2.2.2.2.2.2.2.2) mg mt mc T)), 0, 0)))
  rw [show ms (2 : Int32).toNatClampNeg = nI n from hM.2.1]
  refine stp hm 1 ?_
  show Q (some (.int (nI n))) (cW nw kp im ol sn sr tp (mW (mk.1, mk.2.1, ms, mk.2.2.2.1, mk.2.2.2.2.1, mk.2.2.2.2.2.1, mk.2.2.2.2.2.2.1, mk.2.2.2.2.2.2.2.1, mk.2.2.2.2.2.2.2.2.1, mk.2.2.2.2.2.2.2.2.2) mg mt mc T))
  exact q
set_option maxRecDepth 10000 in
theorem m_walked1 {ms : tA} {s n : Nat} {w : Nat → Nat} (hc : call = sxE sc (d + 5)) (hW : wOK s n w) (hM : msW ms s n w) (q : Q (some (.int (nI s))) (cW nw kp im ol sn sr tp (mW (mk.1, mk.2.1, ms, mk.2.2.2.1, mk.2.2.2.2.1, mk.2.2.2.2.2.1, mk.2.2.2.2.2.2.1, mk.2.2.2.2.2.2.2.1, mk.2.2.2.2.2.2.2.2.1, mk.2.2.2.2.2.2.2.2.2) mg mt mc T))) : call 185 [.ref 59, .int 1] (cW nw kp im ol sn sr tp (mW (mk.1, mk.2.1, ms, mk.2.2.2.1, mk.2.2.2.2.1, mk.2.2.2.2.2.1, mk.2.2.2.2.2.2.1, mk.2.2.2.2.2.2.2.1, mk.2.2.2.2.2.2.2.2.1, mk.2.2.2.2.2.2.2.2.2) mg mt mc T)) Q := by
  refine ent hc rfl (fun cl hE hm => ?_)
  have hp49 := pos_lt hW n (Nat.le_refl _)
  have hn40 := hW.2.1
  have hs49 := hW.1
  refine stp hm 2 (?_ : sxWP sc cl Q 185 (47, [some (.ref 59), some (.int 1)], [], (cW nw kp im ol sn sr tp (mW (mk.1, mk.2.1, ms, mk.2.2.2.1, mk.2.2.2.2.1, mk.2.2.2.2.2.1, mk.2.2.2.2.2.2.1, mk.2.2.2.2.2.2.2.1, mk.2.2.2.2.2.2.2.2.1, mk.2.2.2.2.2.2.2.2.2) mg mt mc T)), 0, 0))
  refine stp hm 4 (And.intro (inN (k := 1) (by omega) (by decide)) (?_ : sxWP sc cl Q 185 (53, [some (.ref 59), some (.int 1)], [.int (ms (1 : Int32).toNatClampNeg)], (cW nw kp im ol sn sr tp (mW (mk.1, mk.2.1, ms, mk.2.2.2.1, mk.2.2.2.2.1, mk.2.2.2.2.2.1, mk.2.2.2.2.2.2.1, mk.2.2.2.2.2.2.2.1, mk.2.2.2.2.2.2.2.2.1, mk.2.2.2.2.2.2.2.2.2) mg mt mc T)), 0, 0)))
  rw [show ms (1 : Int32).toNatClampNeg = nI s from hM.1]
  refine stp hm 1 ?_
  show Q (some (.int (nI s))) (cW nw kp im ol sn sr tp (mW (mk.1, mk.2.1, ms, mk.2.2.2.1, mk.2.2.2.2.1, mk.2.2.2.2.2.1, mk.2.2.2.2.2.2.1, mk.2.2.2.2.2.2.2.1, mk.2.2.2.2.2.2.2.2.1, mk.2.2.2.2.2.2.2.2.2) mg mt mc T))
  exact q
set_option maxRecDepth 10000 in
theorem m_walked2 {ms : tA} {s n : Nat} {w : Nat → Nat} (hc : call = sxE sc (d + 5)) (hW : wOK s n w) (hM : msW ms s n w) (q : Q (some (.int (nI (pos s w n)))) (cW nw kp im ol sn sr tp (mW (mk.1, mk.2.1, ms, mk.2.2.2.1, mk.2.2.2.2.1, mk.2.2.2.2.2.1, mk.2.2.2.2.2.2.1, mk.2.2.2.2.2.2.2.1, mk.2.2.2.2.2.2.2.2.1, mk.2.2.2.2.2.2.2.2.2) mg mt mc T))) : call 185 [.ref 59, .int 2] (cW nw kp im ol sn sr tp (mW (mk.1, mk.2.1, ms, mk.2.2.2.1, mk.2.2.2.2.1, mk.2.2.2.2.2.1, mk.2.2.2.2.2.2.1, mk.2.2.2.2.2.2.2.1, mk.2.2.2.2.2.2.2.2.1, mk.2.2.2.2.2.2.2.2.2) mg mt mc T)) Q := by
  refine ent hc rfl (fun cl hE hm => ?_)
  have hp49 := pos_lt hW n (Nat.le_refl _)
  have hn40 := hW.2.1
  have hs49 := hW.1
  refine stp hm 2 (?_ : sxWP sc cl Q 185 (54, [some (.ref 59), some (.int 2)], [], (cW nw kp im ol sn sr tp (mW (mk.1, mk.2.1, ms, mk.2.2.2.1, mk.2.2.2.2.1, mk.2.2.2.2.2.1, mk.2.2.2.2.2.2.1, mk.2.2.2.2.2.2.2.1, mk.2.2.2.2.2.2.2.2.1, mk.2.2.2.2.2.2.2.2.2) mg mt mc T)), 0, 0))
  refine stp hm 2 (m_end hE hW hM ?_)
  show sxWP sc cl Q 185 (58, [some (.ref 59), some (.int 2)], [.int (nI (pos s w n))], (cW nw kp im ol sn sr tp (mW (mk.1, mk.2.1, ms, mk.2.2.2.1, mk.2.2.2.2.1, mk.2.2.2.2.2.1, mk.2.2.2.2.2.2.1, mk.2.2.2.2.2.2.2.1, mk.2.2.2.2.2.2.2.2.1, mk.2.2.2.2.2.2.2.2.2) mg mt mc T)), 0, 0)
  refine stp hm 1 ?_
  show Q (some (.int (nI (pos s w n)))) (cW nw kp im ol sn sr tp (mW (mk.1, mk.2.1, ms, mk.2.2.2.1, mk.2.2.2.2.1, mk.2.2.2.2.2.1, mk.2.2.2.2.2.2.1, mk.2.2.2.2.2.2.2.1, mk.2.2.2.2.2.2.2.2.1, mk.2.2.2.2.2.2.2.2.2) mg mt mc T))
  exact q
set_option maxRecDepth 10000 in
theorem m_walked3 {ms : tA} {s n : Nat} {w : Nat → Nat} (hc : call = sxE sc (d + 5)) (hW : wOK s n w) (hM : msW ms s n w) (h1 : pos s w n = s → Q (some (.int 1)) (cW nw kp im ol sn sr tp (mW (mk.1, mk.2.1, ms, mk.2.2.2.1, mk.2.2.2.2.1, mk.2.2.2.2.2.1, mk.2.2.2.2.2.2.1, mk.2.2.2.2.2.2.2.1, mk.2.2.2.2.2.2.2.2.1, mk.2.2.2.2.2.2.2.2.2) mg mt mc T))) (h0 : ¬ pos s w n = s → Q (some (.int 0)) (cW nw kp im ol sn sr tp (mW (mk.1, mk.2.1, ms, mk.2.2.2.1, mk.2.2.2.2.1, mk.2.2.2.2.2.1, mk.2.2.2.2.2.2.1, mk.2.2.2.2.2.2.2.1, mk.2.2.2.2.2.2.2.2.1, mk.2.2.2.2.2.2.2.2.2) mg mt mc T))) : call 185 [.ref 59, .int 3] (cW nw kp im ol sn sr tp (mW (mk.1, mk.2.1, ms, mk.2.2.2.1, mk.2.2.2.2.1, mk.2.2.2.2.2.1, mk.2.2.2.2.2.2.1, mk.2.2.2.2.2.2.2.1, mk.2.2.2.2.2.2.2.2.1, mk.2.2.2.2.2.2.2.2.2) mg mt mc T)) Q := by
  refine ent hc rfl (fun cl hE hm => ?_)
  have hp49 := pos_lt hW n (Nat.le_refl _)
  have hn40 := hW.2.1
  have hs49 := hW.1
  refine stp hm 2 (?_ : sxWP sc cl Q 185 (59, [some (.ref 59), some (.int 3)], [], (cW nw kp im ol sn sr tp (mW (mk.1, mk.2.1, ms, mk.2.2.2.1, mk.2.2.2.2.1, mk.2.2.2.2.2.1, mk.2.2.2.2.2.2.1, mk.2.2.2.2.2.2.2.1, mk.2.2.2.2.2.2.2.2.1, mk.2.2.2.2.2.2.2.2.2) mg mt mc T)), 0, 0))
  refine stp hm 2 (m_end hE hW hM ?_)
  show sxWP sc cl Q 185 (63, [some (.ref 59), some (.int 3)], [.int (nI (pos s w n))], (cW nw kp im ol sn sr tp (mW (mk.1, mk.2.1, ms, mk.2.2.2.1, mk.2.2.2.2.1, mk.2.2.2.2.2.1, mk.2.2.2.2.2.2.1, mk.2.2.2.2.2.2.2.1, mk.2.2.2.2.2.2.2.2.1, mk.2.2.2.2.2.2.2.2.2) mg mt mc T)), 0, 0)
  refine stp hm 4 (And.intro (inN (k := 1) (by omega) (by decide)) (?_ : sxWP sc cl Q 185 (69, [some (.ref 59), some (.int 3)], [.int (ms (1 : Int32).toNatClampNeg), .int (nI (pos s w n))], (cW nw kp im ol sn sr tp (mW (mk.1, mk.2.1, ms, mk.2.2.2.1, mk.2.2.2.2.1, mk.2.2.2.2.2.1, mk.2.2.2.2.2.2.1, mk.2.2.2.2.2.2.2.1, mk.2.2.2.2.2.2.2.2.1, mk.2.2.2.2.2.2.2.2.2) mg mt mc T)), 0, 0)))
  rw [show ms (1 : Int32).toNatClampNeg = nI s from hM.1]
  refine stp hm 1 (And.intro (fun c2 => ?_) (fun c2 => ?_))
  · have c2 : ¬ (nI (pos s w n)) = (nI s) := c2
    have c2 : ¬ (pos s w n) = s := fun q => c2 ((nI_eq (a := (pos s w n)) (b := s) (by omega) (by omega)).mpr q)
    refine stp hm 2 ?_
    show Q (some (.int 0)) (cW nw kp im ol sn sr tp (mW (mk.1, mk.2.1, ms, mk.2.2.2.1, mk.2.2.2.2.1, mk.2.2.2.2.2.1, mk.2.2.2.2.2.2.1, mk.2.2.2.2.2.2.2.1, mk.2.2.2.2.2.2.2.2.1, mk.2.2.2.2.2.2.2.2.2) mg mt mc T))
    exact h0 c2
  · have c2 : (nI (pos s w n)) = (nI s) := c2
    have c2 : (pos s w n) = s := (nI_eq (a := (pos s w n)) (b := s) (by omega) (by omega)).mp c2
    refine stp hm 3 ?_
    show Q (some (.int 1)) (cW nw kp im ol sn sr tp (mW (mk.1, mk.2.1, ms, mk.2.2.2.1, mk.2.2.2.2.1, mk.2.2.2.2.2.1, mk.2.2.2.2.2.2.1, mk.2.2.2.2.2.2.2.1, mk.2.2.2.2.2.2.2.2.1, mk.2.2.2.2.2.2.2.2.2) mg mt mc T))
    exact h1 c2
set_option maxRecDepth 10000 in
theorem m_walked4 {ms : tA} {s n : Nat} {w : Nat → Nat} (hc : call = sxE sc (d + 5)) (hW : wOK s n w) (hM : msW ms s n w) (q : ∀ f, Q (some (.int (nI (shr w n).length))) (cW nw kp im ol sn sr tp (mW (mk.1, mk.2.1, ms, mk.2.2.2.1, mk.2.2.2.2.1, mk.2.2.2.2.2.1, mk.2.2.2.2.2.2.1, mk.2.2.2.2.2.2.2.1, mk.2.2.2.2.2.2.2.2.1, mk.2.2.2.2.2.2.2.2.2) (mg.1, f, mg.2.2.1, mg.2.2.2.1, mg.2.2.2.2.1, mg.2.2.2.2.2.1, mg.2.2.2.2.2.2.1, mg.2.2.2.2.2.2.2.1, mg.2.2.2.2.2.2.2.2.1, mg.2.2.2.2.2.2.2.2.2.1, mg.2.2.2.2.2.2.2.2.2.2.1, mg.2.2.2.2.2.2.2.2.2.2.2.1, mg.2.2.2.2.2.2.2.2.2.2.2.2) mt mc T))) : call 185 [.ref 59, .int 4] (cW nw kp im ol sn sr tp (mW (mk.1, mk.2.1, ms, mk.2.2.2.1, mk.2.2.2.2.1, mk.2.2.2.2.2.1, mk.2.2.2.2.2.2.1, mk.2.2.2.2.2.2.2.1, mk.2.2.2.2.2.2.2.2.1, mk.2.2.2.2.2.2.2.2.2) mg mt mc T)) Q := by
  refine ent hc rfl (fun cl hE hm => ?_)
  have hp49 := pos_lt hW n (Nat.le_refl _)
  have hn40 := hW.2.1
  have hs49 := hW.1
  refine stp hm 2 (?_ : sxWP sc cl Q 185 (78, [some (.ref 59), some (.int 4)], [], (cW nw kp im ol sn sr tp (mW (mk.1, mk.2.1, ms, mk.2.2.2.1, mk.2.2.2.2.1, mk.2.2.2.2.2.1, mk.2.2.2.2.2.2.1, mk.2.2.2.2.2.2.2.1, mk.2.2.2.2.2.2.2.2.1, mk.2.2.2.2.2.2.2.2.2) mg mt mc T)), 0, 0))
  refine stp hm 2 (m_shortened hE hW hM (fun f => ?_))
  show sxWP sc cl Q 185 (82, [some (.ref 59), some (.int 4)], [.int (nI (shr w n).length)], (cW nw kp im ol sn sr tp (mW (mk.1, mk.2.1, ms, mk.2.2.2.1, mk.2.2.2.2.1, mk.2.2.2.2.2.1, mk.2.2.2.2.2.2.1, mk.2.2.2.2.2.2.2.1, mk.2.2.2.2.2.2.2.2.1, mk.2.2.2.2.2.2.2.2.2) (mg.1, f, mg.2.2.1, mg.2.2.2.1, mg.2.2.2.2.1, mg.2.2.2.2.2.1, mg.2.2.2.2.2.2.1, mg.2.2.2.2.2.2.2.1, mg.2.2.2.2.2.2.2.2.1, mg.2.2.2.2.2.2.2.2.2.1, mg.2.2.2.2.2.2.2.2.2.2.1, mg.2.2.2.2.2.2.2.2.2.2.2.1, mg.2.2.2.2.2.2.2.2.2.2.2.2) mt mc T)), 0, 0)
  refine stp hm 1 ?_
  show Q (some (.int (nI (shr w n).length))) (cW nw kp im ol sn sr tp (mW (mk.1, mk.2.1, ms, mk.2.2.2.1, mk.2.2.2.2.1, mk.2.2.2.2.2.1, mk.2.2.2.2.2.2.1, mk.2.2.2.2.2.2.2.1, mk.2.2.2.2.2.2.2.2.1, mk.2.2.2.2.2.2.2.2.2) (mg.1, f, mg.2.2.1, mg.2.2.2.1, mg.2.2.2.2.1, mg.2.2.2.2.2.1, mg.2.2.2.2.2.2.1, mg.2.2.2.2.2.2.2.1, mg.2.2.2.2.2.2.2.2.1, mg.2.2.2.2.2.2.2.2.2.1, mg.2.2.2.2.2.2.2.2.2.2.1, mg.2.2.2.2.2.2.2.2.2.2.2.1, mg.2.2.2.2.2.2.2.2.2.2.2.2) mt mc T))
  exact q f
set_option maxRecDepth 10000 in
theorem m_walked5 {ms : tA} {s n : Nat} {w : Nat → Nat} (hc : call = sxE sc (d + 5)) (hW : wOK s n w) (hM : msW ms s n w) (q : Q (some (.int (iZ (risN s w n) + 1000))) (cW nw kp im ol sn sr tp (mW (mk.1, mk.2.1, ms, mk.2.2.2.1, mk.2.2.2.2.1, mk.2.2.2.2.2.1, mk.2.2.2.2.2.2.1, mk.2.2.2.2.2.2.2.1, mk.2.2.2.2.2.2.2.2.1, mk.2.2.2.2.2.2.2.2.2) mg mt mc T))) : call 185 [.ref 59, .int 5] (cW nw kp im ol sn sr tp (mW (mk.1, mk.2.1, ms, mk.2.2.2.1, mk.2.2.2.2.1, mk.2.2.2.2.2.1, mk.2.2.2.2.2.2.1, mk.2.2.2.2.2.2.2.1, mk.2.2.2.2.2.2.2.2.1, mk.2.2.2.2.2.2.2.2.2) mg mt mc T)) Q := by
  refine ent hc rfl (fun cl hE hm => ?_)
  have hp49 := pos_lt hW n (Nat.le_refl _)
  have hn40 := hW.2.1
  have hs49 := hW.1
  refine stp hm 2 (?_ : sxWP sc cl Q 185 (83, [some (.ref 59), some (.int 5)], [], (cW nw kp im ol sn sr tp (mW (mk.1, mk.2.1, ms, mk.2.2.2.1, mk.2.2.2.2.1, mk.2.2.2.2.2.1, mk.2.2.2.2.2.2.1, mk.2.2.2.2.2.2.2.1, mk.2.2.2.2.2.2.2.2.1, mk.2.2.2.2.2.2.2.2.2) mg mt mc T)), 0, 0))
  refine stp hm 2 (m_walkedHeight hE hW hM ?_)
  show sxWP sc cl Q 185 (87, [some (.ref 59), some (.int 5)], [.int (iZ (risN s w n))], (cW nw kp im ol sn sr tp (mW (mk.1, mk.2.1, ms, mk.2.2.2.1, mk.2.2.2.2.1, mk.2.2.2.2.2.1, mk.2.2.2.2.2.2.1, mk.2.2.2.2.2.2.2.1, mk.2.2.2.2.2.2.2.2.1, mk.2.2.2.2.2.2.2.2.2) mg mt mc T)), 0, 0)
  refine stp hm 3 ?_
  show Q (some (.int ((iZ (risN s w n)) + 1000))) (cW nw kp im ol sn sr tp (mW (mk.1, mk.2.1, ms, mk.2.2.2.1, mk.2.2.2.2.1, mk.2.2.2.2.2.1, mk.2.2.2.2.2.2.1, mk.2.2.2.2.2.2.2.1, mk.2.2.2.2.2.2.2.2.1, mk.2.2.2.2.2.2.2.2.2) mg mt mc T))
  exact q
set_option maxRecDepth 10000 in
theorem x_windsF {rg : Int64} {ld : Int32} {mts : tA} {pw pr : tA} {se ev pg : tRo} {s n : Nat} {w : Nat → Nat} {x : Int32} (hc : call = sxE sc (d + 2)) (hx : oor 36 x) (q : Q (some (.int (-1))) (cW (rg, ld, mts, ((nI s), (nI n), pw, pr), se, ev, pg) kp im ol sn sr tp (mW mk mg mt mc T))) : call 111 [.ref 0, .int x] (cW (rg, ld, mts, ((nI s), (nI n), pw, pr), se, ev, pg) kp im ol sn sr tp (mW mk mg mt mc T)) Q := by
  refine ent hc rfl (fun cl hE hm => ?_)
  refine stp hm 2 (x_isCellF hE hx ?_)
  show sxWP sc cl Q 111 (4, [some (.ref 0), some (.int x)], [.int 0], (cW (rg, ld, mts, ((nI s), (nI n), pw, pr), se, ev, pg) kp im ol sn sr tp (mW mk mg mt mc T)), 0, 0)
  refine stp hm 1 (bNF (by decide) ?_)
  refine stp hm 2 ?_
  show Q (some (.int (-1))) (cW (rg, ld, mts, ((nI s), (nI n), pw, pr), se, ev, pg) kp im ol sn sr tp (mW mk mg mt mc T))
  exact q
set_option maxRecDepth 10000 in
theorem m_windsF {ms : tA} {s n : Nat} {w : Nat → Nat} {x : Int32} (hc : call = sxE sc (d + 3)) (hx : oor 36 x) (q : Q (some (.int (-1))) (cW nw kp im ol sn sr tp (mW (mk.1, mk.2.1, ms, mk.2.2.2.1, mk.2.2.2.2.1, mk.2.2.2.2.2.1, mk.2.2.2.2.2.2.1, mk.2.2.2.2.2.2.2.1, mk.2.2.2.2.2.2.2.2.1, mk.2.2.2.2.2.2.2.2.2) mg mt mc T))) : call 186 [.ref 59, .int x] (cW nw kp im ol sn sr tp (mW (mk.1, mk.2.1, ms, mk.2.2.2.1, mk.2.2.2.2.1, mk.2.2.2.2.2.1, mk.2.2.2.2.2.2.1, mk.2.2.2.2.2.2.2.1, mk.2.2.2.2.2.2.2.2.1, mk.2.2.2.2.2.2.2.2.2) mg mt mc T)) Q := by
  refine ent hc rfl (fun cl hE hm => ?_)
  refine stp hm 2 (m_isCellF hE hx ?_)
  show sxWP sc cl Q 186 (4, [some (.ref 59), some (.int x), none, none, none, none, none], [.int 0], (cW nw kp im ol sn sr tp (mW (mk.1, mk.2.1, ms, mk.2.2.2.1, mk.2.2.2.2.1, mk.2.2.2.2.2.1, mk.2.2.2.2.2.2.1, mk.2.2.2.2.2.2.2.1, mk.2.2.2.2.2.2.2.2.1, mk.2.2.2.2.2.2.2.2.2) mg mt mc T)), 0, 0)
  refine stp hm 1 (bNF (by decide) ?_)
  refine stp hm 2 ?_
  show Q (some (.int (-1))) (cW nw kp im ol sn sr tp (mW (mk.1, mk.2.1, ms, mk.2.2.2.1, mk.2.2.2.2.1, mk.2.2.2.2.2.1, mk.2.2.2.2.2.2.1, mk.2.2.2.2.2.2.2.1, mk.2.2.2.2.2.2.2.2.1, mk.2.2.2.2.2.2.2.2.2) mg mt mc T))
  exact q
set_option maxRecDepth 10000 in
theorem x_windsT {rg : Int64} {ld : Int32} {mts : tA} {pw pr : tA} {se ev pg : tRo} {s n : Nat} {w : Nat → Nat} {v : Nat} (hc : call = sxE sc (d + 5)) (hW : wOK s n w) (hpw : ∀ i, i < n → pw i = nI (w i)) (hv : v < 36) (h1 : pos s w n = s → Q (some (.int (iZ (wndN s w v n) + 100))) (cW (rg, ld, mts, ((nI s), (nI n), pw, pr), se, ev, pg) kp im ol sn sr tp (mW mk mg mt mc T))) (h0 : ¬ pos s w n = s → Q (some (.int (-3))) (cW (rg, ld, mts, ((nI s), (nI n), pw, pr), se, ev, pg) kp im ol sn sr tp (mW mk mg mt mc T))) : call 111 [.ref 0, .int (nI v)] (cW (rg, ld, mts, ((nI s), (nI n), pw, pr), se, ev, pg) kp im ol sn sr tp (mW mk mg mt mc T)) Q := by
  refine ent hc rfl (fun cl hE hm => ?_)
  have hp49 := pos_lt hW n (Nat.le_refl _)
  have hn40 := hW.2.1
  have hs49 := hW.1
  refine stp hm 2 (x_isCellT hE hv ?_)
  show sxWP sc cl Q 111 (4, [some (.ref 0), some (.int (nI v))], [.int 1], (cW (rg, ld, mts, ((nI s), (nI n), pw, pr), se, ev, pg) kp im ol sn sr tp (mW mk mg mt mc T)), 0, 0)
  refine stp hm 1 (bNT (by decide) ?_)
  refine stp hm 4 (x_isClosed hE hW hpw (fun c2 => ?_) (fun c2 => ?_))
  · show sxWP sc cl Q 111 (19, [some (.ref 0), some (.int (nI v))], [.int 1], (cW (rg, ld, mts, ((nI s), (nI n), pw, pr), se, ev, pg) kp im ol sn sr tp (mW mk mg mt mc T)), 0, 0)
    refine stp hm 1 (bF (by decide) ?_)
    refine stp hm 5 (x_turnsRound hE hW hpw hv ?_)
    show sxWP sc cl Q 111 (33, [some (.ref 0), some (.int (nI v))], [.int (iZ (wndN s w v n))], (cW (rg, ld, mts, ((nI s), (nI n), pw, pr), se, ev, pg) kp im ol sn sr tp (mW mk mg mt mc T)), 0, 0)
    refine stp hm 4 ?_
    show Q (some (.int ((iZ (wndN s w v n)) + 100))) (cW (rg, ld, mts, ((nI s), (nI n), pw, pr), se, ev, pg) kp im ol sn sr tp (mW mk mg mt mc T))
    exact h1 c2
  · show sxWP sc cl Q 111 (19, [some (.ref 0), some (.int (nI v))], [.int 0], (cW (rg, ld, mts, ((nI s), (nI n), pw, pr), se, ev, pg) kp im ol sn sr tp (mW mk mg mt mc T)), 0, 0)
    refine stp hm 1 (bT (by decide) ?_)
    refine stp hm 2 ?_
    show Q (some (.int (-3))) (cW (rg, ld, mts, ((nI s), (nI n), pw, pr), se, ev, pg) kp im ol sn sr tp (mW mk mg mt mc T))
    exact h0 c2
set_option maxRecDepth 10000 in
theorem m_windsT {ms : tA} {s n : Nat} {w : Nat → Nat} {v : Nat} (hc : call = sxE sc (d + 5)) (hW : wOK s n w) (hM : msW ms s n w) (hv : v < 36) (h1 : pos s w n = s → Q (some (.int (iZ (wndN s w v n) + 100))) (cW nw kp im ol sn sr tp (mW (mk.1, mk.2.1, ms, mk.2.2.2.1, mk.2.2.2.2.1, mk.2.2.2.2.2.1, mk.2.2.2.2.2.2.1, mk.2.2.2.2.2.2.2.1, mk.2.2.2.2.2.2.2.2.1, mk.2.2.2.2.2.2.2.2.2) mg mt mc T))) (h0 : ¬ pos s w n = s → Q (some (.int (-3))) (cW nw kp im ol sn sr tp (mW (mk.1, mk.2.1, ms, mk.2.2.2.1, mk.2.2.2.2.1, mk.2.2.2.2.2.1, mk.2.2.2.2.2.2.1, mk.2.2.2.2.2.2.2.1, mk.2.2.2.2.2.2.2.2.1, mk.2.2.2.2.2.2.2.2.2) mg mt mc T))) : call 186 [.ref 59, .int (nI v)] (cW nw kp im ol sn sr tp (mW (mk.1, mk.2.1, ms, mk.2.2.2.1, mk.2.2.2.2.1, mk.2.2.2.2.2.1, mk.2.2.2.2.2.2.1, mk.2.2.2.2.2.2.2.1, mk.2.2.2.2.2.2.2.2.1, mk.2.2.2.2.2.2.2.2.2) mg mt mc T)) Q := by
  refine ent hc rfl (fun cl hE hm => ?_)
  have hp49 := pos_lt hW n (Nat.le_refl _)
  have hn40 := hW.2.1
  have hs49 := hW.1
  have body : pos s w n = s → sxWP sc cl Q 186 (25, [some (.ref 59), some (.int (nI v)), none, none, none, none, none], [], (cW nw kp im ol sn sr tp (mW (mk.1, mk.2.1, ms, mk.2.2.2.1, mk.2.2.2.2.1, mk.2.2.2.2.2.1, mk.2.2.2.2.2.2.1, mk.2.2.2.2.2.2.2.1, mk.2.2.2.2.2.2.2.2.1, mk.2.2.2.2.2.2.2.2.2) mg mt mc T)), 0, 0) := by
    intro hcl
    have loop : ∀ q k, k + q = n → ∀ o5 o6 : Option Value, sxWP sc cl Q 186 (37, [some (.ref 59), some (.int (nI v)), some (.int (nI (pos s w k))), some (.int (iZ (wndN s w v k))), some (.int (nI k)), o5, o6], [], (cW nw kp im ol sn sr tp (mW (mk.1, mk.2.1, ms, mk.2.2.2.1, mk.2.2.2.2.1, mk.2.2.2.2.2.1, mk.2.2.2.2.2.2.1, mk.2.2.2.2.2.2.2.1, mk.2.2.2.2.2.2.2.2.1, mk.2.2.2.2.2.2.2.2.2) mg mt mc T)), 0, 0) := by
      intro q
      induction q with
      | zero =>
        intro k hk o5 o6
        have hk : n = k := by omega
        rw [← hk]
        clear hk
        refine stp hm 5 (And.intro (inN (k := 2) (by omega) (by decide)) (?_ : sxWP sc cl Q 186 (45, [some (.ref 59), some (.int (nI v)), some (.int (nI (pos s w n))), some (.int (iZ (wndN s w v n))), some (.int (nI n)), o5, o6], [.int (ms (2 : Int32).toNatClampNeg), .int (nI n)], (cW nw kp im ol sn sr tp (mW (mk.1, mk.2.1, ms, mk.2.2.2.1, mk.2.2.2.2.1, mk.2.2.2.2.2.1, mk.2.2.2.2.2.2.1, mk.2.2.2.2.2.2.2.1, mk.2.2.2.2.2.2.2.2.1, mk.2.2.2.2.2.2.2.2.2) mg mt mc T)), 0, 0)))
        rw [show ms (2 : Int32).toNatClampNeg = nI n from hM.2.1]
        refine stp hm 1 (bT (geT (Nat.le_refl _) (by omega)) ?_)
        refine stp hm 4 ?_
        show Q (some (.int ((iZ (wndN s w v n)) + 100))) (cW nw kp im ol sn sr tp (mW (mk.1, mk.2.1, ms, mk.2.2.2.1, mk.2.2.2.2.1, mk.2.2.2.2.2.1, mk.2.2.2.2.2.2.1, mk.2.2.2.2.2.2.2.1, mk.2.2.2.2.2.2.2.2.1, mk.2.2.2.2.2.2.2.2.2) mg mt mc T))
        exact h1 hcl
      | succ q ih =>
        intro k hk o5 o6
        have hv7 := pos_lt hW k (by omega)
        have hv1 := pos_lt hW (k + 1) (by omega)
        have hw4 := (hW.2.2 k (by omega)).1
        have hnx0 := (hW.2.2 k (by omega)).2
        have hpe : (nxN (pos s w k) (w k)).toNat = pos s w (k + 1) := rfl
        refine stp hm 5 (And.intro (inN (k := 2) (by omega) (by decide)) (?_ : sxWP sc cl Q 186 (45, [some (.ref 59), some (.int (nI v)), some (.int (nI (pos s w k))), some (.int (iZ (wndN s w v k))), some (.int (nI k)), o5, o6], [.int (ms (2 : Int32).toNatClampNeg), .int (nI k)], (cW nw kp im ol sn sr tp (mW (mk.1, mk.2.1, ms, mk.2.2.2.1, mk.2.2.2.2.1, mk.2.2.2.2.2.1, mk.2.2.2.2.2.2.1, mk.2.2.2.2.2.2.2.1, mk.2.2.2.2.2.2.2.2.1, mk.2.2.2.2.2.2.2.2.2) mg mt mc T)), 0, 0)))
        rw [show ms (2 : Int32).toNatClampNeg = nI n from hM.2.1]
        refine stp hm 1 (bF (geF (by omega) (by omega)) ?_)
        refine stp hm 5 (?_ : sxWP sc cl Q 186 (57, [some (.ref 59), some (.int (nI v)), some (.int (nI (pos s w k))), some (.int (iZ (wndN s w v k))), some (.int (nI k)), o5, o6], [.int (42 + (nI k)), .ref 60], (cW nw kp im ol sn sr tp (mW (mk.1, mk.2.1, ms, mk.2.2.2.1, mk.2.2.2.2.1, mk.2.2.2.2.2.1, mk.2.2.2.2.2.2.1, mk.2.2.2.2.2.2.2.1, mk.2.2.2.2.2.2.2.2.1, mk.2.2.2.2.2.2.2.2.2) mg mt mc T)), 0, 0))
        rw [show 42 + (nI k) = nI (42 + k) from nI_add 42 k]
        refine stp hm 1 (And.intro (inN (k := (42 + k)) (by omega) (by decide)) (?_ : sxWP sc cl Q 186 (58, [some (.ref 59), some (.int (nI v)), some (.int (nI (pos s w k))), some (.int (iZ (wndN s w v k))), some (.int (nI k)), o5, o6], [.int (ms (nI (42 + k)).toNatClampNeg)], (cW nw kp im ol sn sr tp (mW (mk.1, mk.2.1, ms, mk.2.2.2.1, mk.2.2.2.2.1, mk.2.2.2.2.2.1, mk.2.2.2.2.2.2.1, mk.2.2.2.2.2.2.2.1, mk.2.2.2.2.2.2.2.2.1, mk.2.2.2.2.2.2.2.2.2) mg mt mc T)), 0, 0)))
        rw [show ms (nI (42 + k)).toNatClampNeg = nI (w k) from by rw [nI_clamp (by omega)]; exact hM.2.2 k (by omega)]
        refine stp hm 4 (m_onByP hE hW (by omega) ?_)
        show sxWP sc cl Q 186 (66, [some (.ref 59), some (.int (nI v)), some (.int (nI (pos s w k))), some (.int (iZ (wndN s w v k))), some (.int (nI k)), some (.int (nI (w k))), o6], [.int (nI (pos s w (k + 1)))], (cW nw kp im ol sn sr tp (mW (mk.1, mk.2.1, ms, mk.2.2.2.1, mk.2.2.2.2.1, mk.2.2.2.2.2.1, mk.2.2.2.2.2.2.1, mk.2.2.2.2.2.2.2.1, mk.2.2.2.2.2.2.2.2.1, mk.2.2.2.2.2.2.2.2.2) mg mt mc T)), 0, 0)
        refine stp hm 4 (And.intro (by decide) (?_ : sxWP sc cl Q 186 (72, [some (.ref 59), some (.int (nI v)), some (.int (nI (pos s w k))), some (.int (iZ (wndN s w v k))), some (.int (nI k)), some (.int (nI (w k))), some (.int (nI (pos s w (k + 1))))], [.int ((nI (pos s w k)) - (nI (pos s w k)) / 7 * 7)], (cW nw kp im ol sn sr tp (mW (mk.1, mk.2.1, ms, mk.2.2.2.1, mk.2.2.2.2.1, mk.2.2.2.2.2.1, mk.2.2.2.2.2.2.1, mk.2.2.2.2.2.2.2.1, mk.2.2.2.2.2.2.2.2.1, mk.2.2.2.2.2.2.2.2.2) mg mt mc T)), 0, 0)))
        rw [show (nI (pos s w k)) - (nI (pos s w k)) / 7 * 7 = nI ((pos s w k) % 7) from pk_rem (d := 7) (by omega) (by decide) (by decide)]
        refine stp hm 3 (And.intro (by decide) (?_ : sxWP sc cl Q 186 (76, [some (.ref 59), some (.int (nI v)), some (.int (nI (pos s w k))), some (.int (iZ (wndN s w v k))), some (.int (nI k)), some (.int (nI (w k))), some (.int (nI (pos s w (k + 1))))], [.int ((nI v) - (nI v) / 6 * 6), .int (nI ((pos s w k) % 7))], (cW nw kp im ol sn sr tp (mW (mk.1, mk.2.1, ms, mk.2.2.2.1, mk.2.2.2.2.1, mk.2.2.2.2.2.1, mk.2.2.2.2.2.2.1, mk.2.2.2.2.2.2.2.1, mk.2.2.2.2.2.2.2.2.1, mk.2.2.2.2.2.2.2.2.2) mg mt mc T)), 0, 0)))
        rw [show (nI v) - (nI v) / 6 * 6 = nI (v % 6) from pk_rem (d := 6) (by omega) (by decide) (by decide)]
        refine stp hm 1 (And.intro (fun c2 => ?_) (fun c2 => ?_))
        · have c2 : (nI ((pos s w k) % 7)) ≤ (nI (v % 6)) := c2
          have c2 : ((pos s w k) % 7) ≤ (v % 6) := (nI_leI (a := ((pos s w k) % 7)) (b := (v % 6)) (by omega) (by omega)).mp c2
          refine stp hm 3 (?_ : sxWP sc cl Q 186 (136, [some (.ref 59), some (.int (nI v)), some (.int (nI (pos s w (k + 1)))), some (.int (iZ (wndN s w v k))), some (.int ((nI k) + 1)), some (.int (nI (w k))), some (.int (nI (pos s w (k + 1))))], [], (cW nw kp im ol sn sr tp (mW (mk.1, mk.2.1, ms, mk.2.2.2.1, mk.2.2.2.2.1, mk.2.2.2.2.2.1, mk.2.2.2.2.2.2.1, mk.2.2.2.2.2.2.2.1, mk.2.2.2.2.2.2.2.2.1, mk.2.2.2.2.2.2.2.2.2) mg mt mc T)), 0, 0))
          rw [nI_1]
          refine stp hm 1 (?_ : sxWP sc cl Q 186 (37, [some (.ref 59), some (.int (nI v)), some (.int (nI (pos s w (k + 1)))), some (.int (iZ (wndN s w v k))), some (.int (nI (k + 1))), some (.int (nI (w k))), some (.int (nI (pos s w (k + 1))))], [], (cW nw kp im ol sn sr tp (mW (mk.1, mk.2.1, ms, mk.2.2.2.1, mk.2.2.2.2.1, mk.2.2.2.2.2.1, mk.2.2.2.2.2.2.1, mk.2.2.2.2.2.2.2.1, mk.2.2.2.2.2.2.2.2.1, mk.2.2.2.2.2.2.2.2.2) mg mt mc T)), 0, 0))
          have ew := wdM _ hv7 _ hw4 hnx0 v hv
          rw [if_neg (by omega)] at ew
          rw [show iZ (wndN s w v k) = iZ (wndN s w v (k + 1)) by show _ = iZ (wndN s w v k + wdN (pos s w k) (w k) v); rw [ew, Int.add_zero]]
          exact ih (k + 1) (by omega) _ _
        · have c2 : ¬ (nI ((pos s w k) % 7)) ≤ (nI (v % 6)) := c2
          have c2 : ¬ ((pos s w k) % 7) ≤ (v % 6) := fun q => c2 ((nI_leI (a := ((pos s w k) % 7)) (b := (v % 6)) (by omega) (by omega)).mpr q)
          refine stp hm 4 (And.intro (fun c3 => ?_) (fun c3 => ?_))
          · have c3 : ¬ (nI (w k)) = 1 := c3
            have c3 : ¬ (w k) = 1 := fun q => c3 ((nI_eq (a := (w k)) (b := 1) (by omega) (by omega)).mpr q)
            refine stp hm 7 (And.intro (fun c4 => ?_) (fun c4 => ?_))
            · have c4 : ¬ (nI (w k)) = 3 := c4
              have c4 : ¬ (w k) = 3 := fun q => c4 ((nI_eq (a := (w k)) (b := 3) (by omega) (by omega)).mpr q)
              refine stp hm 6 (?_ : sxWP sc cl Q 186 (136, [some (.ref 59), some (.int (nI v)), some (.int (nI (pos s w (k + 1)))), some (.int (((iZ (wndN s w v k)) + 0) - 0)), some (.int ((nI k) + 1)), some (.int (nI (w k))), some (.int (nI (pos s w (k + 1))))], [], (cW nw kp im ol sn sr tp (mW (mk.1, mk.2.1, ms, mk.2.2.2.1, mk.2.2.2.2.1, mk.2.2.2.2.2.1, mk.2.2.2.2.2.2.1, mk.2.2.2.2.2.2.2.1, mk.2.2.2.2.2.2.2.2.1, mk.2.2.2.2.2.2.2.2.2) mg mt mc T)), 0, 0))
              rw [nI_1]
              refine stp hm 1 (?_ : sxWP sc cl Q 186 (37, [some (.ref 59), some (.int (nI v)), some (.int (nI (pos s w (k + 1)))), some (.int (((iZ (wndN s w v k)) + 0) - 0)), some (.int (nI (k + 1))), some (.int (nI (w k))), some (.int (nI (pos s w (k + 1))))], [], (cW nw kp im ol sn sr tp (mW (mk.1, mk.2.1, ms, mk.2.2.2.1, mk.2.2.2.2.1, mk.2.2.2.2.2.1, mk.2.2.2.2.2.2.1, mk.2.2.2.2.2.2.2.1, mk.2.2.2.2.2.2.2.2.1, mk.2.2.2.2.2.2.2.2.2) mg mt mc T)), 0, 0))
              have ew := wdM _ hv7 _ hw4 hnx0 v hv
              rw [if_pos (by omega), if_neg (by omega), if_neg (by rw [hpe]; omega)] at ew
              rw [show ((iZ (wndN s w v k)) + 0) - 0 = iZ (wndN s w v (k + 1)) by show _ = iZ (wndN s w v k + wdN (pos s w k) (w k) v); rw [ew, iZ_a0, iZ_s0] <;> first | done | rfl | (congr 1; omega)]
              exact ih (k + 1) (by omega) _ _
            · have c4 : (nI (w k)) = 3 := c4
              have c4 : (w k) = 3 := (nI_eq (a := (w k)) (b := 3) (by omega) (by omega)).mp c4
              refine stp hm 3 (And.intro (by decide) (?_ : sxWP sc cl Q 186 (116, [some (.ref 59), some (.int (nI v)), some (.int (nI (pos s w k))), some (.int ((iZ (wndN s w v k)) + 0)), some (.int (nI k)), some (.int (nI (w k))), some (.int (nI (pos s w (k + 1))))], [.int ((nI (pos s w (k + 1))) / 7), .int ((iZ (wndN s w v k)) + 0)], (cW nw kp im ol sn sr tp (mW (mk.1, mk.2.1, ms, mk.2.2.2.1, mk.2.2.2.2.1, mk.2.2.2.2.2.1, mk.2.2.2.2.2.2.1, mk.2.2.2.2.2.2.2.1, mk.2.2.2.2.2.2.2.2.1, mk.2.2.2.2.2.2.2.2.2) mg mt mc T)), 0, 0)))
              rw [show (nI (pos s w (k + 1))) / 7 = nI ((pos s w (k + 1)) / 7) from pk_div (d := 7) (by omega) (by decide) (by decide)]
              refine stp hm 3 (And.intro (by decide) (?_ : sxWP sc cl Q 186 (120, [some (.ref 59), some (.int (nI v)), some (.int (nI (pos s w k))), some (.int ((iZ (wndN s w v k)) + 0)), some (.int (nI k)), some (.int (nI (w k))), some (.int (nI (pos s w (k + 1))))], [.int ((nI v) / 6), .int (nI ((pos s w (k + 1)) / 7)), .int ((iZ (wndN s w v k)) + 0)], (cW nw kp im ol sn sr tp (mW (mk.1, mk.2.1, ms, mk.2.2.2.1, mk.2.2.2.2.1, mk.2.2.2.2.2.1, mk.2.2.2.2.2.2.1, mk.2.2.2.2.2.2.2.1, mk.2.2.2.2.2.2.2.2.1, mk.2.2.2.2.2.2.2.2.2) mg mt mc T)), 0, 0)))
              rw [show (nI v) / 6 = nI (v / 6) from pk_div (d := 6) (by omega) (by decide) (by decide)]
              refine stp hm 1 (And.intro (fun c5 => ?_) (fun c5 => ?_))
              · have c5 : ¬ (nI ((pos s w (k + 1)) / 7)) = (nI (v / 6)) := c5
                have c5 : ¬ ((pos s w (k + 1)) / 7) = (v / 6) := fun q => c5 ((nI_eq (a := ((pos s w (k + 1)) / 7)) (b := (v / 6)) (by omega) (by omega)).mpr q)
                refine stp hm 6 (?_ : sxWP sc cl Q 186 (136, [some (.ref 59), some (.int (nI v)), some (.int (nI (pos s w (k + 1)))), some (.int (((iZ (wndN s w v k)) + 0) - 0)), some (.int ((nI k) + 1)), some (.int (nI (w k))), some (.int (nI (pos s w (k + 1))))], [], (cW nw kp im ol sn sr tp (mW (mk.1, mk.2.1, ms, mk.2.2.2.1, mk.2.2.2.2.1, mk.2.2.2.2.2.1, mk.2.2.2.2.2.2.1, mk.2.2.2.2.2.2.2.1, mk.2.2.2.2.2.2.2.2.1, mk.2.2.2.2.2.2.2.2.2) mg mt mc T)), 0, 0))
                rw [nI_1]
                refine stp hm 1 (?_ : sxWP sc cl Q 186 (37, [some (.ref 59), some (.int (nI v)), some (.int (nI (pos s w (k + 1)))), some (.int (((iZ (wndN s w v k)) + 0) - 0)), some (.int (nI (k + 1))), some (.int (nI (w k))), some (.int (nI (pos s w (k + 1))))], [], (cW nw kp im ol sn sr tp (mW (mk.1, mk.2.1, ms, mk.2.2.2.1, mk.2.2.2.2.1, mk.2.2.2.2.2.1, mk.2.2.2.2.2.2.1, mk.2.2.2.2.2.2.2.1, mk.2.2.2.2.2.2.2.2.1, mk.2.2.2.2.2.2.2.2.2) mg mt mc T)), 0, 0))
                have ew := wdM _ hv7 _ hw4 hnx0 v hv
                rw [if_pos (by omega), if_neg (by omega), if_neg (by rw [hpe]; omega)] at ew
                rw [show ((iZ (wndN s w v k)) + 0) - 0 = iZ (wndN s w v (k + 1)) by show _ = iZ (wndN s w v k + wdN (pos s w k) (w k) v); rw [ew, iZ_a0, iZ_s0] <;> first | done | rfl | (congr 1; omega)]
                exact ih (k + 1) (by omega) _ _
              · have c5 : (nI ((pos s w (k + 1)) / 7)) = (nI (v / 6)) := c5
                have c5 : ((pos s w (k + 1)) / 7) = (v / 6) := (nI_eq (a := ((pos s w (k + 1)) / 7)) (b := (v / 6)) (by omega) (by omega)).mp c5
                refine stp hm 7 (?_ : sxWP sc cl Q 186 (136, [some (.ref 59), some (.int (nI v)), some (.int (nI (pos s w (k + 1)))), some (.int (((iZ (wndN s w v k)) + 0) - 1)), some (.int ((nI k) + 1)), some (.int (nI (w k))), some (.int (nI (pos s w (k + 1))))], [], (cW nw kp im ol sn sr tp (mW (mk.1, mk.2.1, ms, mk.2.2.2.1, mk.2.2.2.2.1, mk.2.2.2.2.2.1, mk.2.2.2.2.2.2.1, mk.2.2.2.2.2.2.2.1, mk.2.2.2.2.2.2.2.2.1, mk.2.2.2.2.2.2.2.2.2) mg mt mc T)), 0, 0))
                rw [nI_1]
                refine stp hm 1 (?_ : sxWP sc cl Q 186 (37, [some (.ref 59), some (.int (nI v)), some (.int (nI (pos s w (k + 1)))), some (.int (((iZ (wndN s w v k)) + 0) - 1)), some (.int (nI (k + 1))), some (.int (nI (w k))), some (.int (nI (pos s w (k + 1))))], [], (cW nw kp im ol sn sr tp (mW (mk.1, mk.2.1, ms, mk.2.2.2.1, mk.2.2.2.2.1, mk.2.2.2.2.2.1, mk.2.2.2.2.2.2.1, mk.2.2.2.2.2.2.2.1, mk.2.2.2.2.2.2.2.2.1, mk.2.2.2.2.2.2.2.2.2) mg mt mc T)), 0, 0))
                have ew := wdM _ hv7 _ hw4 hnx0 v hv
                rw [if_pos (by omega), if_neg (by omega), if_pos ⟨by omega, by rw [hpe]; omega⟩] at ew
                rw [show ((iZ (wndN s w v k)) + 0) - 1 = iZ (wndN s w v (k + 1)) by show _ = iZ (wndN s w v k + wdN (pos s w k) (w k) v); rw [ew, iZ_a0, iZ_s1] <;> first | done | rfl | (congr 1; omega)]
                exact ih (k + 1) (by omega) _ _
          · have c3 : (nI (w k)) = 1 := c3
            have c3 : (w k) = 1 := (nI_eq (a := (w k)) (b := 1) (by omega) (by omega)).mp c3
            refine stp hm 3 (And.intro (by decide) (?_ : sxWP sc cl Q 186 (90, [some (.ref 59), some (.int (nI v)), some (.int (nI (pos s w k))), some (.int (iZ (wndN s w v k))), some (.int (nI k)), some (.int (nI (w k))), some (.int (nI (pos s w (k + 1))))], [.int ((nI (pos s w k)) / 7), .int (iZ (wndN s w v k))], (cW nw kp im ol sn sr tp (mW (mk.1, mk.2.1, ms, mk.2.2.2.1, mk.2.2.2.2.1, mk.2.2.2.2.2.1, mk.2.2.2.2.2.2.1, mk.2.2.2.2.2.2.2.1, mk.2.2.2.2.2.2.2.2.1, mk.2.2.2.2.2.2.2.2.2) mg mt mc T)), 0, 0)))
            rw [show (nI (pos s w k)) / 7 = nI ((pos s w k) / 7) from pk_div (d := 7) (by omega) (by decide) (by decide)]
            refine stp hm 3 (And.intro (by decide) (?_ : sxWP sc cl Q 186 (94, [some (.ref 59), some (.int (nI v)), some (.int (nI (pos s w k))), some (.int (iZ (wndN s w v k))), some (.int (nI k)), some (.int (nI (w k))), some (.int (nI (pos s w (k + 1))))], [.int ((nI v) / 6), .int (nI ((pos s w k) / 7)), .int (iZ (wndN s w v k))], (cW nw kp im ol sn sr tp (mW (mk.1, mk.2.1, ms, mk.2.2.2.1, mk.2.2.2.2.1, mk.2.2.2.2.2.1, mk.2.2.2.2.2.2.1, mk.2.2.2.2.2.2.2.1, mk.2.2.2.2.2.2.2.2.1, mk.2.2.2.2.2.2.2.2.2) mg mt mc T)), 0, 0)))
            rw [show (nI v) / 6 = nI (v / 6) from pk_div (d := 6) (by omega) (by decide) (by decide)]
            refine stp hm 1 (And.intro (fun c6 => ?_) (fun c6 => ?_))
            · have c6 : ¬ (nI ((pos s w k) / 7)) = (nI (v / 6)) := c6
              have c6 : ¬ ((pos s w k) / 7) = (v / 6) := fun q => c6 ((nI_eq (a := ((pos s w k) / 7)) (b := (v / 6)) (by omega) (by omega)).mpr q)
              refine stp hm 7 (And.intro (fun c7 => ?_) (fun c7 => ?_))
              · have c7 : ¬ (nI (w k)) = 3 := c7
                have c7 : ¬ (w k) = 3 := fun q => c7 ((nI_eq (a := (w k)) (b := 3) (by omega) (by omega)).mpr q)
                refine stp hm 6 (?_ : sxWP sc cl Q 186 (136, [some (.ref 59), some (.int (nI v)), some (.int (nI (pos s w (k + 1)))), some (.int (((iZ (wndN s w v k)) + 0) - 0)), some (.int ((nI k) + 1)), some (.int (nI (w k))), some (.int (nI (pos s w (k + 1))))], [], (cW nw kp im ol sn sr tp (mW (mk.1, mk.2.1, ms, mk.2.2.2.1, mk.2.2.2.2.1, mk.2.2.2.2.2.1, mk.2.2.2.2.2.2.1, mk.2.2.2.2.2.2.2.1, mk.2.2.2.2.2.2.2.2.1, mk.2.2.2.2.2.2.2.2.2) mg mt mc T)), 0, 0))
                rw [nI_1]
                refine stp hm 1 (?_ : sxWP sc cl Q 186 (37, [some (.ref 59), some (.int (nI v)), some (.int (nI (pos s w (k + 1)))), some (.int (((iZ (wndN s w v k)) + 0) - 0)), some (.int (nI (k + 1))), some (.int (nI (w k))), some (.int (nI (pos s w (k + 1))))], [], (cW nw kp im ol sn sr tp (mW (mk.1, mk.2.1, ms, mk.2.2.2.1, mk.2.2.2.2.1, mk.2.2.2.2.2.1, mk.2.2.2.2.2.2.1, mk.2.2.2.2.2.2.2.1, mk.2.2.2.2.2.2.2.2.1, mk.2.2.2.2.2.2.2.2.2) mg mt mc T)), 0, 0))
                have ew := wdM _ hv7 _ hw4 hnx0 v hv
                rw [if_pos (by omega), if_neg (by omega), if_neg (by rw [hpe]; omega)] at ew
                rw [show ((iZ (wndN s w v k)) + 0) - 0 = iZ (wndN s w v (k + 1)) by show _ = iZ (wndN s w v k + wdN (pos s w k) (w k) v); rw [ew, iZ_a0, iZ_s0] <;> first | done | rfl | (congr 1; omega)]
                exact ih (k + 1) (by omega) _ _
              · have c7 : (nI (w k)) = 3 := c7
                have c7 : (w k) = 3 := (nI_eq (a := (w k)) (b := 3) (by omega) (by omega)).mp c7
                refine stp hm 3 (And.intro (by decide) (?_ : sxWP sc cl Q 186 (116, [some (.ref 59), some (.int (nI v)), some (.int (nI (pos s w k))), some (.int ((iZ (wndN s w v k)) + 0)), some (.int (nI k)), some (.int (nI (w k))), some (.int (nI (pos s w (k + 1))))], [.int ((nI (pos s w (k + 1))) / 7), .int ((iZ (wndN s w v k)) + 0)], (cW nw kp im ol sn sr tp (mW (mk.1, mk.2.1, ms, mk.2.2.2.1, mk.2.2.2.2.1, mk.2.2.2.2.2.1, mk.2.2.2.2.2.2.1, mk.2.2.2.2.2.2.2.1, mk.2.2.2.2.2.2.2.2.1, mk.2.2.2.2.2.2.2.2.2) mg mt mc T)), 0, 0)))
                rw [show (nI (pos s w (k + 1))) / 7 = nI ((pos s w (k + 1)) / 7) from pk_div (d := 7) (by omega) (by decide) (by decide)]
                refine stp hm 3 (And.intro (by decide) (?_ : sxWP sc cl Q 186 (120, [some (.ref 59), some (.int (nI v)), some (.int (nI (pos s w k))), some (.int ((iZ (wndN s w v k)) + 0)), some (.int (nI k)), some (.int (nI (w k))), some (.int (nI (pos s w (k + 1))))], [.int ((nI v) / 6), .int (nI ((pos s w (k + 1)) / 7)), .int ((iZ (wndN s w v k)) + 0)], (cW nw kp im ol sn sr tp (mW (mk.1, mk.2.1, ms, mk.2.2.2.1, mk.2.2.2.2.1, mk.2.2.2.2.2.1, mk.2.2.2.2.2.2.1, mk.2.2.2.2.2.2.2.1, mk.2.2.2.2.2.2.2.2.1, mk.2.2.2.2.2.2.2.2.2) mg mt mc T)), 0, 0)))
                rw [show (nI v) / 6 = nI (v / 6) from pk_div (d := 6) (by omega) (by decide) (by decide)]
                refine stp hm 1 (And.intro (fun c8 => ?_) (fun c8 => ?_))
                · have c8 : ¬ (nI ((pos s w (k + 1)) / 7)) = (nI (v / 6)) := c8
                  have c8 : ¬ ((pos s w (k + 1)) / 7) = (v / 6) := fun q => c8 ((nI_eq (a := ((pos s w (k + 1)) / 7)) (b := (v / 6)) (by omega) (by omega)).mpr q)
                  refine stp hm 6 (?_ : sxWP sc cl Q 186 (136, [some (.ref 59), some (.int (nI v)), some (.int (nI (pos s w (k + 1)))), some (.int (((iZ (wndN s w v k)) + 0) - 0)), some (.int ((nI k) + 1)), some (.int (nI (w k))), some (.int (nI (pos s w (k + 1))))], [], (cW nw kp im ol sn sr tp (mW (mk.1, mk.2.1, ms, mk.2.2.2.1, mk.2.2.2.2.1, mk.2.2.2.2.2.1, mk.2.2.2.2.2.2.1, mk.2.2.2.2.2.2.2.1, mk.2.2.2.2.2.2.2.2.1, mk.2.2.2.2.2.2.2.2.2) mg mt mc T)), 0, 0))
                  rw [nI_1]
                  refine stp hm 1 (?_ : sxWP sc cl Q 186 (37, [some (.ref 59), some (.int (nI v)), some (.int (nI (pos s w (k + 1)))), some (.int (((iZ (wndN s w v k)) + 0) - 0)), some (.int (nI (k + 1))), some (.int (nI (w k))), some (.int (nI (pos s w (k + 1))))], [], (cW nw kp im ol sn sr tp (mW (mk.1, mk.2.1, ms, mk.2.2.2.1, mk.2.2.2.2.1, mk.2.2.2.2.2.1, mk.2.2.2.2.2.2.1, mk.2.2.2.2.2.2.2.1, mk.2.2.2.2.2.2.2.2.1, mk.2.2.2.2.2.2.2.2.2) mg mt mc T)), 0, 0))
                  have ew := wdM _ hv7 _ hw4 hnx0 v hv
                  rw [if_pos (by omega), if_neg (by omega), if_neg (by rw [hpe]; omega)] at ew
                  rw [show ((iZ (wndN s w v k)) + 0) - 0 = iZ (wndN s w v (k + 1)) by show _ = iZ (wndN s w v k + wdN (pos s w k) (w k) v); rw [ew, iZ_a0, iZ_s0] <;> first | done | rfl | (congr 1; omega)]
                  exact ih (k + 1) (by omega) _ _
                · have c8 : (nI ((pos s w (k + 1)) / 7)) = (nI (v / 6)) := c8
                  have c8 : ((pos s w (k + 1)) / 7) = (v / 6) := (nI_eq (a := ((pos s w (k + 1)) / 7)) (b := (v / 6)) (by omega) (by omega)).mp c8
                  refine stp hm 7 (?_ : sxWP sc cl Q 186 (136, [some (.ref 59), some (.int (nI v)), some (.int (nI (pos s w (k + 1)))), some (.int (((iZ (wndN s w v k)) + 0) - 1)), some (.int ((nI k) + 1)), some (.int (nI (w k))), some (.int (nI (pos s w (k + 1))))], [], (cW nw kp im ol sn sr tp (mW (mk.1, mk.2.1, ms, mk.2.2.2.1, mk.2.2.2.2.1, mk.2.2.2.2.2.1, mk.2.2.2.2.2.2.1, mk.2.2.2.2.2.2.2.1, mk.2.2.2.2.2.2.2.2.1, mk.2.2.2.2.2.2.2.2.2) mg mt mc T)), 0, 0))
                  rw [nI_1]
                  refine stp hm 1 (?_ : sxWP sc cl Q 186 (37, [some (.ref 59), some (.int (nI v)), some (.int (nI (pos s w (k + 1)))), some (.int (((iZ (wndN s w v k)) + 0) - 1)), some (.int (nI (k + 1))), some (.int (nI (w k))), some (.int (nI (pos s w (k + 1))))], [], (cW nw kp im ol sn sr tp (mW (mk.1, mk.2.1, ms, mk.2.2.2.1, mk.2.2.2.2.1, mk.2.2.2.2.2.1, mk.2.2.2.2.2.2.1, mk.2.2.2.2.2.2.2.1, mk.2.2.2.2.2.2.2.2.1, mk.2.2.2.2.2.2.2.2.2) mg mt mc T)), 0, 0))
                  have ew := wdM _ hv7 _ hw4 hnx0 v hv
                  rw [if_pos (by omega), if_neg (by omega), if_pos ⟨by omega, by rw [hpe]; omega⟩] at ew
                  rw [show ((iZ (wndN s w v k)) + 0) - 1 = iZ (wndN s w v (k + 1)) by show _ = iZ (wndN s w v k + wdN (pos s w k) (w k) v); rw [ew, iZ_a0, iZ_s1] <;> first | done | rfl | (congr 1; omega)]
                  exact ih (k + 1) (by omega) _ _
            · have c6 : (nI ((pos s w k) / 7)) = (nI (v / 6)) := c6
              have c6 : ((pos s w k) / 7) = (v / 6) := (nI_eq (a := ((pos s w k) / 7)) (b := (v / 6)) (by omega) (by omega)).mp c6
              refine stp hm 8 (And.intro (fun c9 => ?_) (fun c9 => ?_))
              · have c9 : ¬ (nI (w k)) = 3 := c9
                have c9 : ¬ (w k) = 3 := fun q => c9 ((nI_eq (a := (w k)) (b := 3) (by omega) (by omega)).mpr q)
                refine stp hm 6 (?_ : sxWP sc cl Q 186 (136, [some (.ref 59), some (.int (nI v)), some (.int (nI (pos s w (k + 1)))), some (.int (((iZ (wndN s w v k)) + 1) - 0)), some (.int ((nI k) + 1)), some (.int (nI (w k))), some (.int (nI (pos s w (k + 1))))], [], (cW nw kp im ol sn sr tp (mW (mk.1, mk.2.1, ms, mk.2.2.2.1, mk.2.2.2.2.1, mk.2.2.2.2.2.1, mk.2.2.2.2.2.2.1, mk.2.2.2.2.2.2.2.1, mk.2.2.2.2.2.2.2.2.1, mk.2.2.2.2.2.2.2.2.2) mg mt mc T)), 0, 0))
                rw [nI_1]
                refine stp hm 1 (?_ : sxWP sc cl Q 186 (37, [some (.ref 59), some (.int (nI v)), some (.int (nI (pos s w (k + 1)))), some (.int (((iZ (wndN s w v k)) + 1) - 0)), some (.int (nI (k + 1))), some (.int (nI (w k))), some (.int (nI (pos s w (k + 1))))], [], (cW nw kp im ol sn sr tp (mW (mk.1, mk.2.1, ms, mk.2.2.2.1, mk.2.2.2.2.1, mk.2.2.2.2.2.1, mk.2.2.2.2.2.2.1, mk.2.2.2.2.2.2.2.1, mk.2.2.2.2.2.2.2.2.1, mk.2.2.2.2.2.2.2.2.2) mg mt mc T)), 0, 0))
                have ew := wdM _ hv7 _ hw4 hnx0 v hv
                rw [if_pos (by omega), if_pos ⟨by omega, by omega⟩, if_neg (by rw [hpe]; omega)] at ew
                rw [show ((iZ (wndN s w v k)) + 1) - 0 = iZ (wndN s w v (k + 1)) by show _ = iZ (wndN s w v k + wdN (pos s w k) (w k) v); rw [ew, iZ_p1, iZ_s0] <;> first | done | rfl | (congr 1; omega)]
                exact ih (k + 1) (by omega) _ _
              · have c9 : (nI (w k)) = 3 := c9
                have c9 : (w k) = 3 := (nI_eq (a := (w k)) (b := 3) (by omega) (by omega)).mp c9
                refine stp hm 3 (And.intro (by decide) (?_ : sxWP sc cl Q 186 (116, [some (.ref 59), some (.int (nI v)), some (.int (nI (pos s w k))), some (.int ((iZ (wndN s w v k)) + 1)), some (.int (nI k)), some (.int (nI (w k))), some (.int (nI (pos s w (k + 1))))], [.int ((nI (pos s w (k + 1))) / 7), .int ((iZ (wndN s w v k)) + 1)], (cW nw kp im ol sn sr tp (mW (mk.1, mk.2.1, ms, mk.2.2.2.1, mk.2.2.2.2.1, mk.2.2.2.2.2.1, mk.2.2.2.2.2.2.1, mk.2.2.2.2.2.2.2.1, mk.2.2.2.2.2.2.2.2.1, mk.2.2.2.2.2.2.2.2.2) mg mt mc T)), 0, 0)))
                rw [show (nI (pos s w (k + 1))) / 7 = nI ((pos s w (k + 1)) / 7) from pk_div (d := 7) (by omega) (by decide) (by decide)]
                refine stp hm 3 (And.intro (by decide) (?_ : sxWP sc cl Q 186 (120, [some (.ref 59), some (.int (nI v)), some (.int (nI (pos s w k))), some (.int ((iZ (wndN s w v k)) + 1)), some (.int (nI k)), some (.int (nI (w k))), some (.int (nI (pos s w (k + 1))))], [.int ((nI v) / 6), .int (nI ((pos s w (k + 1)) / 7)), .int ((iZ (wndN s w v k)) + 1)], (cW nw kp im ol sn sr tp (mW (mk.1, mk.2.1, ms, mk.2.2.2.1, mk.2.2.2.2.1, mk.2.2.2.2.2.1, mk.2.2.2.2.2.2.1, mk.2.2.2.2.2.2.2.1, mk.2.2.2.2.2.2.2.2.1, mk.2.2.2.2.2.2.2.2.2) mg mt mc T)), 0, 0)))
                rw [show (nI v) / 6 = nI (v / 6) from pk_div (d := 6) (by omega) (by decide) (by decide)]
                refine stp hm 1 (And.intro (fun c10 => ?_) (fun c10 => ?_))
                · have c10 : ¬ (nI ((pos s w (k + 1)) / 7)) = (nI (v / 6)) := c10
                  have c10 : ¬ ((pos s w (k + 1)) / 7) = (v / 6) := fun q => c10 ((nI_eq (a := ((pos s w (k + 1)) / 7)) (b := (v / 6)) (by omega) (by omega)).mpr q)
                  refine stp hm 6 (?_ : sxWP sc cl Q 186 (136, [some (.ref 59), some (.int (nI v)), some (.int (nI (pos s w (k + 1)))), some (.int (((iZ (wndN s w v k)) + 1) - 0)), some (.int ((nI k) + 1)), some (.int (nI (w k))), some (.int (nI (pos s w (k + 1))))], [], (cW nw kp im ol sn sr tp (mW (mk.1, mk.2.1, ms, mk.2.2.2.1, mk.2.2.2.2.1, mk.2.2.2.2.2.1, mk.2.2.2.2.2.2.1, mk.2.2.2.2.2.2.2.1, mk.2.2.2.2.2.2.2.2.1, mk.2.2.2.2.2.2.2.2.2) mg mt mc T)), 0, 0))
                  rw [nI_1]
                  refine stp hm 1 (?_ : sxWP sc cl Q 186 (37, [some (.ref 59), some (.int (nI v)), some (.int (nI (pos s w (k + 1)))), some (.int (((iZ (wndN s w v k)) + 1) - 0)), some (.int (nI (k + 1))), some (.int (nI (w k))), some (.int (nI (pos s w (k + 1))))], [], (cW nw kp im ol sn sr tp (mW (mk.1, mk.2.1, ms, mk.2.2.2.1, mk.2.2.2.2.1, mk.2.2.2.2.2.1, mk.2.2.2.2.2.2.1, mk.2.2.2.2.2.2.2.1, mk.2.2.2.2.2.2.2.2.1, mk.2.2.2.2.2.2.2.2.2) mg mt mc T)), 0, 0))
                  have ew := wdM _ hv7 _ hw4 hnx0 v hv
                  rw [if_pos (by omega), if_pos ⟨by omega, by omega⟩, if_neg (by rw [hpe]; omega)] at ew
                  rw [show ((iZ (wndN s w v k)) + 1) - 0 = iZ (wndN s w v (k + 1)) by show _ = iZ (wndN s w v k + wdN (pos s w k) (w k) v); rw [ew, iZ_p1, iZ_s0] <;> first | done | rfl | (congr 1; omega)]
                  exact ih (k + 1) (by omega) _ _
                · have c10 : (nI ((pos s w (k + 1)) / 7)) = (nI (v / 6)) := c10
                  have c10 : ((pos s w (k + 1)) / 7) = (v / 6) := (nI_eq (a := ((pos s w (k + 1)) / 7)) (b := (v / 6)) (by omega) (by omega)).mp c10
                  refine stp hm 7 (?_ : sxWP sc cl Q 186 (136, [some (.ref 59), some (.int (nI v)), some (.int (nI (pos s w (k + 1)))), some (.int (((iZ (wndN s w v k)) + 1) - 1)), some (.int ((nI k) + 1)), some (.int (nI (w k))), some (.int (nI (pos s w (k + 1))))], [], (cW nw kp im ol sn sr tp (mW (mk.1, mk.2.1, ms, mk.2.2.2.1, mk.2.2.2.2.1, mk.2.2.2.2.2.1, mk.2.2.2.2.2.2.1, mk.2.2.2.2.2.2.2.1, mk.2.2.2.2.2.2.2.2.1, mk.2.2.2.2.2.2.2.2.2) mg mt mc T)), 0, 0))
                  rw [nI_1]
                  refine stp hm 1 (?_ : sxWP sc cl Q 186 (37, [some (.ref 59), some (.int (nI v)), some (.int (nI (pos s w (k + 1)))), some (.int (((iZ (wndN s w v k)) + 1) - 1)), some (.int (nI (k + 1))), some (.int (nI (w k))), some (.int (nI (pos s w (k + 1))))], [], (cW nw kp im ol sn sr tp (mW (mk.1, mk.2.1, ms, mk.2.2.2.1, mk.2.2.2.2.1, mk.2.2.2.2.2.1, mk.2.2.2.2.2.2.1, mk.2.2.2.2.2.2.2.1, mk.2.2.2.2.2.2.2.2.1, mk.2.2.2.2.2.2.2.2.2) mg mt mc T)), 0, 0))
                  have ew := wdM _ hv7 _ hw4 hnx0 v hv
                  rw [if_pos (by omega), if_pos ⟨by omega, by omega⟩, if_pos ⟨by omega, by rw [hpe]; omega⟩] at ew
                  rw [show ((iZ (wndN s w v k)) + 1) - 1 = iZ (wndN s w v (k + 1)) by show _ = iZ (wndN s w v k + wdN (pos s w k) (w k) v); rw [ew, iZ_p1, iZ_s1] <;> first | done | rfl | (congr 1; omega)]
                  exact ih (k + 1) (by omega) _ _
    refine stp hm 4 (And.intro (inN (k := 1) (by omega) (by decide)) (?_ : sxWP sc cl Q 186 (31, [some (.ref 59), some (.int (nI v)), none, none, none, none, none], [.int (ms (1 : Int32).toNatClampNeg)], (cW nw kp im ol sn sr tp (mW (mk.1, mk.2.1, ms, mk.2.2.2.1, mk.2.2.2.2.1, mk.2.2.2.2.2.1, mk.2.2.2.2.2.2.1, mk.2.2.2.2.2.2.2.1, mk.2.2.2.2.2.2.2.2.1, mk.2.2.2.2.2.2.2.2.2) mg mt mc T)), 0, 0)))
    rw [show ms (1 : Int32).toNatClampNeg = nI s from hM.1]
    refine stp hm 5 (?_ : sxWP sc cl Q 186 (37, [some (.ref 59), some (.int (nI v)), some (.int (nI s)), some (.int 0), some (.int 0), none, none], [], (cW nw kp im ol sn sr tp (mW (mk.1, mk.2.1, ms, mk.2.2.2.1, mk.2.2.2.2.1, mk.2.2.2.2.2.1, mk.2.2.2.2.2.2.1, mk.2.2.2.2.2.2.2.1, mk.2.2.2.2.2.2.2.2.1, mk.2.2.2.2.2.2.2.2.2) mg mt mc T)), 0, 0))
    exact loop n 0 (by omega) _ _
  refine stp hm 2 (m_isCellT hE hv ?_)
  show sxWP sc cl Q 186 (4, [some (.ref 59), some (.int (nI v)), none, none, none, none, none], [.int 1], (cW nw kp im ol sn sr tp (mW (mk.1, mk.2.1, ms, mk.2.2.2.1, mk.2.2.2.2.1, mk.2.2.2.2.2.1, mk.2.2.2.2.2.2.1, mk.2.2.2.2.2.2.2.1, mk.2.2.2.2.2.2.2.2.1, mk.2.2.2.2.2.2.2.2.2) mg mt mc T)), 0, 0)
  refine stp hm 1 (bNT (by decide) ?_)
  refine stp hm 2 (m_end hE hW hM ?_)
  show sxWP sc cl Q 186 (13, [some (.ref 59), some (.int (nI v)), none, none, none, none, none], [.int (nI (pos s w n))], (cW nw kp im ol sn sr tp (mW (mk.1, mk.2.1, ms, mk.2.2.2.1, mk.2.2.2.2.1, mk.2.2.2.2.2.1, mk.2.2.2.2.2.2.1, mk.2.2.2.2.2.2.2.1, mk.2.2.2.2.2.2.2.2.1, mk.2.2.2.2.2.2.2.2.2) mg mt mc T)), 0, 0)
  refine stp hm 4 (And.intro (inN (k := 1) (by omega) (by decide)) (?_ : sxWP sc cl Q 186 (19, [some (.ref 59), some (.int (nI v)), none, none, none, none, none], [.int (ms (1 : Int32).toNatClampNeg), .int (nI (pos s w n))], (cW nw kp im ol sn sr tp (mW (mk.1, mk.2.1, ms, mk.2.2.2.1, mk.2.2.2.2.1, mk.2.2.2.2.2.1, mk.2.2.2.2.2.2.1, mk.2.2.2.2.2.2.2.1, mk.2.2.2.2.2.2.2.2.1, mk.2.2.2.2.2.2.2.2.2) mg mt mc T)), 0, 0)))
  rw [show ms (1 : Int32).toNatClampNeg = nI s from hM.1]
  refine stp hm 1 (And.intro (fun c13 => ?_) (fun c13 => ?_))
  · have c13 : (nI (pos s w n)) = (nI s) := c13
    have c13 : (pos s w n) = s := (nI_eq (a := (pos s w n)) (b := s) (by omega) (by omega)).mp c13
    exact body c13
  · have c13 : ¬ (nI (pos s w n)) = (nI s) := c13
    have c13 : ¬ (pos s w n) = s := fun q => c13 ((nI_eq (a := (pos s w n)) (b := s) (by omega) (by omega)).mpr q)
    refine stp hm 2 ?_
    show Q (some (.int (-3))) (cW nw kp im ol sn sr tp (mW (mk.1, mk.2.1, ms, mk.2.2.2.1, mk.2.2.2.2.1, mk.2.2.2.2.2.1, mk.2.2.2.2.2.2.1, mk.2.2.2.2.2.2.2.1, mk.2.2.2.2.2.2.2.2.1, mk.2.2.2.2.2.2.2.2.2) mg mt mc T))
    exact h0 c13
end PT
