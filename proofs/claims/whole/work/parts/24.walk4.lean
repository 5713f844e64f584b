/-! begin, walk, walked, winds -/
section PT
variable {sc : sxS} {d : Nat} {Q : sxR} {hp : sxH} {call : sxX} {nw kp : tSt} {im : Int32} {ol : tOl} {sn : tSn} {sr : tSc} {tp : Nat → tTp} {mk : tMk} {mg : tMg} {mt : tMt} {mc : tMc} {T : sxH}
set_option maxRecDepth 10000 in
theorem x_beginF {rg : Int64} {ld : Int32} {mts : tA} {pw pr : tA} {se ev pg : tRo} {s n : Nat} {w : Nat → Nat} {x : Int32} (hc : call = sxE sc (d + 2)) (hx : oor 49 x) (q : Q (some (.int (-1))) (cW (rg, ld, mts, ((nI s), (nI n), pw, pr), se, ev, pg) kp im ol sn sr tp (mW mk mg mt mc T))) : call 95 [.ref 0, .int x] (cW (rg, ld, mts, ((nI s), (nI n), pw, pr), se, ev, pg) kp im ol sn sr tp (mW mk mg mt mc T)) Q := by
  refine ent hc rfl (fun cl hE hm => ?_)
  refine stp hm 2 (x_isVertexF hE hx ?_)
  show sxWP sc cl Q 95 (4, [some (.ref 0), some (.int x), none], [.int 0], (cW (rg, ld, mts, ((nI s), (nI n), pw, pr), se, ev, pg) kp im ol sn sr tp (mW mk mg mt mc T)), 0, 0)
  refine stp hm 1 (bNF (by decide) ?_)
  refine stp hm 2 ?_
  show Q (some (.int (-1))) (cW (rg, ld, mts, ((nI s), (nI n), pw, pr), se, ev, pg) kp im ol sn sr tp (mW mk mg mt mc T))
  exact q
set_option maxRecDepth 10000 in
theorem x_beginT {rg : Int64} {ld : Int32} {mts : tA} {pw pr : tA} {se ev pg : tRo} {s n : Nat} {w : Nat → Nat} {v : Nat} (hc : call = sxE sc (d + 2)) (hv : v < 49) (q : Q (some (.int (nI n))) (cW (rg, ld, mts, ((nI v), 0, pw, pr), se, ev, pg) kp im ol sn sr tp (mW mk mg mt mc T))) : call 95 [.ref 0, .int (nI v)] (cW (rg, ld, mts, ((nI s), (nI n), pw, pr), se, ev, pg) kp im ol sn sr tp (mW mk mg mt mc T)) Q := by
  refine ent hc rfl (fun cl hE hm => ?_)
  refine stp hm 2 (x_isVertexT hE hv ?_)
  show sxWP sc cl Q 95 (4, [some (.ref 0), some (.int (nI v)), none], [.int 1], (cW (rg, ld, mts, ((nI s), (nI n), pw, pr), se, ev, pg) kp im ol sn sr tp (mW mk mg mt mc T)), 0, 0)
  refine stp hm 1 (bNT (by decide) ?_)
  refine stp hm 10 (x_restart (w := w) hE ?_)
  show sxWP sc cl Q 95 (31, [some (.ref 0), some (.int (nI v)), some (.int (nI n))], [], (cW (rg, ld, mts, ((nI v), 0, pw, pr), se, ev, pg) kp im ol sn sr tp (mW mk mg mt mc T)), 0, 0)
  refine stp hm 2 ?_
  show Q (some (.int (nI n))) (cW (rg, ld, mts, ((nI v), 0, pw, pr), se, ev, pg) kp im ol sn sr tp (mW mk mg mt mc T))
  exact q
set_option maxRecDepth 10000 in
theorem m_beginF {ms : tA} {s n : Nat} {w : Nat → Nat} {x : Int32} (hc : call = sxE sc (d + 3)) (hx : oor 49 x) (q : Q (some (.int (-1))) (cW nw kp im ol sn sr tp (mW (mk.1, mk.2.1, ms, mk.2.2.2.1, mk.2.2.2.2.1, mk.2.2.2.2.2.1, mk.2.2.2.2.2.2.1, mk.2.2.2.2.2.2.2.1, mk.2.2.2.2.2.2.2.2.1, mk.2.2.2.2.2.2.2.2.2) mg mt mc T))) : call 180 [.ref 59, .int x] (cW nw kp im ol sn sr tp (mW (mk.1, mk.2.1, ms, mk.2.2.2.1, mk.2.2.2.2.1, mk.2.2.2.2.2.1, mk.2.2.2.2.2.2.1, mk.2.2.2.2.2.2.2.1, mk.2.2.2.2.2.2.2.2.1, mk.2.2.2.2.2.2.2.2.2) mg mt mc T)) Q := by
  refine ent hc rfl (fun cl hE hm => ?_)
  refine stp hm 2 (m_isVertexF hE hx ?_)
  show sxWP sc cl Q 180 (4, [some (.ref 59), some (.int x), none], [.int 0], (cW nw kp im ol sn sr tp (mW (mk.1, mk.2.1, ms, mk.2.2.2.1, mk.2.2.2.2.1, mk.2.2.2.2.2.1, mk.2.2.2.2.2.2.1, mk.2.2.2.2.2.2.2.1, mk.2.2.2.2.2.2.2.2.1, mk.2.2.2.2.2.2.2.2.2) mg mt mc T)), 0, 0)
  refine stp hm 1 (bNF (by decide) ?_)
  refine stp hm 2 ?_
  show Q (some (.int (-1))) (cW nw kp im ol sn sr tp (mW (mk.1, mk.2.1, ms, mk.2.2.2.1, mk.2.2.2.2.1, mk.2.2.2.2.2.1, mk.2.2.2.2.2.2.1, mk.2.2.2.2.2.2.2.1, mk.2.2.2.2.2.2.2.2.1, mk.2.2.2.2.2.2.2.2.2) mg mt mc T))
  exact q
set_option maxRecDepth 10000 in
theorem m_beginT {ms : tA} {s n : Nat} {w : Nat → Nat} {v : Nat} (hc : call = sxE sc (d + 3)) (hM : msW ms s n w) (hv : v < 49) (q : Q (some (.int (nI n))) (cW nw kp im ol sn sr tp (mW (mk.1, mk.2.1, (upd (upd ms 1 (nI v)) 2 0), mk.2.2.2.1, mk.2.2.2.2.1, mk.2.2.2.2.2.1, mk.2.2.2.2.2.2.1, mk.2.2.2.2.2.2.2.1, mk.2.2.2.2.2.2.2.2.1, mk.2.2.2.2.2.2.2.2.2) mg mt mc T))) : call 180 [.ref 59, .int (nI v)] (cW nw kp im ol sn sr tp (mW (mk.1, mk.2.1, ms, mk.2.2.2.1, mk.2.2.2.2.1, mk.2.2.2.2.2.1, mk.2.2.2.2.2.2.1, mk.2.2.2.2.2.2.2.1, mk.2.2.2.2.2.2.2.2.1, mk.2.2.2.2.2.2.2.2.2) mg mt mc T)) Q := by
  refine ent hc rfl (fun cl hE hm => ?_)
  refine stp hm 2 (m_isVertexT hE hv ?_)
  show sxWP sc cl Q 180 (4, [some (.ref 59), some (.int (nI v)), none], [.int 1], (cW nw kp im ol sn sr tp (mW (mk.1, mk.2.1, ms, mk.2.2.2.1, mk.2.2.2.2.1, mk.2.2.2.2.2.1, mk.2.2.2.2.2.2.1, mk.2.2.2.2.2.2.2.1, mk.2.2.2.2.2.2.2.2.1, mk.2.2.2.2.2.2.2.2.2) mg mt mc T)), 0, 0)
  refine stp hm 1 (bNT (by decide) ?_)
  refine stp hm 4 (And.intro (inN (k := 2) (by omega) (by decide)) (?_ : sxWP sc cl Q 180 (15, [some (.ref 59), some (.int (nI v)), none], [.int (ms (2 : Int32).toNatClampNeg)], (cW nw kp im ol sn sr tp (mW (mk.1, mk.2.1, ms, mk.2.2.2.1, mk.2.2.2.2.1, mk.2.2.2.2.2.1, mk.2.2.2.2.2.2.1, mk.2.2.2.2.2.2.2.1, mk.2.2.2.2.2.2.2.2.1, mk.2.2.2.2.2.2.2.2.2) mg mt mc T)), 0, 0)))
  rw [show ms (2 : Int32).toNatClampNeg = nI n from hM.2.1]
  refine stp hm 6 (And.intro (inN (k := 1) (by omega) (by decide)) (?_ : sxWP sc cl Q 180 (23, [some (.ref 59), some (.int (nI v)), some (.int (nI n))], [], (cW nw kp im ol sn sr tp (mW (mk.1, mk.2.1, (upd ms (1 : Int32).toNatClampNeg (nI v)), mk.2.2.2.1, mk.2.2.2.2.1, mk.2.2.2.2.2.1, mk.2.2.2.2.2.2.1, mk.2.2.2.2.2.2.2.1, mk.2.2.2.2.2.2.2.2.1, mk.2.2.2.2.2.2.2.2.2) mg mt mc T)), 0, 0)))
  rw [show (1 : Int32).toNatClampNeg = 1 from rfl]
  refine stp hm 5 (And.intro (inN (k := 2) (by omega) (by decide)) (?_ : sxWP sc cl Q 180 (30, [some (.ref 59), some (.int (nI v)), some (.int (nI n))], [], (cW nw kp im ol sn sr tp (mW (mk.1, mk.2.1, (upd (upd ms 1 (nI v)) (2 : Int32).toNatClampNeg 0), mk.2.2.2.1, mk.2.2.2.2.1, mk.2.2.2.2.2.1, mk.2.2.2.2.2.2.1, mk.2.2.2.2.2.2.2.1, mk.2.2.2.2.2.2.2.2.1, mk.2.2.2.2.2.2.2.2.2) mg mt mc T)), 0, 0)))
  rw [show (2 : Int32).toNatClampNeg = 2 from rfl]
  refine stp hm 2 ?_
  show Q (some (.int (nI n))) (cW nw kp im ol sn sr tp (mW (mk.1, mk.2.1, (upd (upd ms 1 (nI v)) 2 0), mk.2.2.2.1, mk.2.2.2.2.1, mk.2.2.2.2.2.1, mk.2.2.2.2.2.2.1, mk.2.2.2.2.2.2.2.1, mk.2.2.2.2.2.2.2.2.1, mk.2.2.2.2.2.2.2.2.2) mg mt mc T))
  exact q
set_option maxRecDepth 10000 in
theorem x_walkF {rg : Int64} {ld : Int32} {mts : tA} {pw pr : tA} {se ev pg : tRo} {s n : Nat} {w : Nat → Nat} {x : Int32} (hc : call = sxE sc (d + 2)) (hx : oor 4 x) (q : Q (some (.int (-2))) (cW (rg, ld, mts, ((nI s), (nI n), pw, pr), se, ev, pg) kp im ol sn sr tp (mW mk mg mt mc T))) : call 96 [.ref 0, .int x] (cW (rg, ld, mts, ((nI s), (nI n), pw, pr), se, ev, pg) kp im ol sn sr tp (mW mk mg mt mc T)) Q := by
  refine ent hc rfl (fun cl hE hm => ?_)
  rcases hx with hx | hx
  · refine stp hm 2 (bT (hx) ?_)
    refine stp hm 2 ?_
    show Q (some (.int (-2))) (cW (rg, ld, mts, ((nI s), (nI n), pw, pr), se, ev, pg) kp im ol sn sr tp (mW mk mg mt mc T))
    exact q
  · refine stp hm 2 (bF (oor_lt (by decide) hx) ?_)
    refine stp hm 3 (bF (Int32.not_le.mpr ((lt_succ (m := 3) (by decide)).mp hx)) ?_)
    refine stp hm 2 ?_
    show Q (some (.int (-2))) (cW (rg, ld, mts, ((nI s), (nI n), pw, pr), se, ev, pg) kp im ol sn sr tp (mW mk mg mt mc T))
    exact q
set_option maxRecDepth 10000 in
theorem x_walkT {rg : Int64} {ld : Int32} {mts : tA} {pw pr : tA} {se ev pg : tRo} {s n : Nat} {w : Nat → Nat} {v : Nat} (hc : call = sxE sc (d + 4)) (hW : wOK s n w) (hpw : ∀ i, i < n → pw i = nI (w i)) (hv : v < 4) (h1 : nxN (pos s w n) v < 0 → Q (some (.int (-3))) (cW (rg, ld, mts, ((nI s), (nI n), pw, pr), se, ev, pg) kp im ol sn sr tp (mW mk mg mt mc T))) (h2 : 0 ≤ nxN (pos s w n) v → n < 40 → Q (some (.int (nI (n + 1)))) (cW (rg, ld, mts, ((nI s), (nI (n + 1)), (upd pw n (nI v)), pr), se, ev, pg) kp im ol sn sr tp (mW mk mg mt mc T))) (h3 : 0 ≤ nxN (pos s w n) v → n = 40 → Q (some (.int (-4))) (cW (rg, ld, mts, ((nI s), (nI n), pw, pr), se, ev, pg) kp im ol sn sr tp (mW mk mg mt mc T))) : call 96 [.ref 0, .int (nI v)] (cW (rg, ld, mts, ((nI s), (nI n), pw, pr), se, ev, pg) kp im ol sn sr tp (mW mk mg mt mc T)) Q := by
  refine ent hc rfl (fun cl hE hm => ?_)
  have hp49 := pos_lt hW n (Nat.le_refl _)
  have hn40 := hW.2.1
  have hs49 := hW.1
  have hnx := nxN_lt _ hp49 v hv
  refine stp hm 2 (bF (fun q => absurd ((nI_ltI (a := v) (b := 0) (by omega) (by omega)).mp q) (by omega)) ?_)
  refine stp hm 3 (bT ((nI_leI (a := v) (b := 3) (by omega) (by omega)).mpr (by omega)) ?_)
  refine stp hm 4 (x_end hE hW hpw ?_)
  show sxWP sc cl Q 96 (22, [some (.ref 0), some (.int (nI v))], [.int (nI (pos s w n))], (cW (rg, ld, mts, ((nI s), (nI n), pw, pr), se, ev, pg) kp im ol sn sr tp (mW mk mg mt mc T)), 0, 0)
  refine stp hm 2 (x_next hE hp49 hv ?_)
  show sxWP sc cl Q 96 (26, [some (.ref 0), some (.int (nI v))], [.int (iZ (nxN (pos s w n) v))], (cW (rg, ld, mts, ((nI s), (nI n), pw, pr), se, ev, pg) kp im ol sn sr tp (mW mk mg mt mc T)), 0, 0)
  refine stp hm 1 (And.intro (fun c3 => ?_) (fun c3 => ?_))
  · have c3 : 0 ≤ (iZ (nxN (pos s w n) v)) := c3
    have c3 : 0 ≤ (nxN (pos s w n) v) := (iZ_0le (by unfold sm; omega)).mp c3
    refine stp hm 5 (x_append (w := w) hE hn40 (fun c4 => ?_) (fun c4 => ?_))
    · show sxWP sc cl Q 96 (43, [some (.ref 0), some (.int (nI v))], [.int 1], (cW (rg, ld, mts, ((nI s), (nI (n + 1)), (upd pw n (nI v)), pr), se, ev, pg) kp im ol sn sr tp (mW mk mg mt mc T)), 0, 0)
      refine stp hm 1 (bF (by decide) ?_)
      refine stp hm 6 ?_
      show Q (some (.int (nI (n + 1)))) (cW (rg, ld, mts, ((nI s), (nI (n + 1)), (upd pw n (nI v)), pr), se, ev, pg) kp im ol sn sr tp (mW mk mg mt mc T))
      exact h2 (by omega) (by omega)
    · show sxWP sc cl Q 96 (43, [some (.ref 0), some (.int (nI v))], [.int 0], (cW (rg, ld, mts, ((nI s), (nI n), pw, pr), se, ev, pg) kp im ol sn sr tp (mW mk mg mt mc T)), 0, 0)
      refine stp hm 1 (bT (by decide) ?_)
      refine stp hm 2 ?_
      show Q (some (.int (-4))) (cW (rg, ld, mts, ((nI s), (nI n), pw, pr), se, ev, pg) kp im ol sn sr tp (mW mk mg mt mc T))
      exact h3 (by omega) (by omega)
  · have c3 : ¬ 0 ≤ (iZ (nxN (pos s w n) v)) := c3
    have c3 : ¬ 0 ≤ (nxN (pos s w n) v) := fun q => c3 ((iZ_0le (by unfold sm; omega)).mpr q)
    refine stp hm 2 ?_
    show Q (some (.int (-3))) (cW (rg, ld, mts, ((nI s), (nI n), pw, pr), se, ev, pg) kp im ol sn sr tp (mW mk mg mt mc T))
    exact h1 (by omega)
set_option maxRecDepth 10000 in
theorem m_walkF {ms : tA} {s n : Nat} {w : Nat → Nat} {x : Int32} (hc : call = sxE sc (d + 2)) (hx : oor 4 x) (q : Q (some (.int (-2))) (cW nw kp im ol sn sr tp (mW (mk.1, mk.2.1, ms, mk.2.2.2.1, mk.2.2.2.2.1, mk.2.2.2.2.2.1, mk.2.2.2.2.2.2.1, mk.2.2.2.2.2.2.2.1, mk.2.2.2.2.2.2.2.2.1, mk.2.2.2.2.2.2.2.2.2) mg mt mc T))) : call 182 [.ref 59, .int x] (cW nw kp im ol sn sr tp (mW (mk.1, mk.2.1, ms, mk.2.2.2.1, mk.2.2.2.2.1, mk.2.2.2.2.2.1, mk.2.2.2.2.2.2.1, mk.2.2.2.2.2.2.2.1, mk.2.2.2.2.2.2.2.2.1, mk.2.2.2.2.2.2.2.2.2) mg mt mc T)) Q := by
  refine ent hc rfl (fun cl hE hm => ?_)
  refine stp hm 4 (x_isInF (m := 3) hE (by decide) hx ?_)
  show sxWP sc cl Q 182 (6, [some (.ref 59), some (.int x)], [.int 0], (cW nw kp im ol sn sr tp (mW (mk.1, mk.2.1, ms, mk.2.2.2.1, mk.2.2.2.2.1, mk.2.2.2.2.2.1, mk.2.2.2.2.2.2.1, mk.2.2.2.2.2.2.2.1, mk.2.2.2.2.2.2.2.2.1, mk.2.2.2.2.2.2.2.2.2) mg mt mc T)), 0, 0)
  refine stp hm 1 (bNF (by decide) ?_)
  refine stp hm 2 ?_
  show Q (some (.int (-2))) (cW nw kp im ol sn sr tp (mW (mk.1, mk.2.1, ms, mk.2.2.2.1, mk.2.2.2.2.1, mk.2.2.2.2.2.1, mk.2.2.2.2.2.2.1, mk.2.2.2.2.2.2.2.1, mk.2.2.2.2.2.2.2.2.1, mk.2.2.2.2.2.2.2.2.2) mg mt mc T))
  exact q
theorem upd_ne {f : Nat → Int32} {i j : Nat} {x : Int32} (h : ¬ j = i) : upd f i x j = f j := if_neg h
theorem upd_eq {f : Nat → Int32} {i : Nat} {x : Int32} : upd f i x i = x := if_pos rfl
set_option maxRecDepth 10000 in
theorem m_walkT {ms : tA} {s n : Nat} {w : Nat → Nat} {v : Nat} (hc : call = sxE sc (d + 4)) (hW : wOK s n w) (hM : msW ms s n w) (hv : v < 4) (h1 : nxN (pos s w n) v < 0 → Q (some (.int (-3))) (cW nw kp im ol sn sr tp (mW (mk.1, mk.2.1, ms, mk.2.2.2.1, mk.2.2.2.2.1, mk.2.2.2.2.2.1, mk.2.2.2.2.2.2.1, mk.2.2.2.2.2.2.2.1, mk.2.2.2.2.2.2.2.2.1, mk.2.2.2.2.2.2.2.2.2) mg mt mc T))) (h2 : 0 ≤ nxN (pos s w n) v → n < 40 → Q (some (.int (nI (n + 1)))) (cW nw kp im ol sn sr tp (mW (mk.1, mk.2.1, (upd (upd ms (42 + n) (nI v)) 2 (nI (n + 1))), mk.2.2.2.1, mk.2.2.2.2.1, mk.2.2.2.2.2.1, mk.2.2.2.2.2.2.1, mk.2.2.2.2.2.2.2.1, mk.2.2.2.2.2.2.2.2.1, mk.2.2.2.2.2.2.2.2.2) mg mt mc T))) (h3 : 0 ≤ nxN (pos s w n) v → n = 40 → Q (some (.int (-4))) (cW nw kp im ol sn sr tp (mW (mk.1, mk.2.1, ms, mk.2.2.2.1, mk.2.2.2.2.1, mk.2.2.2.2.2.1, mk.2.2.2.2.2.2.1, mk.2.2.2.2.2.2.2.1, mk.2.2.2.2.2.2.2.2.1, mk.2.2.2.2.2.2.2.2.2) mg mt mc T))) : call 182 [.ref 59, .int (nI v)] (cW nw kp im ol sn sr tp (mW (mk.1, mk.2.1, ms, mk.2.2.2.1, mk.2.2.2.2.1, mk.2.2.2.2.2.1, mk.2.2.2.2.2.2.1, mk.2.2.2.2.2.2.2.1, mk.2.2.2.2.2.2.2.2.1, mk.2.2.2.2.2.2.2.2.2) mg mt mc T)) Q := by
  refine ent hc rfl (fun cl hE hm => ?_)
  have hp49 := pos_lt hW n (Nat.le_refl _)
  have hn40 := hW.2.1
  have hs49 := hW.1
  have hnx := nxN_lt _ hp49 v hv
  refine stp hm 4 (x_isInT (m := 3) hE (by decide) (by omega) ?_)
  show sxWP sc cl Q 182 (6, [some (.ref 59), some (.int (nI v))], [.int 1], (cW nw kp im ol sn sr tp (mW (mk.1, mk.2.1, ms, mk.2.2.2.1, mk.2.2.2.2.1, mk.2.2.2.2.2.1, mk.2.2.2.2.2.2.1, mk.2.2.2.2.2.2.2.1, mk.2.2.2.2.2.2.2.2.1, mk.2.2.2.2.2.2.2.2.2) mg mt mc T)), 0, 0)
  refine stp hm 1 (bNT (by decide) ?_)
  refine stp hm 2 (m_end hE hW hM ?_)
  show sxWP sc cl Q 182 (16, [some (.ref 59), some (.int (nI v))], [.int (nI (pos s w n))], (cW nw kp im ol sn sr tp (mW (mk.1, mk.2.1, ms, mk.2.2.2.1, mk.2.2.2.2.1, mk.2.2.2.2.2.1, mk.2.2.2.2.2.2.1, mk.2.2.2.2.2.2.2.1, mk.2.2.2.2.2.2.2.2.1, mk.2.2.2.2.2.2.2.2.2) mg mt mc T)), 0, 0)
  refine stp hm 2 (m_onBy hE hp49 hv ?_)
  show sxWP sc cl Q 182 (20, [some (.ref 59), some (.int (nI v))], [.int (iZ (nxN (pos s w n) v))], (cW nw kp im ol sn sr tp (mW (mk.1, mk.2.1, ms, mk.2.2.2.1, mk.2.2.2.2.1, mk.2.2.2.2.2.1, mk.2.2.2.2.2.2.1, mk.2.2.2.2.2.2.2.1, mk.2.2.2.2.2.2.2.2.1, mk.2.2.2.2.2.2.2.2.2) mg mt mc T)), 0, 0)
  refine stp hm 2 (And.intro (fun c4 => ?_) (fun c4 => ?_))
  · have c4 : ¬ (iZ (nxN (pos s w n) v)) = (-1) := c4
    have c4 : ¬ (nxN (pos s w n) v) = -1 := fun q => c4 ((iZ_em1 (by unfold sm; omega)).mpr q)
    refine stp hm 4 (And.intro (inN (k := 2) (by omega) (by decide)) (?_ : sxWP sc cl Q 182 (33, [some (.ref 59), some (.int (nI v))], [.int (ms (2 : Int32).toNatClampNeg)], (cW nw kp im ol sn sr tp (mW (mk.1, mk.2.1, ms, mk.2.2.2.1, mk.2.2.2.2.1, mk.2.2.2.2.2.1, mk.2.2.2.2.2.2.1, mk.2.2.2.2.2.2.2.1, mk.2.2.2.2.2.2.2.2.1, mk.2.2.2.2.2.2.2.2.2) mg mt mc T)), 0, 0)))
    rw [show ms (2 : Int32).toNatClampNeg = nI n from hM.2.1]
    refine stp hm 2 (And.intro (fun c5 => ?_) (fun c5 => ?_))
    · have c5 : ¬ (nI n) = 40 := c5
      have c5 : ¬ n = 40 := fun q => c5 ((nI_eq (a := n) (b := 40) (by omega) (by omega)).mpr q)
      refine stp hm 7 (And.intro (inN (k := 2) (by omega) (by decide)) (?_ : sxWP sc cl Q 182 (53, [some (.ref 59), some (.int (nI v))], [.int (ms (2 : Int32).toNatClampNeg), .int 42, .ref 60], (cW nw kp im ol sn sr tp (mW (mk.1, mk.2.1, ms, mk.2.2.2.1, mk.2.2.2.2.1, mk.2.2.2.2.2.1, mk.2.2.2.2.2.2.1, mk.2.2.2.2.2.2.2.1, mk.2.2.2.2.2.2.2.2.1, mk.2.2.2.2.2.2.2.2.2) mg mt mc T)), 0, 0)))
      rw [show ms (2 : Int32).toNatClampNeg = nI n from hM.2.1]
      refine stp hm 1 (?_ : sxWP sc cl Q 182 (54, [some (.ref 59), some (.int (nI v))], [.int (42 + (nI n)), .ref 60], (cW nw kp im ol sn sr tp (mW (mk.1, mk.2.1, ms, mk.2.2.2.1, mk.2.2.2.2.1, mk.2.2.2.2.2.1, mk.2.2.2.2.2.2.1, mk.2.2.2.2.2.2.2.1, mk.2.2.2.2.2.2.2.2.1, mk.2.2.2.2.2.2.2.2.2) mg mt mc T)), 0, 0))
      rw [show 42 + (nI n) = nI (42 + n) from nI_add 42 n]
      refine stp hm 2 (And.intro (inN (k := (42 + n)) (by omega) (by decide)) (?_ : sxWP sc cl Q 182 (56, [some (.ref 59), some (.int (nI v))], [], (cW nw kp im ol sn sr tp (mW (mk.1, mk.2.1, (upd ms (nI (42 + n)).toNatClampNeg (nI v)), mk.2.2.2.1, mk.2.2.2.2.1, mk.2.2.2.2.2.1, mk.2.2.2.2.2.2.1, mk.2.2.2.2.2.2.2.1, mk.2.2.2.2.2.2.2.2.1, mk.2.2.2.2.2.2.2.2.2) mg mt mc T)), 0, 0)))
      rw [nI_clamp (n := (42 + n)) (by omega)]
      refine stp hm 5 (And.intro (inN (k := 2) (by omega) (by decide)) (?_ : sxWP sc cl Q 182 (63, [some (.ref 59), some (.int (nI v))], [.int ((upd ms (42 + n) (nI v)) (2 : Int32).toNatClampNeg), .int 2, .ref 60], (cW nw kp im ol sn sr tp (mW (mk.1, mk.2.1, (upd ms (42 + n) (nI v)), mk.2.2.2.1, mk.2.2.2.2.1, mk.2.2.2.2.2.1, mk.2.2.2.2.2.2.1, mk.2.2.2.2.2.2.2.1, mk.2.2.2.2.2.2.2.2.1, mk.2.2.2.2.2.2.2.2.2) mg mt mc T)), 0, 0)))
      rw [show (upd ms (42 + n) (nI v)) (2 : Int32).toNatClampNeg = nI n from by show upd ms (42 + n) (nI v) 2 = nI n; rw [upd_ne (by omega)]; exact hM.2.1]
      refine stp hm 2 (?_ : sxWP sc cl Q 182 (65, [some (.ref 59), some (.int (nI v))], [.int ((nI n) + 1), .int 2, .ref 60], (cW nw kp im ol sn sr tp (mW (mk.1, mk.2.1, (upd ms (42 + n) (nI v)), mk.2.2.2.1, mk.2.2.2.2.1, mk.2.2.2.2.2.1, mk.2.2.2.2.2.2.1, mk.2.2.2.2.2.2.2.1, mk.2.2.2.2.2.2.2.2.1, mk.2.2.2.2.2.2.2.2.2) mg mt mc T)), 0, 0))
      rw [show (nI n) + 1 = nI (n + 1) from nI_add n 1]
      refine stp hm 1 (And.intro (inN (k := 2) (by omega) (by decide)) (?_ : sxWP sc cl Q 182 (66, [some (.ref 59), some (.int (nI v))], [], (cW nw kp im ol sn sr tp (mW (mk.1, mk.2.1, (upd (upd ms (42 + n) (nI v)) (2 : Int32).toNatClampNeg (nI (n + 1))), mk.2.2.2.1, mk.2.2.2.2.1, mk.2.2.2.2.2.1, mk.2.2.2.2.2.2.1, mk.2.2.2.2.2.2.2.1, mk.2.2.2.2.2.2.2.2.1, mk.2.2.2.2.2.2.2.2.2) mg mt mc T)), 0, 0)))
      rw [show (2 : Int32).toNatClampNeg = 2 from rfl]
      refine stp hm 4 (And.intro (inN (k := 2) (by omega) (by decide)) (?_ : sxWP sc cl Q 182 (72, [some (.ref 59), some (.int (nI v))], [.int ((upd (upd ms (42 + n) (nI v)) 2 (nI (n + 1))) (2 : Int32).toNatClampNeg)], (cW nw kp im ol sn sr tp (mW (mk.1, mk.2.1, (upd (upd ms (42 + n) (nI v)) 2 (nI (n + 1))), mk.2.2.2.1, mk.2.2.2.2.1, mk.2.2.2.2.2.1, mk.2.2.2.2.2.2.1, mk.2.2.2.2.2.2.2.1, mk.2.2.2.2.2.2.2.2.1, mk.2.2.2.2.2.2.2.2.2) mg mt mc T)), 0, 0)))
      rw [show (upd (upd ms (42 + n) (nI v)) 2 (nI (n + 1))) (2 : Int32).toNatClampNeg = nI (n + 1) from upd_eq]
      refine stp hm 1 ?_
      show Q (some (.int (nI (n + 1)))) (cW nw kp im ol sn sr tp (mW (mk.1, mk.2.1, (upd (upd ms (42 + n) (nI v)) 2 (nI (n + 1))), mk.2.2.2.1, mk.2.2.2.2.1, mk.2.2.2.2.2.1, mk.2.2.2.2.2.2.1, mk.2.2.2.2.2.2.2.1, mk.2.2.2.2.2.2.2.2.1, mk.2.2.2.2.2.2.2.2.2) mg mt mc T))
      exact h2 (by omega) (by omega)
    · have c5 : (nI n) = 40 := c5
      have c5 : n = 40 := (nI_eq (a := n) (b := 40) (by omega) (by omega)).mp c5
      refine stp hm 2 ?_
      show Q (some (.int (-4))) (cW nw kp im ol sn sr tp (mW (mk.1, mk.2.1, ms, mk.2.2.2.1, mk.2.2.2.2.1, mk.2.2.2.2.2.1, mk.2.2.2.2.2.2.1, mk.2.2.2.2.2.2.2.1, mk.2.2.2.2.2.2.2.2.1, mk.2.2.2.2.2.2.2.2.2) mg mt mc T))
      exact h3 (by omega) (by omega)
  · have c4 : (iZ (nxN (pos s w n) v)) = (-1) := c4
    have c4 : (nxN (pos s w n) v) = -1 := (iZ_em1 (by unfold sm; omega)).mp c4
    refine stp hm 2 ?_
    show Q (some (.int (-3))) (cW nw kp im ol sn sr tp (mW (mk.1, mk.2.1, ms, mk.2.2.2.1, mk.2.2.2.2.1, mk.2.2.2.2.2.1, mk.2.2.2.2.2.2.1, mk.2.2.2.2.2.2.2.1, mk.2.2.2.2.2.2.2.2.1, mk.2.2.2.2.2.2.2.2.2) mg mt mc T))
    exact h1 (by omega)
end PT
