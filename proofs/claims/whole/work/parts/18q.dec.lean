/-! methods as functions (printed by wip/whole/dec) -/
section PT
variable {sc : sxS} {d : Nat} {Q : sxR} {hp : sxH} {call cl : sxX} {nw kp : tSt} {im : Int32} {ol : tOl} {sn : tSn} {sr : tSc} {tp : Nat → tTp} {mk : tMk} {mg : tMg} {mt : tMt} {mc : tMc} {T : sxH}

def M_isUneven_s2   (s : (Int32 × (Nat → Int32))) : Option ((Int32 × (Nat → Int32)) ⊕ (Nat → Int32)) := if (3:Int32) ≤ s.1 then (some (Sum.inr s.2)) else (grd (gi s.1 3) (some (Sum.inl (s.1 + (1:Int32), upd s.2 s.1.toNatClampNeg (0:Int32)))))
def M_isUneven_j69  (v2 : Int32) (ccl_j : (Nat → Int32)) : Option ((Int32 × (Nat → Int32)) ⊕ (Nat → Int32)) := some (Sum.inl (v2 + (1:Int32), ccl_j))
def M_isUneven_s22  (v1 : Int32) (mrg : Int64) (s : (Int32 × (Nat → Int32))) : Option ((Int32 × (Nat → Int32)) ⊕ (Nat → Int32)) := if (36:Int32) ≤ s.1 then (some (Sum.inr s.2)) else (if (M_has s.1 mrg) = (0:Int32) then (M_isUneven_j69 s.1 s.2) else (grd (gi (((s.1 / (6:Int32)) + (if v1 = (0:Int32) then (s.1 - s.1 / (6:Int32) * (6:Int32)) else ((5:Int32) - (s.1 - s.1 / (6:Int32) * (6:Int32))))) - ((s.1 / (6:Int32)) + (if v1 = (0:Int32) then (s.1 - s.1 / (6:Int32) * (6:Int32)) else ((5:Int32) - (s.1 - s.1 / (6:Int32) * (6:Int32))))) / (3:Int32) * (3:Int32)) 3) (grd (gi (((s.1 / (6:Int32)) + (if v1 = (0:Int32) then (s.1 - s.1 / (6:Int32) * (6:Int32)) else ((5:Int32) - (s.1 - s.1 / (6:Int32) * (6:Int32))))) - ((s.1 / (6:Int32)) + (if v1 = (0:Int32) then (s.1 - s.1 / (6:Int32) * (6:Int32)) else ((5:Int32) - (s.1 - s.1 / (6:Int32) * (6:Int32))))) / (3:Int32) * (3:Int32)) 3) (M_isUneven_j69 s.1 (upd s.2 (((s.1 / (6:Int32)) + (if v1 = (0:Int32) then (s.1 - s.1 / (6:Int32) * (6:Int32)) else ((5:Int32) - (s.1 - s.1 / (6:Int32) * (6:Int32))))) - ((s.1 / (6:Int32)) + (if v1 = (0:Int32) then (s.1 - s.1 / (6:Int32) * (6:Int32)) else ((5:Int32) - (s.1 - s.1 / (6:Int32) * (6:Int32))))) / (3:Int32) * (3:Int32)).toNatClampNeg ((s.2 (((s.1 / (6:Int32)) + (if v1 = (0:Int32) then (s.1 - s.1 / (6:Int32) * (6:Int32)) else ((5:Int32) - (s.1 - s.1 / (6:Int32) * (6:Int32))))) - ((s.1 / (6:Int32)) + (if v1 = (0:Int32) then (s.1 - s.1 / (6:Int32) * (6:Int32)) else ((5:Int32) - (s.1 - s.1 / (6:Int32) * (6:Int32))))) / (3:Int32) * (3:Int32)).toNatClampNeg) + (1:Int32)))))))
def M_isUneven_j110  (k0 : Int32) (ccl_j : (Nat → Int32)) : Option (Int32 × (Nat → Int32)) := grd (zb k0) (some (k0, ccl_j))
def M_isUneven_j105  (ccl_j : (Nat → Int32)) : Option (Int32 × (Nat → Int32)) := M_isUneven_j110 (1:Int32) ccl_j
def M_isUneven (v1 : Int32) (mrg : Int64) (ccl : (Nat → Int32)) : Option (Int32 × (Nat → Int32)) := Option.bind (wh (M_isUneven_s2) FU ((0:Int32), ccl)) (fun w1 => Option.bind (wh (M_isUneven_s22 v1 mrg) FU ((0:Int32), w1)) (fun w2 => grd (gi (0:Int32) 3) (grd (gi (1:Int32) 3) (if (w2 (0:Int32).toNatClampNeg) = (w2 (1:Int32).toNatClampNeg) then (grd (gi (1:Int32) 3) (grd (gi (2:Int32) 3) (some (if (w2 (1:Int32).toNatClampNeg) = (w2 (2:Int32).toNatClampNeg) then (0:Int32) else (1:Int32), w2)))) else (M_isUneven_j105 w2)))))
set_option maxRecDepth 10000 in
theorem M_isUneven_l2 {v1 : Int32}   (hE : cl = sxE sc (d + 1)) (hm : CallMono cl) : ∀ (n : Nat) (s : (Int32 × (Nat → Int32))) (r : (Nat → Int32)), wh (M_isUneven_s2) n s = some r → (∀ (z2 : Option Value), sxWP sc cl Q 216 (20, [some (.ref 59), some (.int v1), z2], [], (cW nw kp im ol sn sr tp (mW mk mg mt (mc.1, mc.2.1, mc.2.2.1, mc.2.2.2.1, mc.2.2.2.2.1, mc.2.2.2.2.2.1, mc.2.2.2.2.2.2.1, r) T)), 0, 0)) → sxWP sc cl Q 216 (2, [some (.ref 59), some (.int v1), some (.int s.1)], [], (cW nw kp im ol sn sr tp (mW mk mg mt (mc.1, mc.2.1, mc.2.2.1, mc.2.2.2.1, mc.2.2.2.2.1, mc.2.2.2.2.2.1, mc.2.2.2.2.2.2.1, s.2) T)), 0, 0) := by
  refine wh_run (A := fun (s : (Int32 × (Nat → Int32))) => sxWP sc cl Q 216 (2, [some (.ref 59), some (.int v1), some (.int s.1)], [], (cW nw kp im ol sn sr tp (mW mk mg mt (mc.1, mc.2.1, mc.2.2.1, mc.2.2.2.1, mc.2.2.2.2.1, mc.2.2.2.2.2.1, mc.2.2.2.2.2.2.1, s.2) T)), 0, 0)) (B := fun (r : (Nat → Int32)) => ∀ (z2 : Option Value), sxWP sc cl Q 216 (20, [some (.ref 59), some (.int v1), z2], [], (cW nw kp im ol sn sr tp (mW mk mg mt (mc.1, mc.2.1, mc.2.2.1, mc.2.2.2.1, mc.2.2.2.2.1, mc.2.2.2.2.2.1, mc.2.2.2.2.2.2.1, r) T)), 0, 0)) (fun s x hf hA hB => ?_)
  unfold M_isUneven_s2 at hf
  refine stp hm 3 (br hf (fun c1 hf => ?_) (fun c1 hf => ?_))
  · show sxWP sc cl Q 216 (20, [some (.ref 59), some (.int v1), some (.int s.1)], [], (cW nw kp im ol sn sr tp (mW mk mg mt (mc.1, mc.2.1, mc.2.2.1, mc.2.2.2.1, mc.2.2.2.2.1, mc.2.2.2.2.2.1, mc.2.2.2.2.2.2.1, s.2) T)), 0, 0)
    obtain rfl := Option.some.inj hf
    exact hB _ rfl _
  · show sxWP sc cl Q 216 (7, [some (.ref 59), some (.int v1), some (.int s.1)], [], (cW nw kp im ol sn sr tp (mW mk mg mt (mc.1, mc.2.1, mc.2.2.1, mc.2.2.2.1, mc.2.2.2.2.1, mc.2.2.2.2.2.1, mc.2.2.2.2.2.2.1, s.2) T)), 0, 0)
    obtain ⟨g2, hf⟩ := grd_e hf
    refine stp hm 5 (And.intro (gi_in g2) (?_ : sxWP sc cl Q 216 (14, [some (.ref 59), some (.int v1), some (.int s.1)], [], (cW nw kp im ol sn sr tp (mW mk mg mt (mc.1, mc.2.1, mc.2.2.1, mc.2.2.2.1, mc.2.2.2.2.1, mc.2.2.2.2.2.1, mc.2.2.2.2.2.2.1, upd s.2 s.1.toNatClampNeg (0:Int32)) T)), 0, 0)))
    obtain rfl := Option.some.inj hf
    refine stp hm 2 (?_ : sxWP sc cl Q 216 (2, [some (.ref 59), some (.int v1), some (.int (s.1 + (1:Int32)))], [], (cW nw kp im ol sn sr tp (mW mk mg mt (mc.1, mc.2.1, mc.2.2.1, mc.2.2.2.1, mc.2.2.2.2.1, mc.2.2.2.2.2.1, mc.2.2.2.2.2.2.1, upd s.2 s.1.toNatClampNeg (0:Int32)) T)), 0, 0))
    exact hA _ rfl
set_option maxRecDepth 10000 in
theorem M_isUneven_l22 {v1 : Int32}   (hE : cl = sxE sc (d + 1)) (hm : CallMono cl) : ∀ (n : Nat) (s : (Int32 × (Nat → Int32))) (r : (Nat → Int32)), wh (M_isUneven_s22 v1 mk.1) n s = some r → (∀ (z1 z2 : Option Value), sxWP sc cl Q 216 (75, [some (.ref 59), z1, z2], [], (cW nw kp im ol sn sr tp (mW mk mg mt (mc.1, mc.2.1, mc.2.2.1, mc.2.2.2.1, mc.2.2.2.2.1, mc.2.2.2.2.2.1, mc.2.2.2.2.2.2.1, r) T)), 0, 0)) → sxWP sc cl Q 216 (22, [some (.ref 59), some (.int v1), some (.int s.1)], [], (cW nw kp im ol sn sr tp (mW mk mg mt (mc.1, mc.2.1, mc.2.2.1, mc.2.2.2.1, mc.2.2.2.2.1, mc.2.2.2.2.2.1, mc.2.2.2.2.2.2.1, s.2) T)), 0, 0) := by
  refine wh_run (A := fun (s : (Int32 × (Nat → Int32))) => sxWP sc cl Q 216 (22, [some (.ref 59), some (.int v1), some (.int s.1)], [], (cW nw kp im ol sn sr tp (mW mk mg mt (mc.1, mc.2.1, mc.2.2.1, mc.2.2.2.1, mc.2.2.2.2.1, mc.2.2.2.2.2.1, mc.2.2.2.2.2.2.1, s.2) T)), 0, 0)) (B := fun (r : (Nat → Int32)) => ∀ (z1 z2 : Option Value), sxWP sc cl Q 216 (75, [some (.ref 59), z1, z2], [], (cW nw kp im ol sn sr tp (mW mk mg mt (mc.1, mc.2.1, mc.2.2.1, mc.2.2.2.1, mc.2.2.2.2.1, mc.2.2.2.2.2.1, mc.2.2.2.2.2.2.1, r) T)), 0, 0)) (fun s x hf hA hB => ?_)
  have J69 : ∀ (v2 : Int32) (ccl_j : (Nat → Int32)), M_isUneven_j69 v2 ccl_j = some x → sxWP sc cl Q 216 (69, [some (.ref 59), some (.int v1), some (.int v2)], [], (cW nw kp im ol sn sr tp (mW mk mg mt (mc.1, mc.2.1, mc.2.2.1, mc.2.2.2.1, mc.2.2.2.2.1, mc.2.2.2.2.2.1, mc.2.2.2.2.2.2.1, ccl_j) T)), 0, 0) := by
    intro v2 ccl_j hf
    unfold M_isUneven_j69 at hf
    obtain rfl := Option.some.inj hf
    refine stp hm 2 (?_ : sxWP sc cl Q 216 (22, [some (.ref 59), some (.int v1), some (.int (v2 + (1:Int32)))], [], (cW nw kp im ol sn sr tp (mW mk mg mt (mc.1, mc.2.1, mc.2.2.1, mc.2.2.2.1, mc.2.2.2.2.1, mc.2.2.2.2.2.1, mc.2.2.2.2.2.2.1, ccl_j) T)), 0, 0))
    exact hA _ rfl
  unfold M_isUneven_s22 at hf
  refine stp hm 3 (br hf (fun c1 hf => ?_) (fun c1 hf => ?_))
  · show sxWP sc cl Q 216 (75, [some (.ref 59), some (.int v1), some (.int s.1)], [], (cW nw kp im ol sn sr tp (mW mk mg mt (mc.1, mc.2.1, mc.2.2.1, mc.2.2.2.1, mc.2.2.2.2.1, mc.2.2.2.2.2.1, mc.2.2.2.2.2.2.1, s.2) T)), 0, 0)
    obtain rfl := Option.some.inj hf
    exact hB _ rfl _ _
  · show sxWP sc cl Q 216 (28, [some (.ref 59), some (.int v1), some (.int s.1)], [], (cW nw kp im ol sn sr tp (mW mk mg mt (mc.1, mc.2.1, mc.2.2.1, mc.2.2.2.1, mc.2.2.2.2.1, mc.2.2.2.2.2.1, mc.2.2.2.2.2.2.1, s.2) T)), 0, 0)
    refine stp hm 3 (M_has_ok hE rfl ?_)
    show sxWP sc cl Q 216 (33, [some (.ref 59), some (.int v1), some (.int s.1)], [.int (M_has s.1 mk.1)], (cW nw kp im ol sn sr tp (mW mk mg mt (mc.1, mc.2.1, mc.2.2.1, mc.2.2.2.1, mc.2.2.2.2.1, mc.2.2.2.2.2.1, mc.2.2.2.2.2.2.1, s.2) T)), 0, 0)
    refine stp hm 1 (br hf (fun c2 hf => ?_) (fun c2 hf => ?_))
    · show sxWP sc cl Q 216 (69, [some (.ref 59), some (.int v1), some (.int s.1)], [], (cW nw kp im ol sn sr tp (mW mk mg mt (mc.1, mc.2.1, mc.2.2.1, mc.2.2.2.1, mc.2.2.2.2.1, mc.2.2.2.2.2.1, mc.2.2.2.2.2.2.1, s.2) T)), 0, 0)
      exact J69 _ _ hf
    · show sxWP sc cl Q 216 (36, [some (.ref 59), some (.int v1), some (.int s.1)], [], (cW nw kp im ol sn sr tp (mW mk mg mt (mc.1, mc.2.1, mc.2.2.1, mc.2.2.2.1, mc.2.2.2.2.1, mc.2.2.2.2.2.1, mc.2.2.2.2.2.2.1, s.2) T)), 0, 0)
      refine stp hm 5 (And.intro (by decide) (?_ : sxWP sc cl Q 216 (44, [some (.ref 59), some (.int v1), some (.int s.1)], [.int (s.1 / (6:Int32)), .ref 80], (cW nw kp im ol sn sr tp (mW mk mg mt (mc.1, mc.2.1, mc.2.2.1, mc.2.2.2.1, mc.2.2.2.2.1, mc.2.2.2.2.2.1, mc.2.2.2.2.2.2.1, s.2) T)), 0, 0)))
      have m3 : ∀ (m3_0 : Int32), m3_0 = (if v1 = (0:Int32) then (s.1 - s.1 / (6:Int32) * (6:Int32)) else ((5:Int32) - (s.1 - s.1 / (6:Int32) * (6:Int32)))) → sxWP sc cl Q 216 (61, [some (.ref 59), some (.int v1), some (.int s.1)], [.int m3_0, .int (s.1 / (6:Int32)), .ref 80], (cW nw kp im ol sn sr tp (mW mk mg mt (mc.1, mc.2.1, mc.2.2.1, mc.2.2.2.1, mc.2.2.2.2.1, mc.2.2.2.2.2.1, mc.2.2.2.2.2.2.1, s.2) T)), 0, 0) := by
        intro m3_0 em3_0
        subst em3_0
        refine stp hm 3 (And.intro (by decide) (?_ : sxWP sc cl Q 216 (64, [some (.ref 59), some (.int v1), some (.int s.1)], [.int (((s.1 / (6:Int32)) + (if v1 = (0:Int32) then (s.1 - s.1 / (6:Int32) * (6:Int32)) else ((5:Int32) - (s.1 - s.1 / (6:Int32) * (6:Int32))))) - ((s.1 / (6:Int32)) + (if v1 = (0:Int32) then (s.1 - s.1 / (6:Int32) * (6:Int32)) else ((5:Int32) - (s.1 - s.1 / (6:Int32) * (6:Int32))))) / (3:Int32) * (3:Int32)), .ref 80], (cW nw kp im ol sn sr tp (mW mk mg mt (mc.1, mc.2.1, mc.2.2.1, mc.2.2.2.1, mc.2.2.2.2.1, mc.2.2.2.2.2.1, mc.2.2.2.2.2.2.1, s.2) T)), 0, 0)))
        obtain ⟨g4, hf⟩ := grd_e hf
        refine stp hm 2 (And.intro (gi_in g4) (?_ : sxWP sc cl Q 216 (66, [some (.ref 59), some (.int v1), some (.int s.1)], [.int (s.2 (((s.1 / (6:Int32)) + (if v1 = (0:Int32) then (s.1 - s.1 / (6:Int32) * (6:Int32)) else ((5:Int32) - (s.1 - s.1 / (6:Int32) * (6:Int32))))) - ((s.1 / (6:Int32)) + (if v1 = (0:Int32) then (s.1 - s.1 / (6:Int32) * (6:Int32)) else ((5:Int32) - (s.1 - s.1 / (6:Int32) * (6:Int32))))) / (3:Int32) * (3:Int32)).toNatClampNeg), .int (((s.1 / (6:Int32)) + (if v1 = (0:Int32) then (s.1 - s.1 / (6:Int32) * (6:Int32)) else ((5:Int32) - (s.1 - s.1 / (6:Int32) * (6:Int32))))) - ((s.1 / (6:Int32)) + (if v1 = (0:Int32) then (s.1 - s.1 / (6:Int32) * (6:Int32)) else ((5:Int32) - (s.1 - s.1 / (6:Int32) * (6:Int32))))) / (3:Int32) * (3:Int32)), .ref 80], (cW nw kp im ol sn sr tp (mW mk mg mt (mc.1, mc.2.1, mc.2.2.1, mc.2.2.2.1, mc.2.2.2.2.1, mc.2.2.2.2.2.1, mc.2.2.2.2.2.2.1, s.2) T)), 0, 0)))
        obtain ⟨g5, hf⟩ := grd_e hf
        refine stp hm 3 (And.intro (gi_in g5) (?_ : sxWP sc cl Q 216 (69, [some (.ref 59), some (.int v1), some (.int s.1)], [], (cW nw kp im ol sn sr tp (mW mk mg mt (mc.1, mc.2.1, mc.2.2.1, mc.2.2.2.1, mc.2.2.2.2.1, mc.2.2.2.2.2.1, mc.2.2.2.2.2.2.1, upd s.2 (((s.1 / (6:Int32)) + (if v1 = (0:Int32) then (s.1 - s.1 / (6:Int32) * (6:Int32)) else ((5:Int32) - (s.1 - s.1 / (6:Int32) * (6:Int32))))) - ((s.1 / (6:Int32)) + (if v1 = (0:Int32) then (s.1 - s.1 / (6:Int32) * (6:Int32)) else ((5:Int32) - (s.1 - s.1 / (6:Int32) * (6:Int32))))) / (3:Int32) * (3:Int32)).toNatClampNeg ((s.2 (((s.1 / (6:Int32)) + (if v1 = (0:Int32) then (s.1 - s.1 / (6:Int32) * (6:Int32)) else ((5:Int32) - (s.1 - s.1 / (6:Int32) * (6:Int32))))) - ((s.1 / (6:Int32)) + (if v1 = (0:Int32) then (s.1 - s.1 / (6:Int32) * (6:Int32)) else ((5:Int32) - (s.1 - s.1 / (6:Int32) * (6:Int32))))) / (3:Int32) * (3:Int32)).toNatClampNeg) + (1:Int32))) T)), 0, 0)))
        exact J69 _ _ hf
      refine stp hm 2 (bs (c := v1 = (0:Int32)) (fun c6 => ?_) (fun c6 => ?_))
      · have c6 : v1 = (0:Int32) := c6
        refine stp hm 3 (And.intro (by decide) (?_ : sxWP sc cl Q 216 (61, [some (.ref 59), some (.int v1), some (.int s.1)], [.int (s.1 - s.1 / (6:Int32) * (6:Int32)), .int (s.1 / (6:Int32)), .ref 80], (cW nw kp im ol sn sr tp (mW mk mg mt (mc.1, mc.2.1, mc.2.2.1, mc.2.2.2.1, mc.2.2.2.2.1, mc.2.2.2.2.2.1, mc.2.2.2.2.2.2.1, s.2) T)), 0, 0)))
        exact m3 _ (by rw [if_pos c6])
      · have c6 : ¬ v1 = (0:Int32) := c6
        refine stp hm 4 (And.intro (by decide) (?_ : sxWP sc cl Q 216 (53, [some (.ref 59), some (.int v1), some (.int s.1)], [.int (s.1 - s.1 / (6:Int32) * (6:Int32)), .int (5:Int32), .int (s.1 / (6:Int32)), .ref 80], (cW nw kp im ol sn sr tp (mW mk mg mt (mc.1, mc.2.1, mc.2.2.1, mc.2.2.2.1, mc.2.2.2.2.1, mc.2.2.2.2.2.1, mc.2.2.2.2.2.2.1, s.2) T)), 0, 0)))
        refine stp hm 2 (?_ : sxWP sc cl Q 216 (61, [some (.ref 59), some (.int v1), some (.int s.1)], [.int ((5:Int32) - (s.1 - s.1 / (6:Int32) * (6:Int32))), .int (s.1 / (6:Int32)), .ref 80], (cW nw kp im ol sn sr tp (mW mk mg mt (mc.1, mc.2.1, mc.2.2.1, mc.2.2.2.1, mc.2.2.2.2.1, mc.2.2.2.2.2.1, mc.2.2.2.2.2.2.1, s.2) T)), 0, 0))
        exact m3 _ (by rw [if_neg c6])
set_option maxRecDepth 10000 in
theorem M_isUneven_ok {v1 : Int32} {q : (Int32 × (Nat → Int32))} (hc : call = sxE sc (d + 2)) (hf : M_isUneven v1 mk.1 mc.2.2.2.2.2.2.2 = some q) (h : Q (some (.int q.1)) (cW nw kp im ol sn sr tp (mW mk mg mt (mc.1, mc.2.1, mc.2.2.1, mc.2.2.2.1, mc.2.2.2.2.1, mc.2.2.2.2.2.1, mc.2.2.2.2.2.2.1, q.2) T))) : call 216 [.ref 59, .int v1] (cW nw kp im ol sn sr tp (mW mk mg mt mc T)) Q := by
  refine ent hc rfl (fun cl hE hm => ?_)
  have J110 : ∀ (k0 : Int32) (ccl_j : (Nat → Int32)) (z0 : Option Value) (z1 : Option Value) (z2 : Option Value), M_isUneven_j110 k0 ccl_j = some q → sxWP sc cl Q 216 (110, [z0, z1, z2], [.int k0], (cW nw kp im ol sn sr tp (mW mk mg mt (mc.1, mc.2.1, mc.2.2.1, mc.2.2.2.1, mc.2.2.2.2.1, mc.2.2.2.2.2.1, mc.2.2.2.2.2.2.1, ccl_j) T)), 0, 0) := by
    intro k0 ccl_j z0 z1 z2 hf
    unfold M_isUneven_j110 at hf
    obtain ⟨g0, hf⟩ := grd_e hf
    obtain rfl := Option.some.inj hf
    refine stp hm 1 (And.intro (zb_e g0) ?_)
    exact h
  have J105 : ∀ (ccl_j : (Nat → Int32)) (z0 : Option Value) (z1 : Option Value) (z2 : Option Value), M_isUneven_j105 ccl_j = some q → sxWP sc cl Q 216 (105, [z0, z1, z2], [], (cW nw kp im ol sn sr tp (mW mk mg mt (mc.1, mc.2.1, mc.2.2.1, mc.2.2.2.1, mc.2.2.2.2.1, mc.2.2.2.2.2.1, mc.2.2.2.2.2.2.1, ccl_j) T)), 0, 0) := by
    intro ccl_j z0 z1 z2 hf
    unfold M_isUneven_j105 at hf
    refine stp hm 2 (?_ : sxWP sc cl Q 216 (110, [z0, z1, z2], [.int (1:Int32)], (cW nw kp im ol sn sr tp (mW mk mg mt (mc.1, mc.2.1, mc.2.2.1, mc.2.2.2.1, mc.2.2.2.2.1, mc.2.2.2.2.2.1, mc.2.2.2.2.2.2.1, ccl_j) T)), 0, 0))
    exact J110 _ _ _ _ _ hf
  unfold M_isUneven at hf
  obtain ⟨w1, hw1, hf⟩ := bnd hf
  refine stp hm 2 (?_ : sxWP sc cl Q 216 (2, [some (.ref 59), some (.int v1), some (.int (0:Int32))], [], (cW nw kp im ol sn sr tp (mW mk mg mt mc T)), 0, 0))
  refine M_isUneven_l2 hE hm _ _ _ hw1 ?_
  intro w1_z2
  show sxWP sc cl Q 216 (20, [some (.ref 59), some (.int v1), w1_z2], [], (cW nw kp im ol sn sr tp (mW mk mg mt (mc.1, mc.2.1, mc.2.2.1, mc.2.2.2.1, mc.2.2.2.2.1, mc.2.2.2.2.2.1, mc.2.2.2.2.2.2.1, w1) T)), 0, 0)
  obtain ⟨w2, hw2, hf⟩ := bnd hf
  refine stp hm 2 (?_ : sxWP sc cl Q 216 (22, [some (.ref 59), some (.int v1), some (.int (0:Int32))], [], (cW nw kp im ol sn sr tp (mW mk mg mt (mc.1, mc.2.1, mc.2.2.1, mc.2.2.2.1, mc.2.2.2.2.1, mc.2.2.2.2.2.1, mc.2.2.2.2.2.2.1, w1) T)), 0, 0))
  refine M_isUneven_l22 hE hm _ _ _ hw2 ?_
  intro w2_z1 w2_z2
  show sxWP sc cl Q 216 (75, [some (.ref 59), w2_z1, w2_z2], [], (cW nw kp im ol sn sr tp (mW mk mg mt (mc.1, mc.2.1, mc.2.2.1, mc.2.2.2.1, mc.2.2.2.2.1, mc.2.2.2.2.2.1, mc.2.2.2.2.2.2.1, w2) T)), 0, 0)
  obtain ⟨g3, hf⟩ := grd_e hf
  refine stp hm 4 (And.intro (gi_in g3) (?_ : sxWP sc cl Q 216 (81, [some (.ref 59), w2_z1, w2_z2], [.int (w2 (0:Int32).toNatClampNeg)], (cW nw kp im ol sn sr tp (mW mk mg mt (mc.1, mc.2.1, mc.2.2.1, mc.2.2.2.1, mc.2.2.2.2.1, mc.2.2.2.2.2.1, mc.2.2.2.2.2.2.1, w2) T)), 0, 0)))
  obtain ⟨g4, hf⟩ := grd_e hf
  refine stp hm 4 (And.intro (gi_in g4) (?_ : sxWP sc cl Q 216 (87, [some (.ref 59), w2_z1, w2_z2], [.int (w2 (1:Int32).toNatClampNeg), .int (w2 (0:Int32).toNatClampNeg)], (cW nw kp im ol sn sr tp (mW mk mg mt (mc.1, mc.2.1, mc.2.2.1, mc.2.2.2.1, mc.2.2.2.2.1, mc.2.2.2.2.2.1, mc.2.2.2.2.2.2.1, w2) T)), 0, 0)))
  refine stp hm 1 (brn hf (fun c5 hf => ?_) (fun c5 hf => ?_))
  · show sxWP sc cl Q 216 (105, [some (.ref 59), w2_z1, w2_z2], [], (cW nw kp im ol sn sr tp (mW mk mg mt (mc.1, mc.2.1, mc.2.2.1, mc.2.2.2.1, mc.2.2.2.2.1, mc.2.2.2.2.2.1, mc.2.2.2.2.2.2.1, w2) T)), 0, 0)
    exact J105 _ _ _ _ hf
  · show sxWP sc cl Q 216 (90, [some (.ref 59), w2_z1, w2_z2], [], (cW nw kp im ol sn sr tp (mW mk mg mt (mc.1, mc.2.1, mc.2.2.1, mc.2.2.2.1, mc.2.2.2.2.1, mc.2.2.2.2.2.1, mc.2.2.2.2.2.2.1, w2) T)), 0, 0)
    obtain ⟨g6, hf⟩ := grd_e hf
    refine stp hm 4 (And.intro (gi_in g6) (?_ : sxWP sc cl Q 216 (96, [some (.ref 59), w2_z1, w2_z2], [.int (w2 (1:Int32).toNatClampNeg)], (cW nw kp im ol sn sr tp (mW mk mg mt (mc.1, mc.2.1, mc.2.2.1, mc.2.2.2.1, mc.2.2.2.2.1, mc.2.2.2.2.2.1, mc.2.2.2.2.2.2.1, w2) T)), 0, 0)))
    obtain ⟨g7, hf⟩ := grd_e hf
    refine stp hm 4 (And.intro (gi_in g7) (?_ : sxWP sc cl Q 216 (102, [some (.ref 59), w2_z1, w2_z2], [.int (w2 (2:Int32).toNatClampNeg), .int (w2 (1:Int32).toNatClampNeg)], (cW nw kp im ol sn sr tp (mW mk mg mt (mc.1, mc.2.1, mc.2.2.1, mc.2.2.2.1, mc.2.2.2.2.1, mc.2.2.2.2.2.1, mc.2.2.2.2.2.2.1, w2) T)), 0, 0)))
    have m8 : ∀ (m8_0 : Int32), m8_0 = (if (w2 (1:Int32).toNatClampNeg) = (w2 (2:Int32).toNatClampNeg) then (0:Int32) else (1:Int32)) → sxWP sc cl Q 216 (110, [some (.ref 59), w2_z1, w2_z2], [.int m8_0], (cW nw kp im ol sn sr tp (mW mk mg mt (mc.1, mc.2.1, mc.2.2.1, mc.2.2.2.1, mc.2.2.2.2.1, mc.2.2.2.2.2.1, mc.2.2.2.2.2.2.1, w2) T)), 0, 0) := by
      intro m8_0 em8_0
      subst em8_0
      obtain rfl := Option.some.inj hf
      refine stp hm 1 (And.intro (by (repeat' split) <;> first | exact Or.inl rfl | exact Or.inr rfl) ?_)
      exact h
    refine stp hm 1 (bs (c := (w2 (1:Int32).toNatClampNeg) = (w2 (2:Int32).toNatClampNeg)) (fun c9 => ?_) (fun c9 => ?_))
    · have c9 : (w2 (1:Int32).toNatClampNeg) = (w2 (2:Int32).toNatClampNeg) := c9
      refine stp hm 1 (?_ : sxWP sc cl Q 216 (110, [some (.ref 59), w2_z1, w2_z2], [.int (0:Int32)], (cW nw kp im ol sn sr tp (mW mk mg mt (mc.1, mc.2.1, mc.2.2.1, mc.2.2.2.1, mc.2.2.2.2.1, mc.2.2.2.2.2.1, mc.2.2.2.2.2.2.1, w2) T)), 0, 0))
      exact m8 _ (by rw [if_pos c9])
    · have c9 : ¬ (w2 (1:Int32).toNatClampNeg) = (w2 (2:Int32).toNatClampNeg) := c9
      refine stp hm 2 (?_ : sxWP sc cl Q 216 (110, [some (.ref 59), w2_z1, w2_z2], [.int (1:Int32)], (cW nw kp im ol sn sr tp (mW mk mg mt (mc.1, mc.2.1, mc.2.2.1, mc.2.2.2.1, mc.2.2.2.2.1, mc.2.2.2.2.2.1, mc.2.2.2.2.2.2.1, w2) T)), 0, 0))
      exact m8 _ (by rw [if_neg c9])

def M_barred_j91  (k0 : Int32) (gle_j : Int32) (gsu_j : Int32) (gma_j : (Nat → Int32)) (gpi_j : (Nat → Int32)) (gst_j : (Nat → Int32)) (ghe_j : (Nat → Int32)) (gow_j : (Nat → Int32)) (gfa_j : (Nat → Int32)) (gqu_j : (Nat → Int32)) (glo_j : (Nat → Int32)) (ghi_j : (Nat → Int32)) (ccl_j : (Nat → Int32)) : Option (Int32 × Int32 × Int32 × (Nat → Int32) × (Nat → Int32) × (Nat → Int32) × (Nat → Int32) × (Nat → Int32) × (Nat → Int32) × (Nat → Int32) × (Nat → Int32) × (Nat → Int32) × (Nat → Int32)) := some (k0, gle_j, gsu_j, gma_j, gpi_j, gst_j, ghe_j, gow_j, gfa_j, gqu_j, glo_j, ghi_j, ccl_j)
def M_barred_j89  (gle_j : Int32) (gsu_j : Int32) (gma_j : (Nat → Int32)) (gpi_j : (Nat → Int32)) (gst_j : (Nat → Int32)) (ghe_j : (Nat → Int32)) (gow_j : (Nat → Int32)) (gfa_j : (Nat → Int32)) (gqu_j : (Nat → Int32)) (glo_j : (Nat → Int32)) (ghi_j : (Nat → Int32)) (ccl_j : (Nat → Int32)) : Option (Int32 × Int32 × Int32 × (Nat → Int32) × (Nat → Int32) × (Nat → Int32) × (Nat → Int32) × (Nat → Int32) × (Nat → Int32) × (Nat → Int32) × (Nat → Int32) × (Nat → Int32) × (Nat → Int32)) := M_barred_j91 (-5:Int32) gle_j gsu_j gma_j gpi_j gst_j ghe_j gow_j gfa_j gqu_j glo_j ghi_j ccl_j
def M_barred_j67  (v1 : Int32) (gle_j : Int32) (gsu_j : Int32) (gma_j : (Nat → Int32)) (gpi_j : (Nat → Int32)) (gst_j : (Nat → Int32)) (ghe_j : (Nat → Int32)) (gow_j : (Nat → Int32)) (gfa_j : (Nat → Int32)) (gqu_j : (Nat → Int32)) (glo_j : (Nat → Int32)) (ghi_j : (Nat → Int32)) (ccl_j : (Nat → Int32)) (mrg : Int64) : Option (Int32 × Int32 × Int32 × (Nat → Int32) × (Nat → Int32) × (Nat → Int32) × (Nat → Int32) × (Nat → Int32) × (Nat → Int32) × (Nat → Int32) × (Nat → Int32) × (Nat → Int32) × (Nat → Int32)) := if v1 = (0:Int32) then (Option.bind (M_isSimple mrg gma_j gpi_j) (fun q2 => if q2.1 = (0:Int32) then (M_barred_j89 gle_j gsu_j q2.2.1 q2.2.2 gst_j ghe_j gow_j gfa_j gqu_j glo_j ghi_j ccl_j) else (Option.bind (M_isTilable mrg gle_j gsu_j q2.2.1 q2.2.2 gst_j ghe_j gow_j gfa_j gqu_j glo_j ghi_j) (fun q4 => some (if q4.1 = (0:Int32) then (2:Int32) else (-5:Int32), q4.2.1, q4.2.2.1, q4.2.2.2.1, q4.2.2.2.2.1, q4.2.2.2.2.2.1, q4.2.2.2.2.2.2.1, q4.2.2.2.2.2.2.2.1, q4.2.2.2.2.2.2.2.2.1, q4.2.2.2.2.2.2.2.2.2.1, q4.2.2.2.2.2.2.2.2.2.2.1, q4.2.2.2.2.2.2.2.2.2.2.2, ccl_j))))) else (M_barred_j89 gle_j gsu_j gma_j gpi_j gst_j ghe_j gow_j gfa_j gqu_j glo_j ghi_j ccl_j)
def M_barred_j65  (gle_j : Int32) (gsu_j : Int32) (gma_j : (Nat → Int32)) (gpi_j : (Nat → Int32)) (gst_j : (Nat → Int32)) (ghe_j : (Nat → Int32)) (gow_j : (Nat → Int32)) (gfa_j : (Nat → Int32)) (gqu_j : (Nat → Int32)) (glo_j : (Nat → Int32)) (ghi_j : (Nat → Int32)) (ccl_j : (Nat → Int32)) : Option (Int32 × Int32 × Int32 × (Nat → Int32) × (Nat → Int32) × (Nat → Int32) × (Nat → Int32) × (Nat → Int32) × (Nat → Int32) × (Nat → Int32) × (Nat → Int32) × (Nat → Int32) × (Nat → Int32)) := some ((1:Int32), gle_j, gsu_j, gma_j, gpi_j, gst_j, ghe_j, gow_j, gfa_j, gqu_j, glo_j, ghi_j, ccl_j)
def M_barred_j44  (v1 : Int32) (gle_j : Int32) (gsu_j : Int32) (gma_j : (Nat → Int32)) (gpi_j : (Nat → Int32)) (gst_j : (Nat → Int32)) (ghe_j : (Nat → Int32)) (gow_j : (Nat → Int32)) (gfa_j : (Nat → Int32)) (gqu_j : (Nat → Int32)) (glo_j : (Nat → Int32)) (ghi_j : (Nat → Int32)) (ccl_j : (Nat → Int32)) (mrg : Int64) : Option (Int32 × Int32 × Int32 × (Nat → Int32) × (Nat → Int32) × (Nat → Int32) × (Nat → Int32) × (Nat → Int32) × (Nat → Int32) × (Nat → Int32) × (Nat → Int32) × (Nat → Int32) × (Nat → Int32)) := if v1 = (1:Int32) then (Option.bind (M_isUneven (0:Int32) mrg ccl_j) (fun q8 => if q8.1 = (0:Int32) then (Option.bind (M_isUneven (1:Int32) mrg q8.2) (fun q10 => if q10.1 = (0:Int32) then (M_barred_j67 v1 gle_j gsu_j gma_j gpi_j gst_j ghe_j gow_j gfa_j gqu_j glo_j ghi_j q10.2 mrg) else (M_barred_j65 gle_j gsu_j gma_j gpi_j gst_j ghe_j gow_j gfa_j gqu_j glo_j ghi_j q10.2))) else (M_barred_j65 gle_j gsu_j gma_j gpi_j gst_j ghe_j gow_j gfa_j gqu_j glo_j ghi_j q8.2))) else (M_barred_j67 v1 gle_j gsu_j gma_j gpi_j gst_j ghe_j gow_j gfa_j gqu_j glo_j ghi_j ccl_j mrg)
def M_barred (v1 : Int32) (mrg : Int64) (gle : Int32) (gsu : Int32) (gma : (Nat → Int32)) (gpi : (Nat → Int32)) (gst : (Nat → Int32)) (ghe : (Nat → Int32)) (gow : (Nat → Int32)) (gfa : (Nat → Int32)) (gqu : (Nat → Int32)) (glo : (Nat → Int32)) (ghi : (Nat → Int32)) (ccl : (Nat → Int32)) : Option (Int32 × Int32 × Int32 × (Nat → Int32) × (Nat → Int32) × (Nat → Int32) × (Nat → Int32) × (Nat → Int32) × (Nat → Int32) × (Nat → Int32) × (Nat → Int32) × (Nat → Int32) × (Nat → Int32)) := if (M_isKind v1) = (0:Int32) then (some ((-1:Int32), gle, gsu, gma, gpi, gst, ghe, gow, gfa, gqu, glo, ghi, ccl)) else (Option.bind (M_cells mrg) (fun q13 => grd (decide (¬ (if v1 = (0:Int32) then (2:Int32) else (3:Int32)) = 0)) (if (q13 - q13 / (if v1 = (0:Int32) then (2:Int32) else (3:Int32)) * (if v1 = (0:Int32) then (2:Int32) else (3:Int32))) = (0:Int32) then (if v1 = (0:Int32) then (Option.bind (M_blacks mrg) (fun q18 => if ((2:Int32) * q18) = q13 then (M_barred_j44 v1 gle gsu gma gpi gst ghe gow gfa gqu glo ghi ccl mrg) else (M_barred_j65 gle gsu gma gpi gst ghe gow gfa gqu glo ghi ccl))) else (M_barred_j44 v1 gle gsu gma gpi gst ghe gow gfa gqu glo ghi ccl mrg)) else (some ((0:Int32), gle, gsu, gma, gpi, gst, ghe, gow, gfa, gqu, glo, ghi, ccl)))))
set_option maxRecDepth 10000 in
theorem M_barred_ok {v1 : Int32} {q : (Int32 × Int32 × Int32 × (Nat → Int32) × (Nat → Int32) × (Nat → Int32) × (Nat → Int32) × (Nat → Int32) × (Nat → Int32) × (Nat → Int32) × (Nat → Int32) × (Nat → Int32) × (Nat → Int32))} (hc : call = sxE sc (d + 7)) (hf : M_barred v1 mk.1 mg.2.2.1 mg.2.2.2.1 mg.1 mg.2.1 mg.2.2.2.2.1 mg.2.2.2.2.2.1 mg.2.2.2.2.2.2.1 mg.2.2.2.2.2.2.2.1 mg.2.2.2.2.2.2.2.2.1 mg.2.2.2.2.2.2.2.2.2.1 mg.2.2.2.2.2.2.2.2.2.2.1 mc.2.2.2.2.2.2.2 = some q) (h : Q (some (.int q.1)) (cW nw kp im ol sn sr tp (mW mk (q.2.2.2.1, q.2.2.2.2.1, q.2.1, q.2.2.1, q.2.2.2.2.2.1, q.2.2.2.2.2.2.1, q.2.2.2.2.2.2.2.1, q.2.2.2.2.2.2.2.2.1, q.2.2.2.2.2.2.2.2.2.1, q.2.2.2.2.2.2.2.2.2.2.1, q.2.2.2.2.2.2.2.2.2.2.2.1, mg.2.2.2.2.2.2.2.2.2.2.2.1, mg.2.2.2.2.2.2.2.2.2.2.2.2) mt (mc.1, mc.2.1, mc.2.2.1, mc.2.2.2.1, mc.2.2.2.2.1, mc.2.2.2.2.2.1, mc.2.2.2.2.2.2.1, q.2.2.2.2.2.2.2.2.2.2.2.2) T))) : call 217 [.ref 59, .int v1] (cW nw kp im ol sn sr tp (mW mk mg mt mc T)) Q := by
  refine ent hc rfl (fun cl hE hm => ?_)
  have J91 : ∀ (k0 : Int32) (gle_j : Int32) (gsu_j : Int32) (gma_j : (Nat → Int32)) (gpi_j : (Nat → Int32)) (gst_j : (Nat → Int32)) (ghe_j : (Nat → Int32)) (gow_j : (Nat → Int32)) (gfa_j : (Nat → Int32)) (gqu_j : (Nat → Int32)) (glo_j : (Nat → Int32)) (ghi_j : (Nat → Int32)) (ccl_j : (Nat → Int32)) (z0 : Option Value) (z1 : Option Value) (z2 : Option Value), M_barred_j91 k0 gle_j gsu_j gma_j gpi_j gst_j ghe_j gow_j gfa_j gqu_j glo_j ghi_j ccl_j = some q → sxWP sc cl Q 217 (91, [z0, z1, z2], [.int k0], (cW nw kp im ol sn sr tp (mW mk (gma_j, gpi_j, gle_j, gsu_j, gst_j, ghe_j, gow_j, gfa_j, gqu_j, glo_j, ghi_j, mg.2.2.2.2.2.2.2.2.2.2.2.1, mg.2.2.2.2.2.2.2.2.2.2.2.2) mt (mc.1, mc.2.1, mc.2.2.1, mc.2.2.2.1, mc.2.2.2.2.1, mc.2.2.2.2.2.1, mc.2.2.2.2.2.2.1, ccl_j) T)), 0, 0) := by
    intro k0 gle_j gsu_j gma_j gpi_j gst_j ghe_j gow_j gfa_j gqu_j glo_j ghi_j ccl_j z0 z1 z2 hf
    unfold M_barred_j91 at hf
    obtain rfl := Option.some.inj hf
    refine stp hm 1 ?_
    exact h
  have J89 : ∀ (gle_j : Int32) (gsu_j : Int32) (gma_j : (Nat → Int32)) (gpi_j : (Nat → Int32)) (gst_j : (Nat → Int32)) (ghe_j : (Nat → Int32)) (gow_j : (Nat → Int32)) (gfa_j : (Nat → Int32)) (gqu_j : (Nat → Int32)) (glo_j : (Nat → Int32)) (ghi_j : (Nat → Int32)) (ccl_j : (Nat → Int32)) (z0 : Option Value) (z1 : Option Value) (z2 : Option Value), M_barred_j89 gle_j gsu_j gma_j gpi_j gst_j ghe_j gow_j gfa_j gqu_j glo_j ghi_j ccl_j = some q → sxWP sc cl Q 217 (89, [z0, z1, z2], [], (cW nw kp im ol sn sr tp (mW mk (gma_j, gpi_j, gle_j, gsu_j, gst_j, ghe_j, gow_j, gfa_j, gqu_j, glo_j, ghi_j, mg.2.2.2.2.2.2.2.2.2.2.2.1, mg.2.2.2.2.2.2.2.2.2.2.2.2) mt (mc.1, mc.2.1, mc.2.2.1, mc.2.2.2.1, mc.2.2.2.2.1, mc.2.2.2.2.2.1, mc.2.2.2.2.2.2.1, ccl_j) T)), 0, 0) := by
    intro gle_j gsu_j gma_j gpi_j gst_j ghe_j gow_j gfa_j gqu_j glo_j ghi_j ccl_j z0 z1 z2 hf
    unfold M_barred_j89 at hf
    refine stp hm 1 (?_ : sxWP sc cl Q 217 (91, [z0, z1, z2], [.int (-5:Int32)], (cW nw kp im ol sn sr tp (mW mk (gma_j, gpi_j, gle_j, gsu_j, gst_j, ghe_j, gow_j, gfa_j, gqu_j, glo_j, ghi_j, mg.2.2.2.2.2.2.2.2.2.2.2.1, mg.2.2.2.2.2.2.2.2.2.2.2.2) mt (mc.1, mc.2.1, mc.2.2.1, mc.2.2.2.1, mc.2.2.2.2.1, mc.2.2.2.2.2.1, mc.2.2.2.2.2.2.1, ccl_j) T)), 0, 0))
    exact J91 _ _ _ _ _ _ _ _ _ _ _ _ _ _ _ _ hf
  have J67 : ∀ (v1 : Int32) (gle_j : Int32) (gsu_j : Int32) (gma_j : (Nat → Int32)) (gpi_j : (Nat → Int32)) (gst_j : (Nat → Int32)) (ghe_j : (Nat → Int32)) (gow_j : (Nat → Int32)) (gfa_j : (Nat → Int32)) (gqu_j : (Nat → Int32)) (glo_j : (Nat → Int32)) (ghi_j : (Nat → Int32)) (ccl_j : (Nat → Int32)) (z2 : Option Value), M_barred_j67 v1 gle_j gsu_j gma_j gpi_j gst_j ghe_j gow_j gfa_j gqu_j glo_j ghi_j ccl_j mk.1 = some q → sxWP sc cl Q 217 (67, [some (.ref 59), some (.int v1), z2], [], (cW nw kp im ol sn sr tp (mW mk (gma_j, gpi_j, gle_j, gsu_j, gst_j, ghe_j, gow_j, gfa_j, gqu_j, glo_j, ghi_j, mg.2.2.2.2.2.2.2.2.2.2.2.1, mg.2.2.2.2.2.2.2.2.2.2.2.2) mt (mc.1, mc.2.1, mc.2.2.1, mc.2.2.2.1, mc.2.2.2.2.1, mc.2.2.2.2.2.1, mc.2.2.2.2.2.2.1, ccl_j) T)), 0, 0) := by
    intro v1 gle_j gsu_j gma_j gpi_j gst_j ghe_j gow_j gfa_j gqu_j glo_j ghi_j ccl_j z2 hf
    unfold M_barred_j67 at hf
    refine stp hm 2 (brn hf (fun c1 hf => ?_) (fun c1 hf => ?_))
    · show sxWP sc cl Q 217 (89, [some (.ref 59), some (.int v1), z2], [], (cW nw kp im ol sn sr tp (mW mk (gma_j, gpi_j, gle_j, gsu_j, gst_j, ghe_j, gow_j, gfa_j, gqu_j, glo_j, ghi_j, mg.2.2.2.2.2.2.2.2.2.2.2.1, mg.2.2.2.2.2.2.2.2.2.2.2.2) mt (mc.1, mc.2.1, mc.2.2.1, mc.2.2.2.1, mc.2.2.2.2.1, mc.2.2.2.2.2.1, mc.2.2.2.2.2.2.1, ccl_j) T)), 0, 0)
      exact J89 _ _ _ _ _ _ _ _ _ _ _ _ _ _ _ hf
    · show sxWP sc cl Q 217 (71, [some (.ref 59), some (.int v1), z2], [], (cW nw kp im ol sn sr tp (mW mk (gma_j, gpi_j, gle_j, gsu_j, gst_j, ghe_j, gow_j, gfa_j, gqu_j, glo_j, ghi_j, mg.2.2.2.2.2.2.2.2.2.2.2.1, mg.2.2.2.2.2.2.2.2.2.2.2.2) mt (mc.1, mc.2.1, mc.2.2.1, mc.2.2.2.1, mc.2.2.2.2.1, mc.2.2.2.2.2.1, mc.2.2.2.2.2.2.1, ccl_j) T)), 0, 0)
      obtain ⟨q2, hq2, hf⟩ := bnd hf
      refine stp hm 2 (M_isSimple_ok hE hq2 ?_)
      show sxWP sc cl Q 217 (75, [some (.ref 59), some (.int v1), z2], [.int q2.1], (cW nw kp im ol sn sr tp (mW mk (q2.2.1, q2.2.2, gle_j, gsu_j, gst_j, ghe_j, gow_j, gfa_j, gqu_j, glo_j, ghi_j, mg.2.2.2.2.2.2.2.2.2.2.2.1, mg.2.2.2.2.2.2.2.2.2.2.2.2) mt (mc.1, mc.2.1, mc.2.2.1, mc.2.2.2.1, mc.2.2.2.2.1, mc.2.2.2.2.2.1, mc.2.2.2.2.2.2.1, ccl_j) T)), 0, 0)
      refine stp hm 1 (br hf (fun c3 hf => ?_) (fun c3 hf => ?_))
      · show sxWP sc cl Q 217 (89, [some (.ref 59), some (.int v1), z2], [], (cW nw kp im ol sn sr tp (mW mk (q2.2.1, q2.2.2, gle_j, gsu_j, gst_j, ghe_j, gow_j, gfa_j, gqu_j, glo_j, ghi_j, mg.2.2.2.2.2.2.2.2.2.2.2.1, mg.2.2.2.2.2.2.2.2.2.2.2.2) mt (mc.1, mc.2.1, mc.2.2.1, mc.2.2.2.1, mc.2.2.2.2.1, mc.2.2.2.2.2.1, mc.2.2.2.2.2.2.1, ccl_j) T)), 0, 0)
        exact J89 _ _ _ _ _ _ _ _ _ _ _ _ _ _ _ hf
      · show sxWP sc cl Q 217 (78, [some (.ref 59), some (.int v1), z2], [], (cW nw kp im ol sn sr tp (mW mk (q2.2.1, q2.2.2, gle_j, gsu_j, gst_j, ghe_j, gow_j, gfa_j, gqu_j, glo_j, ghi_j, mg.2.2.2.2.2.2.2.2.2.2.2.1, mg.2.2.2.2.2.2.2.2.2.2.2.2) mt (mc.1, mc.2.1, mc.2.2.1, mc.2.2.2.1, mc.2.2.2.2.1, mc.2.2.2.2.2.1, mc.2.2.2.2.2.2.1, ccl_j) T)), 0, 0)
        obtain ⟨q4, hq4, hf⟩ := bnd hf
        refine stp hm 2 (M_isTilable_ok hE hq4 ?_)
        show sxWP sc cl Q 217 (82, [some (.ref 59), some (.int v1), z2], [.int q4.1], (cW nw kp im ol sn sr tp (mW mk (q4.2.2.2.1, q4.2.2.2.2.1, q4.2.1, q4.2.2.1, q4.2.2.2.2.2.1, q4.2.2.2.2.2.2.1, q4.2.2.2.2.2.2.2.1, q4.2.2.2.2.2.2.2.2.1, q4.2.2.2.2.2.2.2.2.2.1, q4.2.2.2.2.2.2.2.2.2.2.1, q4.2.2.2.2.2.2.2.2.2.2.2, mg.2.2.2.2.2.2.2.2.2.2.2.1, mg.2.2.2.2.2.2.2.2.2.2.2.2) mt (mc.1, mc.2.1, mc.2.2.1, mc.2.2.2.1, mc.2.2.2.2.1, mc.2.2.2.2.2.1, mc.2.2.2.2.2.2.1, ccl_j) T)), 0, 0)
        have m5 : ∀ (m5_0 : Int32), m5_0 = (if q4.1 = (0:Int32) then (2:Int32) else (-5:Int32)) → sxWP sc cl Q 217 (91, [some (.ref 59), some (.int v1), z2], [.int m5_0], (cW nw kp im ol sn sr tp (mW mk (q4.2.2.2.1, q4.2.2.2.2.1, q4.2.1, q4.2.2.1, q4.2.2.2.2.2.1, q4.2.2.2.2.2.2.1, q4.2.2.2.2.2.2.2.1, q4.2.2.2.2.2.2.2.2.1, q4.2.2.2.2.2.2.2.2.2.1, q4.2.2.2.2.2.2.2.2.2.2.1, q4.2.2.2.2.2.2.2.2.2.2.2, mg.2.2.2.2.2.2.2.2.2.2.2.1, mg.2.2.2.2.2.2.2.2.2.2.2.2) mt (mc.1, mc.2.1, mc.2.2.1, mc.2.2.2.1, mc.2.2.2.2.1, mc.2.2.2.2.2.1, mc.2.2.2.2.2.2.1, ccl_j) T)), 0, 0) := by
          intro m5_0 em5_0
          subst em5_0
          obtain rfl := Option.some.inj hf
          refine stp hm 1 ?_
          exact h
        refine stp hm 1 (bsn (c := q4.1 = (0:Int32)) (fun c6 => ?_) (fun c6 => ?_))
        · have c6 : ¬ q4.1 = (0:Int32) := c6
          refine stp hm 1 (?_ : sxWP sc cl Q 217 (91, [some (.ref 59), some (.int v1), z2], [.int (-5:Int32)], (cW nw kp im ol sn sr tp (mW mk (q4.2.2.2.1, q4.2.2.2.2.1, q4.2.1, q4.2.2.1, q4.2.2.2.2.2.1, q4.2.2.2.2.2.2.1, q4.2.2.2.2.2.2.2.1, q4.2.2.2.2.2.2.2.2.1, q4.2.2.2.2.2.2.2.2.2.1, q4.2.2.2.2.2.2.2.2.2.2.1, q4.2.2.2.2.2.2.2.2.2.2.2, mg.2.2.2.2.2.2.2.2.2.2.2.1, mg.2.2.2.2.2.2.2.2.2.2.2.2) mt (mc.1, mc.2.1, mc.2.2.1, mc.2.2.2.1, mc.2.2.2.2.1, mc.2.2.2.2.2.1, mc.2.2.2.2.2.2.1, ccl_j) T)), 0, 0))
          exact m5 _ (by rw [if_neg c6])
        · have c6 : q4.1 = (0:Int32) := c6
          refine stp hm 2 (?_ : sxWP sc cl Q 217 (91, [some (.ref 59), some (.int v1), z2], [.int (2:Int32)], (cW nw kp im ol sn sr tp (mW mk (q4.2.2.2.1, q4.2.2.2.2.1, q4.2.1, q4.2.2.1, q4.2.2.2.2.2.1, q4.2.2.2.2.2.2.1, q4.2.2.2.2.2.2.2.1, q4.2.2.2.2.2.2.2.2.1, q4.2.2.2.2.2.2.2.2.2.1, q4.2.2.2.2.2.2.2.2.2.2.1, q4.2.2.2.2.2.2.2.2.2.2.2, mg.2.2.2.2.2.2.2.2.2.2.2.1, mg.2.2.2.2.2.2.2.2.2.2.2.2) mt (mc.1, mc.2.1, mc.2.2.1, mc.2.2.2.1, mc.2.2.2.2.1, mc.2.2.2.2.2.1, mc.2.2.2.2.2.2.1, ccl_j) T)), 0, 0))
          exact m5 _ (by rw [if_pos c6])
  have J65 : ∀ (gle_j : Int32) (gsu_j : Int32) (gma_j : (Nat → Int32)) (gpi_j : (Nat → Int32)) (gst_j : (Nat → Int32)) (ghe_j : (Nat → Int32)) (gow_j : (Nat → Int32)) (gfa_j : (Nat → Int32)) (gqu_j : (Nat → Int32)) (glo_j : (Nat → Int32)) (ghi_j : (Nat → Int32)) (ccl_j : (Nat → Int32)) (z0 : Option Value) (z1 : Option Value) (z2 : Option Value), M_barred_j65 gle_j gsu_j gma_j gpi_j gst_j ghe_j gow_j gfa_j gqu_j glo_j ghi_j ccl_j = some q → sxWP sc cl Q 217 (65, [z0, z1, z2], [], (cW nw kp im ol sn sr tp (mW mk (gma_j, gpi_j, gle_j, gsu_j, gst_j, ghe_j, gow_j, gfa_j, gqu_j, glo_j, ghi_j, mg.2.2.2.2.2.2.2.2.2.2.2.1, mg.2.2.2.2.2.2.2.2.2.2.2.2) mt (mc.1, mc.2.1, mc.2.2.1, mc.2.2.2.1, mc.2.2.2.2.1, mc.2.2.2.2.2.1, mc.2.2.2.2.2.2.1, ccl_j) T)), 0, 0) := by
    intro gle_j gsu_j gma_j gpi_j gst_j ghe_j gow_j gfa_j gqu_j glo_j ghi_j ccl_j z0 z1 z2 hf
    unfold M_barred_j65 at hf
    obtain rfl := Option.some.inj hf
    refine stp hm 2 ?_
    exact h
  have J44 : ∀ (v1 : Int32) (gle_j : Int32) (gsu_j : Int32) (gma_j : (Nat → Int32)) (gpi_j : (Nat → Int32)) (gst_j : (Nat → Int32)) (ghe_j : (Nat → Int32)) (gow_j : (Nat → Int32)) (gfa_j : (Nat → Int32)) (gqu_j : (Nat → Int32)) (glo_j : (Nat → Int32)) (ghi_j : (Nat → Int32)) (ccl_j : (Nat → Int32)) (z2 : Option Value), M_barred_j44 v1 gle_j gsu_j gma_j gpi_j gst_j ghe_j gow_j gfa_j gqu_j glo_j ghi_j ccl_j mk.1 = some q → sxWP sc cl Q 217 (44, [some (.ref 59), some (.int v1), z2], [], (cW nw kp im ol sn sr tp (mW mk (gma_j, gpi_j, gle_j, gsu_j, gst_j, ghe_j, gow_j, gfa_j, gqu_j, glo_j, ghi_j, mg.2.2.2.2.2.2.2.2.2.2.2.1, mg.2.2.2.2.2.2.2.2.2.2.2.2) mt (mc.1, mc.2.1, mc.2.2.1, mc.2.2.2.1, mc.2.2.2.2.1, mc.2.2.2.2.2.1, mc.2.2.2.2.2.2.1, ccl_j) T)), 0, 0) := by
    intro v1 gle_j gsu_j gma_j gpi_j gst_j ghe_j gow_j gfa_j gqu_j glo_j ghi_j ccl_j z2 hf
    unfold M_barred_j44 at hf
    refine stp hm 3 (brn hf (fun c7 hf => ?_) (fun c7 hf => ?_))
    · show sxWP sc cl Q 217 (67, [some (.ref 59), some (.int v1), z2], [], (cW nw kp im ol sn sr tp (mW mk (gma_j, gpi_j, gle_j, gsu_j, gst_j, ghe_j, gow_j, gfa_j, gqu_j, glo_j, ghi_j, mg.2.2.2.2.2.2.2.2.2.2.2.1, mg.2.2.2.2.2.2.2.2.2.2.2.2) mt (mc.1, mc.2.1, mc.2.2.1, mc.2.2.2.1, mc.2.2.2.2.1, mc.2.2.2.2.2.1, mc.2.2.2.2.2.2.1, ccl_j) T)), 0, 0)
      exact J67 _ _ _ _ _ _ _ _ _ _ _ _ _ _ hf
    · show sxWP sc cl Q 217 (49, [some (.ref 59), some (.int v1), z2], [], (cW nw kp im ol sn sr tp (mW mk (gma_j, gpi_j, gle_j, gsu_j, gst_j, ghe_j, gow_j, gfa_j, gqu_j, glo_j, ghi_j, mg.2.2.2.2.2.2.2.2.2.2.2.1, mg.2.2.2.2.2.2.2.2.2.2.2.2) mt (mc.1, mc.2.1, mc.2.2.1, mc.2.2.2.1, mc.2.2.2.2.1, mc.2.2.2.2.2.1, mc.2.2.2.2.2.2.1, ccl_j) T)), 0, 0)
      obtain ⟨q8, hq8, hf⟩ := bnd hf
      refine stp hm 3 (M_isUneven_ok hE hq8 ?_)
      show sxWP sc cl Q 217 (54, [some (.ref 59), some (.int v1), z2], [.int q8.1], (cW nw kp im ol sn sr tp (mW mk (gma_j, gpi_j, gle_j, gsu_j, gst_j, ghe_j, gow_j, gfa_j, gqu_j, glo_j, ghi_j, mg.2.2.2.2.2.2.2.2.2.2.2.1, mg.2.2.2.2.2.2.2.2.2.2.2.2) mt (mc.1, mc.2.1, mc.2.2.1, mc.2.2.2.1, mc.2.2.2.2.1, mc.2.2.2.2.2.1, mc.2.2.2.2.2.2.1, q8.2) T)), 0, 0)
      refine stp hm 1 (brn hf (fun c9 hf => ?_) (fun c9 hf => ?_))
      · show sxWP sc cl Q 217 (65, [some (.ref 59), some (.int v1), z2], [], (cW nw kp im ol sn sr tp (mW mk (gma_j, gpi_j, gle_j, gsu_j, gst_j, ghe_j, gow_j, gfa_j, gqu_j, glo_j, ghi_j, mg.2.2.2.2.2.2.2.2.2.2.2.1, mg.2.2.2.2.2.2.2.2.2.2.2.2) mt (mc.1, mc.2.1, mc.2.2.1, mc.2.2.2.1, mc.2.2.2.2.1, mc.2.2.2.2.2.1, mc.2.2.2.2.2.2.1, q8.2) T)), 0, 0)
        exact J65 _ _ _ _ _ _ _ _ _ _ _ _ _ _ _ hf
      · show sxWP sc cl Q 217 (57, [some (.ref 59), some (.int v1), z2], [], (cW nw kp im ol sn sr tp (mW mk (gma_j, gpi_j, gle_j, gsu_j, gst_j, ghe_j, gow_j, gfa_j, gqu_j, glo_j, ghi_j, mg.2.2.2.2.2.2.2.2.2.2.2.1, mg.2.2.2.2.2.2.2.2.2.2.2.2) mt (mc.1, mc.2.1, mc.2.2.1, mc.2.2.2.1, mc.2.2.2.2.1, mc.2.2.2.2.2.1, mc.2.2.2.2.2.2.1, q8.2) T)), 0, 0)
        obtain ⟨q10, hq10, hf⟩ := bnd hf
        refine stp hm 3 (M_isUneven_ok hE hq10 ?_)
        show sxWP sc cl Q 217 (62, [some (.ref 59), some (.int v1), z2], [.int q10.1], (cW nw kp im ol sn sr tp (mW mk (gma_j, gpi_j, gle_j, gsu_j, gst_j, ghe_j, gow_j, gfa_j, gqu_j, glo_j, ghi_j, mg.2.2.2.2.2.2.2.2.2.2.2.1, mg.2.2.2.2.2.2.2.2.2.2.2.2) mt (mc.1, mc.2.1, mc.2.2.1, mc.2.2.2.1, mc.2.2.2.2.1, mc.2.2.2.2.2.1, mc.2.2.2.2.2.2.1, q10.2) T)), 0, 0)
        refine stp hm 1 (br hf (fun c11 hf => ?_) (fun c11 hf => ?_))
        · show sxWP sc cl Q 217 (67, [some (.ref 59), some (.int v1), z2], [], (cW nw kp im ol sn sr tp (mW mk (gma_j, gpi_j, gle_j, gsu_j, gst_j, ghe_j, gow_j, gfa_j, gqu_j, glo_j, ghi_j, mg.2.2.2.2.2.2.2.2.2.2.2.1, mg.2.2.2.2.2.2.2.2.2.2.2.2) mt (mc.1, mc.2.1, mc.2.2.1, mc.2.2.2.1, mc.2.2.2.2.1, mc.2.2.2.2.2.1, mc.2.2.2.2.2.2.1, q10.2) T)), 0, 0)
          exact J67 _ _ _ _ _ _ _ _ _ _ _ _ _ _ hf
        · show sxWP sc cl Q 217 (65, [some (.ref 59), some (.int v1), z2], [], (cW nw kp im ol sn sr tp (mW mk (gma_j, gpi_j, gle_j, gsu_j, gst_j, ghe_j, gow_j, gfa_j, gqu_j, glo_j, ghi_j, mg.2.2.2.2.2.2.2.2.2.2.2.1, mg.2.2.2.2.2.2.2.2.2.2.2.2) mt (mc.1, mc.2.1, mc.2.2.1, mc.2.2.2.1, mc.2.2.2.2.1, mc.2.2.2.2.2.1, mc.2.2.2.2.2.2.1, q10.2) T)), 0, 0)
          exact J65 _ _ _ _ _ _ _ _ _ _ _ _ _ _ _ hf
  unfold M_barred at hf
  refine stp hm 2 (M_isKind_ok hE rfl ?_)
  show sxWP sc cl Q 217 (4, [some (.ref 59), some (.int v1), none], [.int (M_isKind v1)], (cW nw kp im ol sn sr tp (mW mk mg mt mc T)), 0, 0)
  refine stp hm 1 (brn hf (fun c12 hf => ?_) (fun c12 hf => ?_))
  · show sxWP sc cl Q 217 (9, [some (.ref 59), some (.int v1), none], [], (cW nw kp im ol sn sr tp (mW mk mg mt mc T)), 0, 0)
    obtain ⟨q13, hq13, hf⟩ := bnd hf
    refine stp hm 2 (M_cells_ok hE hq13 ?_)
    show sxWP sc cl Q 217 (13, [some (.ref 59), some (.int v1), none], [.int q13], (cW nw kp im ol sn sr tp (mW mk mg mt mc T)), 0, 0)
    have m14 : ∀ (m14_0 : Int32), m14_0 = (if v1 = (0:Int32) then (2:Int32) else (3:Int32)) → sxWP sc cl Q 217 (24, [some (.ref 59), some (.int v1), some (.int q13)], [.int m14_0, .int q13], (cW nw kp im ol sn sr tp (mW mk mg mt mc T)), 0, 0) := by
      intro m14_0 em14_0
      subst em14_0
      obtain ⟨g15, hf⟩ := grd_e hf
      refine stp hm 1 (And.intro (of_decide_eq_true g15) (?_ : sxWP sc cl Q 217 (25, [some (.ref 59), some (.int v1), some (.int q13)], [.int (q13 - q13 / (if v1 = (0:Int32) then (2:Int32) else (3:Int32)) * (if v1 = (0:Int32) then (2:Int32) else (3:Int32)))], (cW nw kp im ol sn sr tp (mW mk mg mt mc T)), 0, 0)))
      refine stp hm 1 (br hf (fun c16 hf => ?_) (fun c16 hf => ?_))
      · show sxWP sc cl Q 217 (30, [some (.ref 59), some (.int v1), some (.int q13)], [], (cW nw kp im ol sn sr tp (mW mk mg mt mc T)), 0, 0)
        refine stp hm 2 (brn hf (fun c17 hf => ?_) (fun c17 hf => ?_))
        · show sxWP sc cl Q 217 (44, [some (.ref 59), some (.int v1), some (.int q13)], [], (cW nw kp im ol sn sr tp (mW mk mg mt mc T)), 0, 0)
          exact J44 _ _ _ _ _ _ _ _ _ _ _ _ _ _ hf
        · show sxWP sc cl Q 217 (34, [some (.ref 59), some (.int v1), some (.int q13)], [], (cW nw kp im ol sn sr tp (mW mk mg mt mc T)), 0, 0)
          obtain ⟨q18, hq18, hf⟩ := bnd hf
          refine stp hm 3 (M_blacks_ok hE hq18 ?_)
          show sxWP sc cl Q 217 (39, [some (.ref 59), some (.int v1), some (.int q13)], [.int q18, .int (2:Int32)], (cW nw kp im ol sn sr tp (mW mk mg mt mc T)), 0, 0)
          refine stp hm 3 (brn hf (fun c19 hf => ?_) (fun c19 hf => ?_))
          · show sxWP sc cl Q 217 (65, [some (.ref 59), some (.int v1), some (.int q13)], [], (cW nw kp im ol sn sr tp (mW mk mg mt mc T)), 0, 0)
            exact J65 _ _ _ _ _ _ _ _ _ _ _ _ _ _ _ hf
          · show sxWP sc cl Q 217 (44, [some (.ref 59), some (.int v1), some (.int q13)], [], (cW nw kp im ol sn sr tp (mW mk mg mt mc T)), 0, 0)
            exact J44 _ _ _ _ _ _ _ _ _ _ _ _ _ _ hf
      · show sxWP sc cl Q 217 (28, [some (.ref 59), some (.int v1), some (.int q13)], [], (cW nw kp im ol sn sr tp (mW mk mg mt mc T)), 0, 0)
        obtain rfl := Option.some.inj hf
        refine stp hm 2 ?_
        exact h
    refine stp hm 4 (bsn (c := v1 = (0:Int32)) (fun c20 => ?_) (fun c20 => ?_))
    · have c20 : ¬ v1 = (0:Int32) := c20
      refine stp hm 1 (?_ : sxWP sc cl Q 217 (24, [some (.ref 59), some (.int v1), some (.int q13)], [.int (3:Int32), .int q13], (cW nw kp im ol sn sr tp (mW mk mg mt mc T)), 0, 0))
      exact m14 _ (by rw [if_neg c20])
    · have c20 : v1 = (0:Int32) := c20
      refine stp hm 2 (?_ : sxWP sc cl Q 217 (24, [some (.ref 59), some (.int v1), some (.int q13)], [.int (2:Int32), .int q13], (cW nw kp im ol sn sr tp (mW mk mg mt mc T)), 0, 0))
      exact m14 _ (by rw [if_pos c20])
  · show sxWP sc cl Q 217 (7, [some (.ref 59), some (.int v1), none], [], (cW nw kp im ol sn sr tp (mW mk mg mt mc T)), 0, 0)
    obtain rfl := Option.some.inj hf
    refine stp hm 2 ?_
    exact h

def R_emptied   : Option (Int32 × Int32) := some ((0:Int32), (0:Int32))
set_option maxRecDepth 10000 in
theorem R_emptied_ok  {q : (Int32 × Int32)} (hc : call = sxE sc (d + 1)) (hf : R_emptied = some q) (h : Q (some (.int q.1)) (cW (nw.1, nw.2.1, nw.2.2.1, nw.2.2.2.1, (q.2, nw.2.2.2.2.1.2.1, nw.2.2.2.2.1.2.2), nw.2.2.2.2.2.1, nw.2.2.2.2.2.2) kp im ol sn sr tp (mW mk mg mt mc T))) : call 46 [.ref 6] (cW nw kp im ol sn sr tp (mW mk mg mt mc T)) Q := by
  refine ent hc rfl (fun cl hE hm => ?_)
  unfold R_emptied at hf
  obtain rfl := Option.some.inj hf
  refine stp hm 6 ?_
  exact h

def R_append_j31  (nss_j : Int32) (nso_j : (Nat → Int32)) (nsq_j : (Nat → Int32)) : Option (Int32 × Int32 × (Nat → Int32) × (Nat → Int32)) := some ((0:Int32), nss_j, nso_j, nsq_j)
def R_append (v1 : Int32) (v2 : Int32) (nss : Int32) (nso : (Nat → Int32)) (nsq : (Nat → Int32)) : Option (Int32 × Int32 × (Nat → Int32) × (Nat → Int32)) := if nss < (0:Int32) then (R_append_j31 nss nso nsq) else (if (Int32.ofNat 4) ≤ nss then (R_append_j31 nss nso nsq) else (if nss < (Int32.ofNat 4) then (grd (gi nss 4) (grd (gi nss 4) (some ((1:Int32), nss + (1:Int32), upd nso nss.toNatClampNeg v1, upd nsq nss.toNatClampNeg v2)))) else (R_append_j31 nss nso nsq)))
set_option maxRecDepth 10000 in
theorem R_append_ok {v1 : Int32} {v2 : Int32} {q : (Int32 × Int32 × (Nat → Int32) × (Nat → Int32))} (hc : call = sxE sc (d + 1)) (hf : R_append v1 v2 nw.2.2.2.2.1.1 nw.2.2.2.2.1.2.1 nw.2.2.2.2.1.2.2 = some q) (h : Q (some (.int q.1)) (cW (nw.1, nw.2.1, nw.2.2.1, nw.2.2.2.1, (q.2.1, q.2.2.1, q.2.2.2), nw.2.2.2.2.2.1, nw.2.2.2.2.2.2) kp im ol sn sr tp (mW mk mg mt mc T))) : call 47 [.ref 6, .int v1, .int v2] (cW nw kp im ol sn sr tp (mW mk mg mt mc T)) Q := by
  refine ent hc rfl (fun cl hE hm => ?_)
  have J31 : ∀ (nss_j : Int32) (nso_j : (Nat → Int32)) (nsq_j : (Nat → Int32)) (z0 : Option Value) (z1 : Option Value) (z2 : Option Value), R_append_j31 nss_j nso_j nsq_j = some q → sxWP sc cl Q 47 (31, [z0, z1, z2], [], (cW (nw.1, nw.2.1, nw.2.2.1, nw.2.2.2.1, (nss_j, nso_j, nsq_j), nw.2.2.2.2.2.1, nw.2.2.2.2.2.2) kp im ol sn sr tp (mW mk mg mt mc T)), 0, 0) := by
    intro nss_j nso_j nsq_j z0 z1 z2 hf
    unfold R_append_j31 at hf
    obtain rfl := Option.some.inj hf
    refine stp hm 2 (And.intro (Or.inl rfl) ?_)
    exact h
  unfold R_append at hf
  refine stp hm 3 (br hf (fun c1 hf => ?_) (fun c1 hf => ?_))
  · show sxWP sc cl Q 47 (31, [some (.ref 6), some (.int v1), some (.int v2)], [], (cW nw kp im ol sn sr tp (mW mk mg mt mc T)), 0, 0)
    exact J31 _ _ _ _ _ _ hf
  · show sxWP sc cl Q 47 (7, [some (.ref 6), some (.int v1), some (.int v2)], [], (cW nw kp im ol sn sr tp (mW mk mg mt mc T)), 0, 0)
    refine stp hm 6 (br hf (fun c2 hf => ?_) (fun c2 hf => ?_))
    · show sxWP sc cl Q 47 (31, [some (.ref 6), some (.int v1), some (.int v2)], [], (cW nw kp im ol sn sr tp (mW mk mg mt mc T)), 0, 0)
      exact J31 _ _ _ _ _ _ hf
    · show sxWP sc cl Q 47 (19, [some (.ref 6), some (.int v1), some (.int v2)], [], (cW nw kp im ol sn sr tp (mW mk mg mt mc T)), 0, 0)
      refine stp hm 6 (br hf (fun c3 hf => ?_) (fun c3 hf => ?_))
      · show sxWP sc cl Q 47 (33, [some (.ref 6), some (.int v1), some (.int v2)], [], (cW nw kp im ol sn sr tp (mW mk mg mt mc T)), 0, 0)
        obtain ⟨g4, hf⟩ := grd_e hf
        refine stp hm 6 (And.intro (gi_in g4) (?_ : sxWP sc cl Q 47 (43, [some (.ref 6), some (.int v1), some (.int v2)], [], (cW (nw.1, nw.2.1, nw.2.2.1, nw.2.2.2.1, (nw.2.2.2.2.1.1, upd nw.2.2.2.2.1.2.1 nw.2.2.2.2.1.1.toNatClampNeg v1, nw.2.2.2.2.1.2.2), nw.2.2.2.2.2.1, nw.2.2.2.2.2.2) kp im ol sn sr tp (mW mk mg mt mc T)), 0, 0)))
        obtain ⟨g5, hf⟩ := grd_e hf
        refine stp hm 6 (And.intro (gi_in g5) (?_ : sxWP sc cl Q 47 (53, [some (.ref 6), some (.int v1), some (.int v2)], [], (cW (nw.1, nw.2.1, nw.2.2.1, nw.2.2.2.1, (nw.2.2.2.2.1.1, upd nw.2.2.2.2.1.2.1 nw.2.2.2.2.1.1.toNatClampNeg v1, upd nw.2.2.2.2.1.2.2 nw.2.2.2.2.1.1.toNatClampNeg v2), nw.2.2.2.2.2.1, nw.2.2.2.2.2.2) kp im ol sn sr tp (mW mk mg mt mc T)), 0, 0)))
        obtain rfl := Option.some.inj hf
        refine stp hm 8 (And.intro (Or.inr rfl) ?_)
        exact h
      · show sxWP sc cl Q 47 (31, [some (.ref 6), some (.int v1), some (.int v2)], [], (cW nw kp im ol sn sr tp (mW mk mg mt mc T)), 0, 0)
        exact J31 _ _ _ _ _ _ hf

def X_see_j38  (nss_j : Int32) (nso_j : (Nat → Int32)) (nsq_j : (Nat → Int32)) : Option (Int32 × Int32 × (Nat → Int32) × (Nat → Int32)) := some ((-2:Int32), nss_j, nso_j, nsq_j)
def X_see_j25  (nss_j : Int32) (nso_j : (Nat → Int32)) (nsq_j : (Nat → Int32)) : Option (Int32 × Int32 × (Nat → Int32) × (Nat → Int32)) := some ((-1:Int32), nss_j, nso_j, nsq_j)
def X_see (v1 : Int32) (v2 : Int32) (nss : Int32) (nso : (Nat → Int32)) (nsq : (Nat → Int32)) : Option (Int32 × Int32 × (Nat → Int32) × (Nat → Int32)) := if v1 = (-1:Int32) then (Option.bind (R_emptied) (fun q9 => some (q9.1, q9.2, nso, nsq))) else (if v1 < (0:Int32) then (X_see_j25 nss nso nsq) else (if v1 ≤ (2:Int32) then (if v2 < (0:Int32) then (X_see_j38 nss nso nsq) else (if v2 ≤ (144:Int32) then (Option.bind (R_append v1 v2 nss nso nsq) (fun q6 => some (if q6.1 = (0:Int32) then (-4:Int32) else q6.2.1, q6.2.1, q6.2.2.1, q6.2.2.2))) else (X_see_j38 nss nso nsq))) else (X_see_j25 nss nso nsq)))
set_option maxRecDepth 10000 in
theorem X_see_ok {v1 : Int32} {v2 : Int32} {q : (Int32 × Int32 × (Nat → Int32) × (Nat → Int32))} (hc : call = sxE sc (d + 2)) (hf : X_see v1 v2 nw.2.2.2.2.1.1 nw.2.2.2.2.1.2.1 nw.2.2.2.2.1.2.2 = some q) (h : Q (some (.int q.1)) (cW (nw.1, nw.2.1, nw.2.2.1, nw.2.2.2.1, (q.2.1, q.2.2.1, q.2.2.2), nw.2.2.2.2.2.1, nw.2.2.2.2.2.2) kp im ol sn sr tp (mW mk mg mt mc T))) : call 116 [.ref 0, .int v1, .int v2] (cW nw kp im ol sn sr tp (mW mk mg mt mc T)) Q := by
  refine ent hc rfl (fun cl hE hm => ?_)
  have J38 : ∀ (nss_j : Int32) (nso_j : (Nat → Int32)) (nsq_j : (Nat → Int32)) (z0 : Option Value) (z1 : Option Value) (z2 : Option Value), X_see_j38 nss_j nso_j nsq_j = some q → sxWP sc cl Q 116 (38, [z0, z1, z2], [], (cW (nw.1, nw.2.1, nw.2.2.1, nw.2.2.2.1, (nss_j, nso_j, nsq_j), nw.2.2.2.2.2.1, nw.2.2.2.2.2.2) kp im ol sn sr tp (mW mk mg mt mc T)), 0, 0) := by
    intro nss_j nso_j nsq_j z0 z1 z2 hf
    unfold X_see_j38 at hf
    obtain rfl := Option.some.inj hf
    refine stp hm 2 ?_
    exact h
  have J25 : ∀ (nss_j : Int32) (nso_j : (Nat → Int32)) (nsq_j : (Nat → Int32)) (z0 : Option Value) (z1 : Option Value) (z2 : Option Value), X_see_j25 nss_j nso_j nsq_j = some q → sxWP sc cl Q 116 (25, [z0, z1, z2], [], (cW (nw.1, nw.2.1, nw.2.2.1, nw.2.2.2.1, (nss_j, nso_j, nsq_j), nw.2.2.2.2.2.1, nw.2.2.2.2.2.2) kp im ol sn sr tp (mW mk mg mt mc T)), 0, 0) := by
    intro nss_j nso_j nsq_j z0 z1 z2 hf
    unfold X_see_j25 at hf
    obtain rfl := Option.some.inj hf
    refine stp hm 2 ?_
    exact h
  unfold X_see at hf
  refine stp hm 3 (brn hf (fun c1 hf => ?_) (fun c1 hf => ?_))
  · show sxWP sc cl Q 116 (16, [some (.ref 0), some (.int v1), some (.int v2)], [], (cW nw kp im ol sn sr tp (mW mk mg mt mc T)), 0, 0)
    refine stp hm 2 (br hf (fun c2 hf => ?_) (fun c2 hf => ?_))
    · show sxWP sc cl Q 116 (25, [some (.ref 0), some (.int v1), some (.int v2)], [], (cW nw kp im ol sn sr tp (mW mk mg mt mc T)), 0, 0)
      exact J25 _ _ _ _ _ _ hf
    · show sxWP sc cl Q 116 (20, [some (.ref 0), some (.int v1), some (.int v2)], [], (cW nw kp im ol sn sr tp (mW mk mg mt mc T)), 0, 0)
      refine stp hm 3 (br hf (fun c3 hf => ?_) (fun c3 hf => ?_))
      · show sxWP sc cl Q 116 (27, [some (.ref 0), some (.int v1), some (.int v2)], [], (cW nw kp im ol sn sr tp (mW mk mg mt mc T)), 0, 0)
        refine stp hm 2 (br hf (fun c4 hf => ?_) (fun c4 hf => ?_))
        · show sxWP sc cl Q 116 (38, [some (.ref 0), some (.int v1), some (.int v2)], [], (cW nw kp im ol sn sr tp (mW mk mg mt mc T)), 0, 0)
          exact J38 _ _ _ _ _ _ hf
        · show sxWP sc cl Q 116 (31, [some (.ref 0), some (.int v1), some (.int v2)], [], (cW nw kp im ol sn sr tp (mW mk mg mt mc T)), 0, 0)
          refine stp hm 3 (br hf (fun c5 hf => ?_) (fun c5 hf => ?_))
          · show sxWP sc cl Q 116 (41, [some (.ref 0), some (.int v1), some (.int v2)], [], (cW nw kp im ol sn sr tp (mW mk mg mt mc T)), 0, 0)
            obtain ⟨q6, hq6, hf⟩ := bnd hf
            refine stp hm 6 (R_append_ok hE hq6 ?_)
            show sxWP sc cl Q 116 (53, [some (.ref 0), some (.int v1), some (.int v2)], [.int q6.1], (cW (nw.1, nw.2.1, nw.2.2.1, nw.2.2.2.1, (q6.2.1, q6.2.2.1, q6.2.2.2), nw.2.2.2.2.2.1, nw.2.2.2.2.2.2) kp im ol sn sr tp (mW mk mg mt mc T)), 0, 0)
            have m7 : ∀ (m7_0 : Int32), m7_0 = (if q6.1 = (0:Int32) then (-4:Int32) else q6.2.1) → sxWP sc cl Q 116 (71, [some (.ref 0), some (.int v1), some (.int v2)], [.int m7_0], (cW (nw.1, nw.2.1, nw.2.2.1, nw.2.2.2.1, (q6.2.1, q6.2.2.1, q6.2.2.2), nw.2.2.2.2.2.1, nw.2.2.2.2.2.2) kp im ol sn sr tp (mW mk mg mt mc T)), 0, 0) := by
              intro m7_0 em7_0
              subst em7_0
              obtain rfl := Option.some.inj hf
              refine stp hm 1 ?_
              exact h
            refine stp hm 1 (bs (c := q6.1 = (0:Int32)) (fun c8 => ?_) (fun c8 => ?_))
            · have c8 : q6.1 = (0:Int32) := c8
              refine stp hm 1 (?_ : sxWP sc cl Q 116 (71, [some (.ref 0), some (.int v1), some (.int v2)], [.int (-4:Int32)], (cW (nw.1, nw.2.1, nw.2.2.1, nw.2.2.2.1, (q6.2.1, q6.2.2.1, q6.2.2.2), nw.2.2.2.2.2.1, nw.2.2.2.2.2.2) kp im ol sn sr tp (mW mk mg mt mc T)), 0, 0))
              exact m7 _ (by rw [if_pos c8])
            · have c8 : ¬ q6.1 = (0:Int32) := c8
              refine stp hm 5 (?_ : sxWP sc cl Q 116 (71, [some (.ref 0), some (.int v1), some (.int v2)], [.int q6.2.1], (cW (nw.1, nw.2.1, nw.2.2.1, nw.2.2.2.1, (q6.2.1, q6.2.2.1, q6.2.2.2), nw.2.2.2.2.2.1, nw.2.2.2.2.2.2) kp im ol sn sr tp (mW mk mg mt mc T)), 0, 0))
              exact m7 _ (by rw [if_neg c8])
          · show sxWP sc cl Q 116 (38, [some (.ref 0), some (.int v1), some (.int v2)], [], (cW nw kp im ol sn sr tp (mW mk mg mt mc T)), 0, 0)
            exact J38 _ _ _ _ _ _ hf
      · show sxWP sc cl Q 116 (25, [some (.ref 0), some (.int v1), some (.int v2)], [], (cW nw kp im ol sn sr tp (mW mk mg mt mc T)), 0, 0)
        exact J25 _ _ _ _ _ _ hf
  · show sxWP sc cl Q 116 (5, [some (.ref 0), some (.int v1), some (.int v2)], [], (cW nw kp im ol sn sr tp (mW mk mg mt mc T)), 0, 0)
    obtain ⟨q9, hq9, hf⟩ := bnd hf
    refine stp hm 4 (R_emptied_ok hE hq9 ?_)
    show sxWP sc cl Q 116 (15, [some (.ref 0), some (.int v1), some (.int v2)], [.int q9.1], (cW (nw.1, nw.2.1, nw.2.2.1, nw.2.2.2.1, (q9.2, nw.2.2.2.2.1.2.1, nw.2.2.2.2.1.2.2), nw.2.2.2.2.2.1, nw.2.2.2.2.2.2) kp im ol sn sr tp (mW mk mg mt mc T)), 0, 0)
    obtain rfl := Option.some.inj hf
    refine stp hm 1 ?_
    exact h

def M_none (v1 : Int32) (ms : (Nat → Int32)) : Option (Int32 × (Nat → Int32)) := grd (gi v1 122) (some ((0:Int32), upd ms v1.toNatClampNeg (0:Int32)))
set_option maxRecDepth 10000 in
theorem M_none_ok {v1 : Int32} {q : (Int32 × (Nat → Int32))} (hc : call = sxE sc (d + 1)) (hf : M_none v1 mk.2.2.1 = some q) (h : Q (some (.int q.1)) (cW nw kp im ol sn sr tp (mW (mk.1, mk.2.1, q.2, mk.2.2.2.1, mk.2.2.2.2.1, mk.2.2.2.2.2.1, mk.2.2.2.2.2.2.1, mk.2.2.2.2.2.2.2.1, mk.2.2.2.2.2.2.2.2.1, mk.2.2.2.2.2.2.2.2.2) mg mt mc T))) : call 219 [.ref 59, .int v1] (cW nw kp im ol sn sr tp (mW mk mg mt mc T)) Q := by
  refine ent hc rfl (fun cl hE hm => ?_)
  unfold M_none at hf
  obtain ⟨g1, hf⟩ := grd_e hf
  refine stp hm 5 (And.intro (gi_in g1) (?_ : sxWP sc cl Q 219 (7, [some (.ref 59), some (.int v1)], [], (cW nw kp im ol sn sr tp (mW (mk.1, mk.2.1, upd mk.2.2.1 v1.toNatClampNeg (0:Int32), mk.2.2.2.1, mk.2.2.2.2.1, mk.2.2.2.2.2.1, mk.2.2.2.2.2.2.1, mk.2.2.2.2.2.2.2.1, mk.2.2.2.2.2.2.2.2.1, mk.2.2.2.2.2.2.2.2.2) mg mt mc T)), 0, 0)))
  obtain rfl := Option.some.inj hf
  refine stp hm 2 ?_
  exact h

def M_lists (v1 : Int32) (v2 : Int32) (v3 : Int32) (v4 : Int32) (v5 : Int32) (ms : (Nat → Int32)) : Option (Int32 × (Nat → Int32)) := grd (gi v1 122) (if (ms v1.toNatClampNeg) = v3 then (some ((-4:Int32), ms)) else (grd (gi v1 122) (grd (gi (v2 + ((2:Int32) * (ms v1.toNatClampNeg))) 122) (grd (gi v1 122) (grd (gi ((v2 + ((2:Int32) * ((upd ms (v2 + ((2:Int32) * (ms v1.toNatClampNeg))).toNatClampNeg v4) v1.toNatClampNeg))) + (1:Int32)) 122) (grd (gi v1 122) (grd (gi v1 122) (grd (gi v1 122) (some ((upd (upd (upd ms (v2 + ((2:Int32) * (ms v1.toNatClampNeg))).toNatClampNeg v4) ((v2 + ((2:Int32) * ((upd ms (v2 + ((2:Int32) * (ms v1.toNatClampNeg))).toNatClampNeg v4) v1.toNatClampNeg))) + (1:Int32)).toNatClampNeg v5) v1.toNatClampNeg (((upd (upd ms (v2 + ((2:Int32) * (ms v1.toNatClampNeg))).toNatClampNeg v4) ((v2 + ((2:Int32) * ((upd ms (v2 + ((2:Int32) * (ms v1.toNatClampNeg))).toNatClampNeg v4) v1.toNatClampNeg))) + (1:Int32)).toNatClampNeg v5) v1.toNatClampNeg) + (1:Int32))) v1.toNatClampNeg, upd (upd (upd ms (v2 + ((2:Int32) * (ms v1.toNatClampNeg))).toNatClampNeg v4) ((v2 + ((2:Int32) * ((upd ms (v2 + ((2:Int32) * (ms v1.toNatClampNeg))).toNatClampNeg v4) v1.toNatClampNeg))) + (1:Int32)).toNatClampNeg v5) v1.toNatClampNeg (((upd (upd ms (v2 + ((2:Int32) * (ms v1.toNatClampNeg))).toNatClampNeg v4) ((v2 + ((2:Int32) * ((upd ms (v2 + ((2:Int32) * (ms v1.toNatClampNeg))).toNatClampNeg v4) v1.toNatClampNeg))) + (1:Int32)).toNatClampNeg v5) v1.toNatClampNeg) + (1:Int32))))))))))))
set_option maxRecDepth 10000 in
theorem M_lists_ok {v1 : Int32} {v2 : Int32} {v3 : Int32} {v4 : Int32} {v5 : Int32} {q : (Int32 × (Nat → Int32))} (hc : call = sxE sc (d + 1)) (hf : M_lists v1 v2 v3 v4 v5 mk.2.2.1 = some q) (h : Q (some (.int q.1)) (cW nw kp im ol sn sr tp (mW (mk.1, mk.2.1, q.2, mk.2.2.2.1, mk.2.2.2.2.1, mk.2.2.2.2.2.1, mk.2.2.2.2.2.2.1, mk.2.2.2.2.2.2.2.1, mk.2.2.2.2.2.2.2.2.1, mk.2.2.2.2.2.2.2.2.2) mg mt mc T))) : call 218 [.ref 59, .int v1, .int v2, .int v3, .int v4, .int v5] (cW nw kp im ol sn sr tp (mW mk mg mt mc T)) Q := by
  refine ent hc rfl (fun cl hE hm => ?_)
  unfold M_lists at hf
  obtain ⟨g1, hf⟩ := grd_e hf
  refine stp hm 4 (And.intro (gi_in g1) (?_ : sxWP sc cl Q 218 (6, [some (.ref 59), some (.int v1), some (.int v2), some (.int v3), some (.int v4), some (.int v5)], [.int (mk.2.2.1 v1.toNatClampNeg)], (cW nw kp im ol sn sr tp (mW mk mg mt mc T)), 0, 0)))
  refine stp hm 2 (brn hf (fun c2 hf => ?_) (fun c2 hf => ?_))
  · show sxWP sc cl Q 218 (13, [some (.ref 59), some (.int v1), some (.int v2), some (.int v3), some (.int v4), some (.int v5)], [], (cW nw kp im ol sn sr tp (mW mk mg mt mc T)), 0, 0)
    obtain ⟨g3, hf⟩ := grd_e hf
    refine stp hm 8 (And.intro (gi_in g3) (?_ : sxWP sc cl Q 218 (25, [some (.ref 59), some (.int v1), some (.int v2), some (.int v3), some (.int v4), some (.int v5)], [.int (mk.2.2.1 v1.toNatClampNeg), .int (2:Int32), .int v2, .ref 60], (cW nw kp im ol sn sr tp (mW mk mg mt mc T)), 0, 0)))
    obtain ⟨g4, hf⟩ := grd_e hf
    refine stp hm 4 (And.intro (gi_in g4) (?_ : sxWP sc cl Q 218 (30, [some (.ref 59), some (.int v1), some (.int v2), some (.int v3), some (.int v4), some (.int v5)], [], (cW nw kp im ol sn sr tp (mW (mk.1, mk.2.1, upd mk.2.2.1 (v2 + ((2:Int32) * (mk.2.2.1 v1.toNatClampNeg))).toNatClampNeg v4, mk.2.2.2.1, mk.2.2.2.2.1, mk.2.2.2.2.2.1, mk.2.2.2.2.2.2.1, mk.2.2.2.2.2.2.2.1, mk.2.2.2.2.2.2.2.2.1, mk.2.2.2.2.2.2.2.2.2) mg mt mc T)), 0, 0)))
    obtain ⟨g5, hf⟩ := grd_e hf
    refine stp hm 8 (And.intro (gi_in g5) (?_ : sxWP sc cl Q 218 (42, [some (.ref 59), some (.int v1), some (.int v2), some (.int v3), some (.int v4), some (.int v5)], [.int ((upd mk.2.2.1 (v2 + ((2:Int32) * (mk.2.2.1 v1.toNatClampNeg))).toNatClampNeg v4) v1.toNatClampNeg), .int (2:Int32), .int v2, .ref 60], (cW nw kp im ol sn sr tp (mW (mk.1, mk.2.1, upd mk.2.2.1 (v2 + ((2:Int32) * (mk.2.2.1 v1.toNatClampNeg))).toNatClampNeg v4, mk.2.2.2.1, mk.2.2.2.2.1, mk.2.2.2.2.2.1, mk.2.2.2.2.2.2.1, mk.2.2.2.2.2.2.2.1, mk.2.2.2.2.2.2.2.2.1, mk.2.2.2.2.2.2.2.2.2) mg mt mc T)), 0, 0)))
    obtain ⟨g6, hf⟩ := grd_e hf
    refine stp hm 6 (And.intro (gi_in g6) (?_ : sxWP sc cl Q 218 (49, [some (.ref 59), some (.int v1), some (.int v2), some (.int v3), some (.int v4), some (.int v5)], [], (cW nw kp im ol sn sr tp (mW (mk.1, mk.2.1, upd (upd mk.2.2.1 (v2 + ((2:Int32) * (mk.2.2.1 v1.toNatClampNeg))).toNatClampNeg v4) ((v2 + ((2:Int32) * ((upd mk.2.2.1 (v2 + ((2:Int32) * (mk.2.2.1 v1.toNatClampNeg))).toNatClampNeg v4) v1.toNatClampNeg))) + (1:Int32)).toNatClampNeg v5, mk.2.2.2.1, mk.2.2.2.2.1, mk.2.2.2.2.2.1, mk.2.2.2.2.2.2.1, mk.2.2.2.2.2.2.2.1, mk.2.2.2.2.2.2.2.2.1, mk.2.2.2.2.2.2.2.2.2) mg mt mc T)), 0, 0)))
    obtain ⟨g7, hf⟩ := grd_e hf
    refine stp hm 5 (And.intro (gi_in g7) (?_ : sxWP sc cl Q 218 (56, [some (.ref 59), some (.int v1), some (.int v2), some (.int v3), some (.int v4), some (.int v5)], [.int ((upd (upd mk.2.2.1 (v2 + ((2:Int32) * (mk.2.2.1 v1.toNatClampNeg))).toNatClampNeg v4) ((v2 + ((2:Int32) * ((upd mk.2.2.1 (v2 + ((2:Int32) * (mk.2.2.1 v1.toNatClampNeg))).toNatClampNeg v4) v1.toNatClampNeg))) + (1:Int32)).toNatClampNeg v5) v1.toNatClampNeg), .int v1, .ref 60], (cW nw kp im ol sn sr tp (mW (mk.1, mk.2.1, upd (upd mk.2.2.1 (v2 + ((2:Int32) * (mk.2.2.1 v1.toNatClampNeg))).toNatClampNeg v4) ((v2 + ((2:Int32) * ((upd mk.2.2.1 (v2 + ((2:Int32) * (mk.2.2.1 v1.toNatClampNeg))).toNatClampNeg v4) v1.toNatClampNeg))) + (1:Int32)).toNatClampNeg v5, mk.2.2.2.1, mk.2.2.2.2.1, mk.2.2.2.2.2.1, mk.2.2.2.2.2.2.1, mk.2.2.2.2.2.2.2.1, mk.2.2.2.2.2.2.2.2.1, mk.2.2.2.2.2.2.2.2.2) mg mt mc T)), 0, 0)))
    obtain ⟨g8, hf⟩ := grd_e hf
    refine stp hm 3 (And.intro (gi_in g8) (?_ : sxWP sc cl Q 218 (59, [some (.ref 59), some (.int v1), some (.int v2), some (.int v3), some (.int v4), some (.int v5)], [], (cW nw kp im ol sn sr tp (mW (mk.1, mk.2.1, upd (upd (upd mk.2.2.1 (v2 + ((2:Int32) * (mk.2.2.1 v1.toNatClampNeg))).toNatClampNeg v4) ((v2 + ((2:Int32) * ((upd mk.2.2.1 (v2 + ((2:Int32) * (mk.2.2.1 v1.toNatClampNeg))).toNatClampNeg v4) v1.toNatClampNeg))) + (1:Int32)).toNatClampNeg v5) v1.toNatClampNeg (((upd (upd mk.2.2.1 (v2 + ((2:Int32) * (mk.2.2.1 v1.toNatClampNeg))).toNatClampNeg v4) ((v2 + ((2:Int32) * ((upd mk.2.2.1 (v2 + ((2:Int32) * (mk.2.2.1 v1.toNatClampNeg))).toNatClampNeg v4) v1.toNatClampNeg))) + (1:Int32)).toNatClampNeg v5) v1.toNatClampNeg) + (1:Int32)), mk.2.2.2.1, mk.2.2.2.2.1, mk.2.2.2.2.2.1, mk.2.2.2.2.2.2.1, mk.2.2.2.2.2.2.2.1, mk.2.2.2.2.2.2.2.2.1, mk.2.2.2.2.2.2.2.2.2) mg mt mc T)), 0, 0)))
    obtain ⟨g9, hf⟩ := grd_e hf
    refine stp hm 4 (And.intro (gi_in g9) (?_ : sxWP sc cl Q 218 (65, [some (.ref 59), some (.int v1), some (.int v2), some (.int v3), some (.int v4), some (.int v5)], [.int ((upd (upd (upd mk.2.2.1 (v2 + ((2:Int32) * (mk.2.2.1 v1.toNatClampNeg))).toNatClampNeg v4) ((v2 + ((2:Int32) * ((upd mk.2.2.1 (v2 + ((2:Int32) * (mk.2.2.1 v1.toNatClampNeg))).toNatClampNeg v4) v1.toNatClampNeg))) + (1:Int32)).toNatClampNeg v5) v1.toNatClampNeg (((upd (upd mk.2.2.1 (v2 + ((2:Int32) * (mk.2.2.1 v1.toNatClampNeg))).toNatClampNeg v4) ((v2 + ((2:Int32) * ((upd mk.2.2.1 (v2 + ((2:Int32) * (mk.2.2.1 v1.toNatClampNeg))).toNatClampNeg v4) v1.toNatClampNeg))) + (1:Int32)).toNatClampNeg v5) v1.toNatClampNeg) + (1:Int32))) v1.toNatClampNeg)], (cW nw kp im ol sn sr tp (mW (mk.1, mk.2.1, upd (upd (upd mk.2.2.1 (v2 + ((2:Int32) * (mk.2.2.1 v1.toNatClampNeg))).toNatClampNeg v4) ((v2 + ((2:Int32) * ((upd mk.2.2.1 (v2 + ((2:Int32) * (mk.2.2.1 v1.toNatClampNeg))).toNatClampNeg v4) v1.toNatClampNeg))) + (1:Int32)).toNatClampNeg v5) v1.toNatClampNeg (((upd (upd mk.2.2.1 (v2 + ((2:Int32) * (mk.2.2.1 v1.toNatClampNeg))).toNatClampNeg v4) ((v2 + ((2:Int32) * ((upd mk.2.2.1 (v2 + ((2:Int32) * (mk.2.2.1 v1.toNatClampNeg))).toNatClampNeg v4) v1.toNatClampNeg))) + (1:Int32)).toNatClampNeg v5) v1.toNatClampNeg) + (1:Int32)), mk.2.2.2.1, mk.2.2.2.2.1, mk.2.2.2.2.2.1, mk.2.2.2.2.2.2.1, mk.2.2.2.2.2.2.2.1, mk.2.2.2.2.2.2.2.2.1, mk.2.2.2.2.2.2.2.2.2) mg mt mc T)), 0, 0)))
    obtain rfl := Option.some.inj hf
    refine stp hm 1 ?_
    exact h
  · show sxWP sc cl Q 218 (10, [some (.ref 59), some (.int v1), some (.int v2), some (.int v3), some (.int v4), some (.int v5)], [], (cW nw kp im ol sn sr tp (mW mk mg mt mc T)), 0, 0)
    obtain rfl := Option.some.inj hf
    refine stp hm 2 ?_
    exact h

def M_see_j48  (k0 : Int32) (ms_j : (Nat → Int32)) : Option (Int32 × (Nat → Int32)) := some (k0, ms_j)
def M_see (v1 : Int32) (v2 : Int32) (ms : (Nat → Int32)) : Option (Int32 × (Nat → Int32)) := if v1 = (-1:Int32) then (Option.bind (M_none (3:Int32) ms) (fun q5 => some (q5.1, q5.2))) else (if (M_isIn v1 (0:Int32) (2:Int32)) = (0:Int32) then (some ((-1:Int32), ms)) else (if (M_isIn v2 (0:Int32) (144:Int32)) = (0:Int32) then (M_see_j48 (-2:Int32) ms) else (Option.bind (M_lists (3:Int32) (82:Int32) (4:Int32) v1 v2 ms) (fun q4 => M_see_j48 q4.1 q4.2))))
set_option maxRecDepth 10000 in
theorem M_see_ok {v1 : Int32} {v2 : Int32} {q : (Int32 × (Nat → Int32))} (hc : call = sxE sc (d + 2)) (hf : M_see v1 v2 mk.2.2.1 = some q) (h : Q (some (.int q.1)) (cW nw kp im ol sn sr tp (mW (mk.1, mk.2.1, q.2, mk.2.2.2.1, mk.2.2.2.2.1, mk.2.2.2.2.2.1, mk.2.2.2.2.2.2.1, mk.2.2.2.2.2.2.2.1, mk.2.2.2.2.2.2.2.2.1, mk.2.2.2.2.2.2.2.2.2) mg mt mc T))) : call 220 [.ref 59, .int v1, .int v2] (cW nw kp im ol sn sr tp (mW mk mg mt mc T)) Q := by
  refine ent hc rfl (fun cl hE hm => ?_)
  have J48 : ∀ (k0 : Int32) (ms_j : (Nat → Int32)) (z0 : Option Value) (z1 : Option Value) (z2 : Option Value), M_see_j48 k0 ms_j = some q → sxWP sc cl Q 220 (48, [z0, z1, z2], [.int k0], (cW nw kp im ol sn sr tp (mW (mk.1, mk.2.1, ms_j, mk.2.2.2.1, mk.2.2.2.2.1, mk.2.2.2.2.2.1, mk.2.2.2.2.2.2.1, mk.2.2.2.2.2.2.2.1, mk.2.2.2.2.2.2.2.2.1, mk.2.2.2.2.2.2.2.2.2) mg mt mc T)), 0, 0) := by
    intro k0 ms_j z0 z1 z2 hf
    unfold M_see_j48 at hf
    obtain rfl := Option.some.inj hf
    refine stp hm 1 ?_
    exact h
  unfold M_see at hf
  refine stp hm 3 (brn hf (fun c1 hf => ?_) (fun c1 hf => ?_))
  · show sxWP sc cl Q 220 (11, [some (.ref 59), some (.int v1), some (.int v2)], [], (cW nw kp im ol sn sr tp (mW mk mg mt mc T)), 0, 0)
    refine stp hm 4 (M_isIn_ok hE rfl ?_)
    show sxWP sc cl Q 220 (17, [some (.ref 59), some (.int v1), some (.int v2)], [.int (M_isIn v1 (0:Int32) (2:Int32))], (cW nw kp im ol sn sr tp (mW mk mg mt mc T)), 0, 0)
    refine stp hm 1 (brn hf (fun c2 hf => ?_) (fun c2 hf => ?_))
    · show sxWP sc cl Q 220 (22, [some (.ref 59), some (.int v1), some (.int v2)], [], (cW nw kp im ol sn sr tp (mW mk mg mt mc T)), 0, 0)
      refine stp hm 4 (M_isIn_ok hE rfl ?_)
      show sxWP sc cl Q 220 (30, [some (.ref 59), some (.int v1), some (.int v2)], [.int (M_isIn v2 (0:Int32) (144:Int32))], (cW nw kp im ol sn sr tp (mW mk mg mt mc T)), 0, 0)
      refine stp hm 1 (br hf (fun c3 hf => ?_) (fun c3 hf => ?_))
      · show sxWP sc cl Q 220 (46, [some (.ref 59), some (.int v1), some (.int v2)], [], (cW nw kp im ol sn sr tp (mW mk mg mt mc T)), 0, 0)
        refine stp hm 1 (?_ : sxWP sc cl Q 220 (48, [some (.ref 59), some (.int v1), some (.int v2)], [.int (-2:Int32)], (cW nw kp im ol sn sr tp (mW mk mg mt mc T)), 0, 0))
        exact J48 _ _ _ _ _ hf
      · show sxWP sc cl Q 220 (33, [some (.ref 59), some (.int v1), some (.int v2)], [], (cW nw kp im ol sn sr tp (mW mk mg mt mc T)), 0, 0)
        obtain ⟨q4, hq4, hf⟩ := bnd hf
        refine stp hm 7 (M_lists_ok hE hq4 ?_)
        show sxWP sc cl Q 220 (43, [some (.ref 59), some (.int v1), some (.int v2)], [.int q4.1], (cW nw kp im ol sn sr tp (mW (mk.1, mk.2.1, q4.2, mk.2.2.2.1, mk.2.2.2.2.1, mk.2.2.2.2.2.1, mk.2.2.2.2.2.2.1, mk.2.2.2.2.2.2.2.1, mk.2.2.2.2.2.2.2.2.1, mk.2.2.2.2.2.2.2.2.2) mg mt mc T)), 0, 0)
        refine stp hm 1 (?_ : sxWP sc cl Q 220 (48, [some (.ref 59), some (.int v1), some (.int v2)], [.int q4.1], (cW nw kp im ol sn sr tp (mW (mk.1, mk.2.1, q4.2, mk.2.2.2.1, mk.2.2.2.2.1, mk.2.2.2.2.2.1, mk.2.2.2.2.2.2.1, mk.2.2.2.2.2.2.2.1, mk.2.2.2.2.2.2.2.2.1, mk.2.2.2.2.2.2.2.2.2) mg mt mc T)), 0, 0))
        exact J48 _ _ _ _ _ hf
    · show sxWP sc cl Q 220 (20, [some (.ref 59), some (.int v1), some (.int v2)], [], (cW nw kp im ol sn sr tp (mW mk mg mt mc T)), 0, 0)
      obtain rfl := Option.some.inj hf
      refine stp hm 2 ?_
      exact h
  · show sxWP sc cl Q 220 (5, [some (.ref 59), some (.int v1), some (.int v2)], [], (cW nw kp im ol sn sr tp (mW mk mg mt mc T)), 0, 0)
    obtain ⟨q5, hq5, hf⟩ := bnd hf
    refine stp hm 3 (M_none_ok hE hq5 ?_)
    show sxWP sc cl Q 220 (10, [some (.ref 59), some (.int v1), some (.int v2)], [.int q5.1], (cW nw kp im ol sn sr tp (mW (mk.1, mk.2.1, q5.2, mk.2.2.2.1, mk.2.2.2.2.1, mk.2.2.2.2.2.1, mk.2.2.2.2.2.2.1, mk.2.2.2.2.2.2.2.1, mk.2.2.2.2.2.2.2.2.1, mk.2.2.2.2.2.2.2.2.2) mg mt mc T)), 0, 0)
    obtain rfl := Option.some.inj hf
    refine stp hm 1 ?_
    exact h

def R_one_j23  (k0 : Int32) : Option Int32 := some k0
def R_one_j22   : Option Int32 := R_one_j23 (0:Int32)
def R_one (v1 : Int32) (nso : (Nat → Int32)) : Option Int32 := if v1 < (0:Int32) then R_one_j22 else (if (Int32.ofNat 4) ≤ v1 then R_one_j22 else (grd (gi v1 4) (R_one_j23 (nso v1.toNatClampNeg))))
set_option maxRecDepth 10000 in
theorem R_one_ok {v1 : Int32} {q : Int32} (hc : call = sxE sc (d + 1)) (hf : R_one v1 nw.2.2.2.2.1.2.1 = some q) (h : Q (some (.int q)) (cW nw kp im ol sn sr tp (mW mk mg mt mc T))) : call 48 [.ref 6, .int v1] (cW nw kp im ol sn sr tp (mW mk mg mt mc T)) Q := by
  refine ent hc rfl (fun cl hE hm => ?_)
  have J23 : ∀ (k0 : Int32) (z0 : Option Value) (z1 : Option Value), R_one_j23 k0 = some q → sxWP sc cl Q 48 (23, [z0, z1], [.int k0], (cW nw kp im ol sn sr tp (mW mk mg mt mc T)), 0, 0) := by
    intro k0 z0 z1 hf
    unfold R_one_j23 at hf
    obtain rfl := Option.some.inj hf
    refine stp hm 1 ?_
    exact h
  have J22 : ∀  (z0 : Option Value) (z1 : Option Value), R_one_j22 = some q → sxWP sc cl Q 48 (22, [z0, z1], [], (cW nw kp im ol sn sr tp (mW mk mg mt mc T)), 0, 0) := by
    intro z0 z1 hf
    unfold R_one_j22 at hf
    refine stp hm 1 (?_ : sxWP sc cl Q 48 (23, [z0, z1], [.int (0:Int32)], (cW nw kp im ol sn sr tp (mW mk mg mt mc T)), 0, 0))
    exact J23 _ _ _ hf
  unfold R_one at hf
  refine stp hm 2 (br hf (fun c1 hf => ?_) (fun c1 hf => ?_))
  · show sxWP sc cl Q 48 (22, [some (.ref 6), some (.int v1)], [], (cW nw kp im ol sn sr tp (mW mk mg mt mc T)), 0, 0)
    exact J22 _ _ hf
  · show sxWP sc cl Q 48 (4, [some (.ref 6), some (.int v1)], [], (cW nw kp im ol sn sr tp (mW mk mg mt mc T)), 0, 0)
    refine stp hm 5 (br hf (fun c2 hf => ?_) (fun c2 hf => ?_))
    · show sxWP sc cl Q 48 (22, [some (.ref 6), some (.int v1)], [], (cW nw kp im ol sn sr tp (mW mk mg mt mc T)), 0, 0)
      exact J22 _ _ hf
    · show sxWP sc cl Q 48 (13, [some (.ref 6), some (.int v1)], [], (cW nw kp im ol sn sr tp (mW mk mg mt mc T)), 0, 0)
      obtain ⟨g3, hf⟩ := grd_e hf
      refine stp hm 4 (And.intro (gi_in g3) (?_ : sxWP sc cl Q 48 (19, [some (.ref 6), some (.int v1)], [.int (nw.2.2.2.2.1.2.1 v1.toNatClampNeg)], (cW nw kp im ol sn sr tp (mW mk mg mt mc T)), 0, 0)))
      refine stp hm 1 (?_ : sxWP sc cl Q 48 (23, [some (.ref 6), some (.int v1)], [.int (nw.2.2.2.2.1.2.1 v1.toNatClampNeg)], (cW nw kp im ol sn sr tp (mW mk mg mt mc T)), 0, 0))
      exact J23 _ _ _ hf

def R_other_j23  (k0 : Int32) : Option Int32 := some k0
def R_other_j22   : Option Int32 := R_other_j23 (0:Int32)
def R_other (v1 : Int32) (nsq : (Nat → Int32)) : Option Int32 := if v1 < (0:Int32) then R_other_j22 else (if (Int32.ofNat 4) ≤ v1 then R_other_j22 else (grd (gi v1 4) (R_other_j23 (nsq v1.toNatClampNeg))))
set_option maxRecDepth 10000 in
theorem R_other_ok {v1 : Int32} {q : Int32} (hc : call = sxE sc (d + 1)) (hf : R_other v1 nw.2.2.2.2.1.2.2 = some q) (h : Q (some (.int q)) (cW nw kp im ol sn sr tp (mW mk mg mt mc T))) : call 49 [.ref 6, .int v1] (cW nw kp im ol sn sr tp (mW mk mg mt mc T)) Q := by
  refine ent hc rfl (fun cl hE hm => ?_)
  have J23 : ∀ (k0 : Int32) (z0 : Option Value) (z1 : Option Value), R_other_j23 k0 = some q → sxWP sc cl Q 49 (23, [z0, z1], [.int k0], (cW nw kp im ol sn sr tp (mW mk mg mt mc T)), 0, 0) := by
    intro k0 z0 z1 hf
    unfold R_other_j23 at hf
    obtain rfl := Option.some.inj hf
    refine stp hm 1 ?_
    exact h
  have J22 : ∀  (z0 : Option Value) (z1 : Option Value), R_other_j22 = some q → sxWP sc cl Q 49 (22, [z0, z1], [], (cW nw kp im ol sn sr tp (mW mk mg mt mc T)), 0, 0) := by
    intro z0 z1 hf
    unfold R_other_j22 at hf
    refine stp hm 1 (?_ : sxWP sc cl Q 49 (23, [z0, z1], [.int (0:Int32)], (cW nw kp im ol sn sr tp (mW mk mg mt mc T)), 0, 0))
    exact J23 _ _ _ hf
  unfold R_other at hf
  refine stp hm 2 (br hf (fun c1 hf => ?_) (fun c1 hf => ?_))
  · show sxWP sc cl Q 49 (22, [some (.ref 6), some (.int v1)], [], (cW nw kp im ol sn sr tp (mW mk mg mt mc T)), 0, 0)
    exact J22 _ _ hf
  · show sxWP sc cl Q 49 (4, [some (.ref 6), some (.int v1)], [], (cW nw kp im ol sn sr tp (mW mk mg mt mc T)), 0, 0)
    refine stp hm 5 (br hf (fun c2 hf => ?_) (fun c2 hf => ?_))
    · show sxWP sc cl Q 49 (22, [some (.ref 6), some (.int v1)], [], (cW nw kp im ol sn sr tp (mW mk mg mt mc T)), 0, 0)
      exact J22 _ _ hf
    · show sxWP sc cl Q 49 (13, [some (.ref 6), some (.int v1)], [], (cW nw kp im ol sn sr tp (mW mk mg mt mc T)), 0, 0)
      obtain ⟨g3, hf⟩ := grd_e hf
      refine stp hm 4 (And.intro (gi_in g3) (?_ : sxWP sc cl Q 49 (19, [some (.ref 6), some (.int v1)], [.int (nw.2.2.2.2.1.2.2 v1.toNatClampNeg)], (cW nw kp im ol sn sr tp (mW mk mg mt mc T)), 0, 0)))
      refine stp hm 1 (?_ : sxWP sc cl Q 49 (23, [some (.ref 6), some (.int v1)], [.int (nw.2.2.2.2.1.2.2 v1.toNatClampNeg)], (cW nw kp im ol sn sr tp (mW mk mg mt mc T)), 0, 0))
      exact J23 _ _ _ hf

def X_isAsSeen_s2  (v1 : Int64) (nss : Int32) (nso : (Nat → Int32)) (nsq : (Nat → Int32)) (s : Int32) : Option (Int32 ⊕ (Unit ⊕ Unit)) := if nss ≤ s then (some (Sum.inr (Sum.inr ()))) else (Option.bind (R_one s nso) (fun q2 => Option.bind (R_other s nsq) (fun q3 => if (G_amount v1 q2) = q3 then (some (Sum.inl (s + (1:Int32)))) else (some (Sum.inr (Sum.inl ()))))))
def X_isAsSeen (v1 : Int64) (nss : Int32) (nso : (Nat → Int32)) (nsq : (Nat → Int32)) : Option Int32 := Option.bind (wh (X_isAsSeen_s2 v1 nss nso nsq) FU (0:Int32)) (Sum.elim (fun w1_0a => some (0:Int32)) (fun w1_0b => some (1:Int32)))
set_option maxRecDepth 10000 in
theorem X_isAsSeen_l2 {v1 : Int64}   (hE : cl = sxE sc (d + 2)) (hm : CallMono cl) : ∀ (n : Nat) (s : Int32) (r : (Unit ⊕ Unit)), wh (X_isAsSeen_s2 v1 nw.2.2.2.2.1.1 nw.2.2.2.2.1.2.1 nw.2.2.2.2.1.2.2) n s = some r → ((∀ p0, r = Sum.inl p0 → ∀ (z0 z1 z2 z3 : Option Value), sxWP sc cl Q 118 (45, [z0, z1, z2, z3], [], (cW nw kp im ol sn sr tp (mW mk mg mt mc T)), 0, 0)) ∧ (∀ p0, r = Sum.inr p0 → ∀ (z0 z1 z2 z3 : Option Value), sxWP sc cl Q 118 (53, [z0, z1, z2, z3], [], (cW nw kp im ol sn sr tp (mW mk mg mt mc T)), 0, 0))) → sxWP sc cl Q 118 (2, [some (.ref 0), some (.long v1), none, some (.int s)], [], (cW nw kp im ol sn sr tp (mW mk mg mt mc T)), 0, 0) := by
  refine wh_run (A := fun (s : Int32) => sxWP sc cl Q 118 (2, [some (.ref 0), some (.long v1), none, some (.int s)], [], (cW nw kp im ol sn sr tp (mW mk mg mt mc T)), 0, 0)) (B := fun (r : (Unit ⊕ Unit)) => (∀ p0, r = Sum.inl p0 → ∀ (z0 z1 z2 z3 : Option Value), sxWP sc cl Q 118 (45, [z0, z1, z2, z3], [], (cW nw kp im ol sn sr tp (mW mk mg mt mc T)), 0, 0)) ∧ (∀ p0, r = Sum.inr p0 → ∀ (z0 z1 z2 z3 : Option Value), sxWP sc cl Q 118 (53, [z0, z1, z2, z3], [], (cW nw kp im ol sn sr tp (mW mk mg mt mc T)), 0, 0))) (fun s x hf hA hB => ?_)
  unfold X_isAsSeen_s2 at hf
  refine stp hm 6 (br hf (fun c1 hf => ?_) (fun c1 hf => ?_))
  · show sxWP sc cl Q 118 (53, [some (.ref 0), some (.long v1), none, some (.int s)], [], (cW nw kp im ol sn sr tp (mW mk mg mt mc T)), 0, 0)
    obtain rfl := Option.some.inj hf
    exact (hB _ rfl).2 _ rfl _ _ _ _
  · show sxWP sc cl Q 118 (16, [some (.ref 0), some (.long v1), none, some (.int s)], [], (cW nw kp im ol sn sr tp (mW mk mg mt mc T)), 0, 0)
    obtain ⟨q2, hq2, hf⟩ := bnd hf
    refine stp hm 6 (R_one_ok hE hq2 ?_)
    show sxWP sc cl Q 118 (28, [some (.ref 0), some (.long v1), none, some (.int s)], [.int q2, .long v1], (cW nw kp im ol sn sr tp (mW mk mg mt mc T)), 0, 0)
    refine stp hm 1 (G_amount_ok hE rfl ?_)
    show sxWP sc cl Q 118 (31, [some (.ref 0), some (.long v1), none, some (.int s)], [.int (G_amount v1 q2)], (cW nw kp im ol sn sr tp (mW mk mg mt mc T)), 0, 0)
    obtain ⟨q3, hq3, hf⟩ := bnd hf
    refine stp hm 5 (R_other_ok hE hq3 ?_)
    show sxWP sc cl Q 118 (42, [some (.ref 0), some (.long v1), none, some (.int s)], [.int q3, .int (G_amount v1 q2)], (cW nw kp im ol sn sr tp (mW mk mg mt mc T)), 0, 0)
    refine stp hm 1 (br hf (fun c4 hf => ?_) (fun c4 hf => ?_))
    · show sxWP sc cl Q 118 (47, [some (.ref 0), some (.long v1), none, some (.int s)], [], (cW nw kp im ol sn sr tp (mW mk mg mt mc T)), 0, 0)
      obtain rfl := Option.some.inj hf
      refine stp hm 2 (?_ : sxWP sc cl Q 118 (2, [some (.ref 0), some (.long v1), none, some (.int (s + (1:Int32)))], [], (cW nw kp im ol sn sr tp (mW mk mg mt mc T)), 0, 0))
      exact hA _ rfl
    · show sxWP sc cl Q 118 (45, [some (.ref 0), some (.long v1), none, some (.int s)], [], (cW nw kp im ol sn sr tp (mW mk mg mt mc T)), 0, 0)
      obtain rfl := Option.some.inj hf
      exact (hB _ rfl).1 _ rfl _ _ _ _
set_option maxRecDepth 10000 in
theorem X_isAsSeen_ok {v1 : Int64} {q : Int32} (hc : call = sxE sc (d + 3)) (hf : X_isAsSeen v1 nw.2.2.2.2.1.1 nw.2.2.2.2.1.2.1 nw.2.2.2.2.1.2.2 = some q) (h : Q (some (.int q)) (cW nw kp im ol sn sr tp (mW mk mg mt mc T))) : call 118 [.ref 0, .long v1] (cW nw kp im ol sn sr tp (mW mk mg mt mc T)) Q := by
  refine ent hc rfl (fun cl hE hm => ?_)
  unfold X_isAsSeen at hf
  obtain ⟨w1, hw1, hf⟩ := bnd hf
  refine stp hm 2 (?_ : sxWP sc cl Q 118 (2, [some (.ref 0), some (.long v1), none, some (.int (0:Int32))], [], (cW nw kp im ol sn sr tp (mW mk mg mt mc T)), 0, 0))
  refine X_isAsSeen_l2 hE hm _ _ _ hw1 ?_
  refine ⟨fun w1_0a e0 => ?_, fun w1_0b e0 => ?_⟩
  · subst e0
    replace hf : (some (0:Int32)) = some q := hf
    intro w1_z0 w1_z1 w1_z2 w1_z3
    show sxWP sc cl Q 118 (45, [w1_z0, w1_z1, w1_z2, w1_z3], [], (cW nw kp im ol sn sr tp (mW mk mg mt mc T)), 0, 0)
    obtain rfl := Option.some.inj hf
    refine stp hm 2 (And.intro (Or.inl rfl) ?_)
    exact h
  · subst e0
    replace hf : (some (1:Int32)) = some q := hf
    intro w1_z0 w1_z1 w1_z2 w1_z3
    show sxWP sc cl Q 118 (53, [w1_z0, w1_z1, w1_z2, w1_z3], [], (cW nw kp im ol sn sr tp (mW mk mg mt mc T)), 0, 0)
    obtain rfl := Option.some.inj hf
    refine stp hm 2 (And.intro (Or.inr rfl) ?_)
    exact h

def X_fits_s4   (nrg : Int64) (nss : Int32) (nso : (Nat → Int32)) (nsq : (Nat → Int32)) (s : (Int64 × Int32)) : Option ((Int64 × Int32) ⊕ Int64) := if (36:Int32) ≤ s.2 then (some (Sum.inr s.1)) else (Option.bind (X_isAsSeen (nrg ^^^ ((1:Int64) <<< (s.2.toInt64 &&& 63))) nss nso nsq) (fun q2 => some (Sum.inl (if q2 = (0:Int32) then s.1 else (s.1 ||| ((1:Int64) <<< (s.2.toInt64 &&& 63))), s.2 + (1:Int32)))))
def X_fits  (nrg : Int64) (nss : Int32) (nso : (Nat → Int32)) (nsq : (Nat → Int32)) : Option Int64 := Option.bind (wh (X_fits_s4 nrg nss nso nsq) FU ((0:Int64), (0:Int32))) (fun w1 => some w1)
set_option maxRecDepth 10000 in
theorem X_fits_l4    (hE : cl = sxE sc (d + 3)) (hm : CallMono cl) : ∀ (n : Nat) (s : (Int64 × Int32)) (r : Int64), wh (X_fits_s4 nw.1 nw.2.2.2.2.1.1 nw.2.2.2.2.1.2.1 nw.2.2.2.2.1.2.2) n s = some r → (∀ (z0 z3 : Option Value), sxWP sc cl Q 117 (40, [z0, some (.long r), none, z3], [], (cW nw kp im ol sn sr tp (mW mk mg mt mc T)), 0, 0)) → sxWP sc cl Q 117 (4, [some (.ref 0), some (.long s.1), none, some (.int s.2)], [], (cW nw kp im ol sn sr tp (mW mk mg mt mc T)), 0, 0) := by
  refine wh_run (A := fun (s : (Int64 × Int32)) => sxWP sc cl Q 117 (4, [some (.ref 0), some (.long s.1), none, some (.int s.2)], [], (cW nw kp im ol sn sr tp (mW mk mg mt mc T)), 0, 0)) (B := fun (r : Int64) => ∀ (z0 z3 : Option Value), sxWP sc cl Q 117 (40, [z0, some (.long r), none, z3], [], (cW nw kp im ol sn sr tp (mW mk mg mt mc T)), 0, 0)) (fun s x hf hA hB => ?_)
  unfold X_fits_s4 at hf
  refine stp hm 3 (br hf (fun c1 hf => ?_) (fun c1 hf => ?_))
  · show sxWP sc cl Q 117 (40, [some (.ref 0), some (.long s.1), none, some (.int s.2)], [], (cW nw kp im ol sn sr tp (mW mk mg mt mc T)), 0, 0)
    obtain rfl := Option.some.inj hf
    exact hB _ rfl _ _
  · show sxWP sc cl Q 117 (10, [some (.ref 0), some (.long s.1), none, some (.int s.2)], [], (cW nw kp im ol sn sr tp (mW mk mg mt mc T)), 0, 0)
    obtain ⟨q2, hq2, hf⟩ := bnd hf
    refine stp hm 9 (X_isAsSeen_ok hE hq2 ?_)
    show sxWP sc cl Q 117 (25, [some (.ref 0), some (.long s.1), none, some (.int s.2)], [.int q2], (cW nw kp im ol sn sr tp (mW mk mg mt mc T)), 0, 0)
    have m3 : ∀ (m3_0 : Int64), m3_0 = (if q2 = (0:Int32) then s.1 else (s.1 ||| ((1:Int64) <<< (s.2.toInt64 &&& 63)))) → sxWP sc cl Q 117 (34, [some (.ref 0), some (.long m3_0), none, some (.int s.2)], [], (cW nw kp im ol sn sr tp (mW mk mg mt mc T)), 0, 0) := by
      intro m3_0 em3_0
      subst em3_0
      obtain rfl := Option.some.inj hf
      refine stp hm 2 (?_ : sxWP sc cl Q 117 (4, [some (.ref 0), some (.long (if q2 = (0:Int32) then s.1 else (s.1 ||| ((1:Int64) <<< (s.2.toInt64 &&& 63))))), none, some (.int (s.2 + (1:Int32)))], [], (cW nw kp im ol sn sr tp (mW mk mg mt mc T)), 0, 0))
      exact hA _ rfl
    refine stp hm 1 (bs (c := q2 = (0:Int32)) (fun c4 => ?_) (fun c4 => ?_))
    · have c4 : q2 = (0:Int32) := c4
      exact m3 _ (by rw [if_pos c4])
    · have c4 : ¬ q2 = (0:Int32) := c4
      refine stp hm 6 (?_ : sxWP sc cl Q 117 (34, [some (.ref 0), some (.long (s.1 ||| ((1:Int64) <<< (s.2.toInt64 &&& 63)))), none, some (.int s.2)], [], (cW nw kp im ol sn sr tp (mW mk mg mt mc T)), 0, 0))
      exact m3 _ (by rw [if_neg c4])
set_option maxRecDepth 10000 in
theorem X_fits_ok  {q : Int64} (hc : call = sxE sc (d + 4)) (hf : X_fits nw.1 nw.2.2.2.2.1.1 nw.2.2.2.2.1.2.1 nw.2.2.2.2.1.2.2 = some q) (h : Q (some (.long q)) (cW nw kp im ol sn sr tp (mW mk mg mt mc T))) : call 117 [.ref 0] (cW nw kp im ol sn sr tp (mW mk mg mt mc T)) Q := by
  refine ent hc rfl (fun cl hE hm => ?_)
  unfold X_fits at hf
  obtain ⟨w1, hw1, hf⟩ := bnd hf
  refine stp hm 4 (?_ : sxWP sc cl Q 117 (4, [some (.ref 0), some (.long (0:Int64)), none, some (.int (0:Int32))], [], (cW nw kp im ol sn sr tp (mW mk mg mt mc T)), 0, 0))
  refine X_fits_l4 hE hm _ _ _ hw1 ?_
  intro w1_z0 w1_z3
  show sxWP sc cl Q 117 (40, [w1_z0, some (.long w1), none, w1_z3], [], (cW nw kp im ol sn sr tp (mW mk mg mt mc T)), 0, 0)
  obtain rfl := Option.some.inj hf
  refine stp hm 2 ?_
  exact h

def M_isAsSeen_j51  (v1 : Int32) (k0 : Int32) (ms : (Nat → Int32)) : Option (Int32 ⊕ (Unit ⊕ Unit)) := grd (gi (((82:Int32) + ((2:Int32) * v1)) + (1:Int32)) 122) (if k0 = (ms (((82:Int32) + ((2:Int32) * v1)) + (1:Int32)).toNatClampNeg) then (some (Sum.inl (v1 + (1:Int32)))) else (some (Sum.inr (Sum.inl ()))))
def M_isAsSeen_s2   (mrg : Int64) (ms : (Nat → Int32)) (s : Int32) : Option (Int32 ⊕ (Unit ⊕ Unit)) := grd (gi (3:Int32) 122) (if (ms (3:Int32).toNatClampNeg) ≤ s then (some (Sum.inr (Sum.inr ()))) else (grd (gi ((82:Int32) + ((2:Int32) * s)) 122) (if (ms ((82:Int32) + ((2:Int32) * s)).toNatClampNeg) = (0:Int32) then (Option.bind (M_cells mrg) (fun q10 => M_isAsSeen_j51 s q10 ms)) else (if (ms ((82:Int32) + ((2:Int32) * s)).toNatClampNeg) = (1:Int32) then (Option.bind (M_blacks mrg) (fun q9 => M_isAsSeen_j51 s q9 ms)) else (Option.bind (M_edges mrg) (fun q8 => M_isAsSeen_j51 s q8 ms))))))
def M_isAsSeen  (mrg : Int64) (ms : (Nat → Int32)) : Option Int32 := Option.bind (wh (M_isAsSeen_s2 mrg ms) FU (0:Int32)) (Sum.elim (fun w1_0a => some (0:Int32)) (fun w1_0b => some (1:Int32)))
set_option maxRecDepth 10000 in
theorem M_isAsSeen_l2    (hE : cl = sxE sc (d + 3)) (hm : CallMono cl) : ∀ (n : Nat) (s : Int32) (r : (Unit ⊕ Unit)), wh (M_isAsSeen_s2 mk.1 mk.2.2.1) n s = some r → ((∀ p0, r = Sum.inl p0 → ∀ (z0 z1 z2 z3 : Option Value), sxWP sc cl Q 221 (69, [z0, z1, z2, z3], [], (cW nw kp im ol sn sr tp (mW mk mg mt mc T)), 0, 0)) ∧ (∀ p0, r = Sum.inr p0 → ∀ (z0 z1 z2 z3 : Option Value), sxWP sc cl Q 221 (77, [z0, z1, z2, z3], [], (cW nw kp im ol sn sr tp (mW mk mg mt mc T)), 0, 0))) → ∀ (z2 z3 : Option Value), sxWP sc cl Q 221 (2, [some (.ref 59), some (.int s), z2, z3], [], (cW nw kp im ol sn sr tp (mW mk mg mt mc T)), 0, 0) := by
  refine wh_run (A := fun (s : Int32) => ∀ (z2 z3 : Option Value), sxWP sc cl Q 221 (2, [some (.ref 59), some (.int s), z2, z3], [], (cW nw kp im ol sn sr tp (mW mk mg mt mc T)), 0, 0)) (B := fun (r : (Unit ⊕ Unit)) => (∀ p0, r = Sum.inl p0 → ∀ (z0 z1 z2 z3 : Option Value), sxWP sc cl Q 221 (69, [z0, z1, z2, z3], [], (cW nw kp im ol sn sr tp (mW mk mg mt mc T)), 0, 0)) ∧ (∀ p0, r = Sum.inr p0 → ∀ (z0 z1 z2 z3 : Option Value), sxWP sc cl Q 221 (77, [z0, z1, z2, z3], [], (cW nw kp im ol sn sr tp (mW mk mg mt mc T)), 0, 0))) (fun s x hf hA hB => ?_)
  intro z2 z3
  have J51 : ∀ (v1 : Int32) (k0 : Int32) (z2 : Option Value) (z3 : Option Value), M_isAsSeen_j51 v1 k0 mk.2.2.1 = some x → sxWP sc cl Q 221 (51, [some (.ref 59), some (.int v1), z2, z3], [.int k0], (cW nw kp im ol sn sr tp (mW mk mg mt mc T)), 0, 0) := by
    intro v1 k0 z2 z3 hf
    unfold M_isAsSeen_j51 at hf
    obtain ⟨g1, hf⟩ := grd_e hf
    refine stp hm 12 (And.intro (gi_in g1) (?_ : sxWP sc cl Q 221 (66, [some (.ref 59), some (.int v1), (sxc2 z2), some (.int k0)], [.int (mk.2.2.1 (((82:Int32) + ((2:Int32) * v1)) + (1:Int32)).toNatClampNeg), .int k0], (cW nw kp im ol sn sr tp (mW mk mg mt mc T)), 0, 0)))
    refine stp hm 1 (br hf (fun c2 hf => ?_) (fun c2 hf => ?_))
    · show sxWP sc cl Q 221 (71, [some (.ref 59), some (.int v1), (sxc2 z2), some (.int k0)], [], (cW nw kp im ol sn sr tp (mW mk mg mt mc T)), 0, 0)
      obtain rfl := Option.some.inj hf
      refine stp hm 2 (?_ : sxWP sc cl Q 221 (2, [some (.ref 59), some (.int (v1 + (1:Int32))), (sxc2 z2), some (.int k0)], [], (cW nw kp im ol sn sr tp (mW mk mg mt mc T)), 0, 0))
      exact hA _ rfl _ _
    · show sxWP sc cl Q 221 (69, [some (.ref 59), some (.int v1), (sxc2 z2), some (.int k0)], [], (cW nw kp im ol sn sr tp (mW mk mg mt mc T)), 0, 0)
      obtain rfl := Option.some.inj hf
      exact (hB _ rfl).1 _ rfl _ _ _ _
  unfold M_isAsSeen_s2 at hf
  obtain ⟨g3, hf⟩ := grd_e hf
  refine stp hm 5 (And.intro (gi_in g3) (?_ : sxWP sc cl Q 221 (9, [some (.ref 59), some (.int s), z2, z3], [.int (mk.2.2.1 (3:Int32).toNatClampNeg), .int s], (cW nw kp im ol sn sr tp (mW mk mg mt mc T)), 0, 0)))
  refine stp hm 1 (br hf (fun c4 hf => ?_) (fun c4 hf => ?_))
  · show sxWP sc cl Q 221 (77, [some (.ref 59), some (.int s), z2, z3], [], (cW nw kp im ol sn sr tp (mW mk mg mt mc T)), 0, 0)
    obtain rfl := Option.some.inj hf
    exact (hB _ rfl).2 _ rfl _ _ _ _
  · show sxWP sc cl Q 221 (12, [some (.ref 59), some (.int s), z2, z3], [], (cW nw kp im ol sn sr tp (mW mk mg mt mc T)), 0, 0)
    obtain ⟨g5, hf⟩ := grd_e hf
    refine stp hm 8 (And.intro (gi_in g5) (?_ : sxWP sc cl Q 221 (23, [some (.ref 59), some (.int s), z2, z3], [.int (mk.2.2.1 ((82:Int32) + ((2:Int32) * s)).toNatClampNeg)], (cW nw kp im ol sn sr tp (mW mk mg mt mc T)), 0, 0)))
    refine stp hm 3 (brn hf (fun c6 hf => ?_) (fun c6 hf => ?_))
    · show sxWP sc cl Q 221 (35, [some (.ref 59), some (.int s), some (.int (mk.2.2.1 ((82:Int32) + ((2:Int32) * s)).toNatClampNeg)), z3], [], (cW nw kp im ol sn sr tp (mW mk mg mt mc T)), 0, 0)
      refine stp hm 3 (brn hf (fun c7 hf => ?_) (fun c7 hf => ?_))
      · show sxWP sc cl Q 221 (47, [some (.ref 59), some (.int s), some (.int (mk.2.2.1 ((82:Int32) + ((2:Int32) * s)).toNatClampNeg)), z3], [], (cW nw kp im ol sn sr tp (mW mk mg mt mc T)), 0, 0)
        obtain ⟨q8, hq8, hf⟩ := bnd hf
        refine stp hm 2 (M_edges_ok hE hq8 ?_)
        show sxWP sc cl Q 221 (51, [some (.ref 59), some (.int s), some (.int (mk.2.2.1 ((82:Int32) + ((2:Int32) * s)).toNatClampNeg)), z3], [.int q8], (cW nw kp im ol sn sr tp (mW mk mg mt mc T)), 0, 0)
        exact J51 _ _ _ _ hf
      · show sxWP sc cl Q 221 (40, [some (.ref 59), some (.int s), some (.int (mk.2.2.1 ((82:Int32) + ((2:Int32) * s)).toNatClampNeg)), z3], [], (cW nw kp im ol sn sr tp (mW mk mg mt mc T)), 0, 0)
        obtain ⟨q9, hq9, hf⟩ := bnd hf
        refine stp hm 2 (M_blacks_ok hE hq9 ?_)
        show sxWP sc cl Q 221 (44, [some (.ref 59), some (.int s), some (.int (mk.2.2.1 ((82:Int32) + ((2:Int32) * s)).toNatClampNeg)), z3], [.int q9], (cW nw kp im ol sn sr tp (mW mk mg mt mc T)), 0, 0)
        refine stp hm 1 (?_ : sxWP sc cl Q 221 (51, [some (.ref 59), some (.int s), some (.int (mk.2.2.1 ((82:Int32) + ((2:Int32) * s)).toNatClampNeg)), z3], [.int q9], (cW nw kp im ol sn sr tp (mW mk mg mt mc T)), 0, 0))
        exact J51 _ _ _ _ hf
    · show sxWP sc cl Q 221 (28, [some (.ref 59), some (.int s), some (.int (mk.2.2.1 ((82:Int32) + ((2:Int32) * s)).toNatClampNeg)), z3], [], (cW nw kp im ol sn sr tp (mW mk mg mt mc T)), 0, 0)
      obtain ⟨q10, hq10, hf⟩ := bnd hf
      refine stp hm 2 (M_cells_ok hE hq10 ?_)
      show sxWP sc cl Q 221 (32, [some (.ref 59), some (.int s), some (.int (mk.2.2.1 ((82:Int32) + ((2:Int32) * s)).toNatClampNeg)), z3], [.int q10], (cW nw kp im ol sn sr tp (mW mk mg mt mc T)), 0, 0)
      refine stp hm 1 (?_ : sxWP sc cl Q 221 (51, [some (.ref 59), some (.int s), some (.int (mk.2.2.1 ((82:Int32) + ((2:Int32) * s)).toNatClampNeg)), z3], [.int q10], (cW nw kp im ol sn sr tp (mW mk mg mt mc T)), 0, 0))
      exact J51 _ _ _ _ hf
set_option maxRecDepth 10000 in
theorem M_isAsSeen_ok  {q : Int32} (hc : call = sxE sc (d + 4)) (hf : M_isAsSeen mk.1 mk.2.2.1 = some q) (h : Q (some (.int q)) (cW nw kp im ol sn sr tp (mW mk mg mt mc T))) : call 221 [.ref 59] (cW nw kp im ol sn sr tp (mW mk mg mt mc T)) Q := by
  refine ent hc rfl (fun cl hE hm => ?_)
  unfold M_isAsSeen at hf
  obtain ⟨w1, hw1, hf⟩ := bnd hf
  refine stp hm 2 (?_ : sxWP sc cl Q 221 (2, [some (.ref 59), some (.int (0:Int32)), none, none], [], (cW nw kp im ol sn sr tp (mW mk mg mt mc T)), 0, 0))
  refine M_isAsSeen_l2 hE hm _ _ _ hw1 ?_ _ _
  refine ⟨fun w1_0a e0 => ?_, fun w1_0b e0 => ?_⟩
  · subst e0
    replace hf : (some (0:Int32)) = some q := hf
    intro w1_z0 w1_z1 w1_z2 w1_z3
    show sxWP sc cl Q 221 (69, [w1_z0, w1_z1, w1_z2, w1_z3], [], (cW nw kp im ol sn sr tp (mW mk mg mt mc T)), 0, 0)
    obtain rfl := Option.some.inj hf
    refine stp hm 2 (And.intro (Or.inl rfl) ?_)
    exact h
  · subst e0
    replace hf : (some (1:Int32)) = some q := hf
    intro w1_z0 w1_z1 w1_z2 w1_z3
    show sxWP sc cl Q 221 (77, [w1_z0, w1_z1, w1_z2, w1_z3], [], (cW nw kp im ol sn sr tp (mW mk mg mt mc T)), 0, 0)
    obtain rfl := Option.some.inj hf
    refine stp hm 2 (And.intro (Or.inr rfl) ?_)
    exact h

def M_fits_s10  (v1 : Int64) (ms : (Nat → Int32)) (s : (Int64 × Int32 × Int64)) : Option ((Int64 × Int32 × Int64) ⊕ (Int64 × Int64)) := if (36:Int32) ≤ s.2.1 then (some (Sum.inr (s.1, s.2.2))) else (Option.bind (M_isAsSeen (v1 ^^^ ((1:Int64) <<< (s.2.1.toInt64 &&& 63))) ms) (fun q2 => some (Sum.inl (s.1 ||| (if q2 = (0:Int32) then (0:Int64) else ((1:Int64) <<< (s.2.1.toInt64 &&& 63))), s.2.1 + (1:Int32), v1 ^^^ ((1:Int64) <<< (s.2.1.toInt64 &&& 63))))))
def M_fits  (mrg : Int64) (ms : (Nat → Int32)) : Option (Int64 × Int64) := Option.bind (wh (M_fits_s10 mrg ms) FU ((0:Int64), (0:Int32), mrg)) (fun w1 => some (w1.1, mrg))
set_option maxRecDepth 10000 in
theorem M_fits_l10 {v1 : Int64}   (hE : cl = sxE sc (d + 4)) (hm : CallMono cl) : ∀ (n : Nat) (s : (Int64 × Int32 × Int64)) (r : (Int64 × Int64)), wh (M_fits_s10 v1 mk.2.2.1) n s = some r → (∀ (z5 : Option Value), sxWP sc cl Q 222 (51, [some (.ref 59), some (.long v1), none, some (.long r.1), none, z5], [], (cW nw kp im ol sn sr tp (mW (r.2, mk.2.1, mk.2.2.1, mk.2.2.2.1, mk.2.2.2.2.1, mk.2.2.2.2.2.1, mk.2.2.2.2.2.2.1, mk.2.2.2.2.2.2.2.1, mk.2.2.2.2.2.2.2.2.1, mk.2.2.2.2.2.2.2.2.2) mg mt mc T)), 0, 0)) → sxWP sc cl Q 222 (10, [some (.ref 59), some (.long v1), none, some (.long s.1), none, some (.int s.2.1)], [], (cW nw kp im ol sn sr tp (mW (s.2.2, mk.2.1, mk.2.2.1, mk.2.2.2.1, mk.2.2.2.2.1, mk.2.2.2.2.2.1, mk.2.2.2.2.2.2.1, mk.2.2.2.2.2.2.2.1, mk.2.2.2.2.2.2.2.2.1, mk.2.2.2.2.2.2.2.2.2) mg mt mc T)), 0, 0) := by
  refine wh_run (A := fun (s : (Int64 × Int32 × Int64)) => sxWP sc cl Q 222 (10, [some (.ref 59), some (.long v1), none, some (.long s.1), none, some (.int s.2.1)], [], (cW nw kp im ol sn sr tp (mW (s.2.2, mk.2.1, mk.2.2.1, mk.2.2.2.1, mk.2.2.2.2.1, mk.2.2.2.2.2.1, mk.2.2.2.2.2.2.1, mk.2.2.2.2.2.2.2.1, mk.2.2.2.2.2.2.2.2.1, mk.2.2.2.2.2.2.2.2.2) mg mt mc T)), 0, 0)) (B := fun (r : (Int64 × Int64)) => ∀ (z5 : Option Value), sxWP sc cl Q 222 (51, [some (.ref 59), some (.long v1), none, some (.long r.1), none, z5], [], (cW nw kp im ol sn sr tp (mW (r.2, mk.2.1, mk.2.2.1, mk.2.2.2.1, mk.2.2.2.2.1, mk.2.2.2.2.2.1, mk.2.2.2.2.2.2.1, mk.2.2.2.2.2.2.2.1, mk.2.2.2.2.2.2.2.2.1, mk.2.2.2.2.2.2.2.2.2) mg mt mc T)), 0, 0)) (fun s x hf hA hB => ?_)
  unfold M_fits_s10 at hf
  refine stp hm 3 (br hf (fun c1 hf => ?_) (fun c1 hf => ?_))
  · show sxWP sc cl Q 222 (51, [some (.ref 59), some (.long v1), none, some (.long s.1), none, some (.int s.2.1)], [], (cW nw kp im ol sn sr tp (mW (s.2.2, mk.2.1, mk.2.2.1, mk.2.2.2.1, mk.2.2.2.2.1, mk.2.2.2.2.2.1, mk.2.2.2.2.2.2.1, mk.2.2.2.2.2.2.2.1, mk.2.2.2.2.2.2.2.2.1, mk.2.2.2.2.2.2.2.2.2) mg mt mc T)), 0, 0)
    obtain rfl := Option.some.inj hf
    exact hB _ rfl _
  · show sxWP sc cl Q 222 (17, [some (.ref 59), some (.long v1), none, some (.long s.1), none, some (.int s.2.1)], [], (cW nw kp im ol sn sr tp (mW (s.2.2, mk.2.1, mk.2.2.1, mk.2.2.2.1, mk.2.2.2.2.1, mk.2.2.2.2.2.1, mk.2.2.2.2.2.2.1, mk.2.2.2.2.2.2.2.1, mk.2.2.2.2.2.2.2.2.1, mk.2.2.2.2.2.2.2.2.2) mg mt mc T)), 0, 0)
    obtain ⟨q2, hq2, hf⟩ := bnd hf
    refine stp hm 10 (M_isAsSeen_ok hE hq2 ?_)
    show sxWP sc cl Q 222 (32, [some (.ref 59), some (.long v1), none, some (.long s.1), none, some (.int s.2.1)], [.int q2, .long s.1], (cW nw kp im ol sn sr tp (mW (v1 ^^^ ((1:Int64) <<< (s.2.1.toInt64 &&& 63)), mk.2.1, mk.2.2.1, mk.2.2.2.1, mk.2.2.2.2.1, mk.2.2.2.2.2.1, mk.2.2.2.2.2.2.1, mk.2.2.2.2.2.2.2.1, mk.2.2.2.2.2.2.2.2.1, mk.2.2.2.2.2.2.2.2.2) mg mt mc T)), 0, 0)
    have m3 : ∀ (m3_0 : Int64), m3_0 = (if q2 = (0:Int32) then (0:Int64) else ((1:Int64) <<< (s.2.1.toInt64 &&& 63))) → sxWP sc cl Q 222 (43, [some (.ref 59), some (.long v1), none, some (.long s.1), none, some (.int s.2.1)], [.long m3_0, .long s.1], (cW nw kp im ol sn sr tp (mW (v1 ^^^ ((1:Int64) <<< (s.2.1.toInt64 &&& 63)), mk.2.1, mk.2.2.1, mk.2.2.2.1, mk.2.2.2.2.1, mk.2.2.2.2.2.1, mk.2.2.2.2.2.2.1, mk.2.2.2.2.2.2.2.1, mk.2.2.2.2.2.2.2.2.1, mk.2.2.2.2.2.2.2.2.2) mg mt mc T)), 0, 0) := by
      intro m3_0 em3_0
      subst em3_0
      obtain rfl := Option.some.inj hf
      refine stp hm 4 (?_ : sxWP sc cl Q 222 (10, [some (.ref 59), some (.long v1), none, some (.long (s.1 ||| (if q2 = (0:Int32) then (0:Int64) else ((1:Int64) <<< (s.2.1.toInt64 &&& 63))))), none, some (.int (s.2.1 + (1:Int32)))], [], (cW nw kp im ol sn sr tp (mW (v1 ^^^ ((1:Int64) <<< (s.2.1.toInt64 &&& 63)), mk.2.1, mk.2.2.1, mk.2.2.2.1, mk.2.2.2.2.1, mk.2.2.2.2.2.1, mk.2.2.2.2.2.2.1, mk.2.2.2.2.2.2.2.1, mk.2.2.2.2.2.2.2.2.1, mk.2.2.2.2.2.2.2.2.2) mg mt mc T)), 0, 0))
      exact hA _ rfl
    refine stp hm 1 (bs (c := q2 = (0:Int32)) (fun c4 => ?_) (fun c4 => ?_))
    · have c4 : q2 = (0:Int32) := c4
      refine stp hm 1 (?_ : sxWP sc cl Q 222 (43, [some (.ref 59), some (.long v1), none, some (.long s.1), none, some (.int s.2.1)], [.long (0:Int64), .long s.1], (cW nw kp im ol sn sr tp (mW (v1 ^^^ ((1:Int64) <<< (s.2.1.toInt64 &&& 63)), mk.2.1, mk.2.2.1, mk.2.2.2.1, mk.2.2.2.2.1, mk.2.2.2.2.2.1, mk.2.2.2.2.2.2.1, mk.2.2.2.2.2.2.2.1, mk.2.2.2.2.2.2.2.2.1, mk.2.2.2.2.2.2.2.2.2) mg mt mc T)), 0, 0))
      exact m3 _ (by rw [if_pos c4])
    · have c4 : ¬ q2 = (0:Int32) := c4
      refine stp hm 4 (?_ : sxWP sc cl Q 222 (43, [some (.ref 59), some (.long v1), none, some (.long s.1), none, some (.int s.2.1)], [.long ((1:Int64) <<< (s.2.1.toInt64 &&& 63)), .long s.1], (cW nw kp im ol sn sr tp (mW (v1 ^^^ ((1:Int64) <<< (s.2.1.toInt64 &&& 63)), mk.2.1, mk.2.2.1, mk.2.2.2.1, mk.2.2.2.2.1, mk.2.2.2.2.2.1, mk.2.2.2.2.2.2.1, mk.2.2.2.2.2.2.2.1, mk.2.2.2.2.2.2.2.2.1, mk.2.2.2.2.2.2.2.2.2) mg mt mc T)), 0, 0))
      exact m3 _ (by rw [if_neg c4])
set_option maxRecDepth 10000 in
theorem M_fits_ok  {q : (Int64 × Int64)} (hc : call = sxE sc (d + 5)) (hf : M_fits mk.1 mk.2.2.1 = some q) (h : Q (some (.long q.1)) (cW nw kp im ol sn sr tp (mW (q.2, mk.2.1, mk.2.2.1, mk.2.2.2.1, mk.2.2.2.2.1, mk.2.2.2.2.2.1, mk.2.2.2.2.2.2.1, mk.2.2.2.2.2.2.2.1, mk.2.2.2.2.2.2.2.2.1, mk.2.2.2.2.2.2.2.2.2) mg mt mc T))) : call 222 [.ref 59] (cW nw kp im ol sn sr tp (mW mk mg mt mc T)) Q := by
  refine ent hc rfl (fun cl hE hm => ?_)
  unfold M_fits at hf
  obtain ⟨w1, hw1, hf⟩ := bnd hf
  refine stp hm 7 (?_ : sxWP sc cl Q 222 (10, [some (.ref 59), some (.long mk.1), none, some (.long (0:Int64)), none, some (.int (0:Int32))], [], (cW nw kp im ol sn sr tp (mW mk mg mt mc T)), 0, 0))
  refine M_fits_l10 hE hm _ _ _ hw1 ?_
  intro w1_z5
  show sxWP sc cl Q 222 (51, [some (.ref 59), some (.long mk.1), none, some (.long w1.1), none, w1_z5], [], (cW nw kp im ol sn sr tp (mW (w1.2, mk.2.1, mk.2.2.1, mk.2.2.2.1, mk.2.2.2.2.1, mk.2.2.2.2.2.1, mk.2.2.2.2.2.2.1, mk.2.2.2.2.2.2.2.1, mk.2.2.2.2.2.2.2.2.1, mk.2.2.2.2.2.2.2.2.2) mg mt mc T)), 0, 0)
  obtain rfl := Option.some.inj hf
  refine stp hm 5 ?_
  exact h

def X_commonDivisor_s7   (s : (Int32 × Int32 × Int32)) : Option ((Int32 × Int32 × Int32) ⊕ Int32) := if (100:Int32) ≤ s.2.2 then (some (Sum.inr s.1)) else (if s.2.1 = (0:Int32) then (some (Sum.inr s.1)) else (grd (decide (¬ s.2.1 = 0)) (some (Sum.inl (s.2.1, s.1 - s.1 / s.2.1 * s.2.1, s.2.2 + (1:Int32))))))
def X_commonDivisor (v0 : Int32) (v1 : Int32)  : Option Int32 := Option.bind (wh (X_commonDivisor_s7) FU (v0, v1, (0:Int32))) (fun w1 => some w1)
set_option maxRecDepth 10000 in
theorem X_commonDivisor_l7    (hE : cl = sxE sc (d + 0)) (hm : CallMono cl) : ∀ (n : Nat) (s : (Int32 × Int32 × Int32)) (r : Int32), wh (X_commonDivisor_s7) n s = some r → (∀ (z0 z1 z3 z4 z5 : Option Value), sxWP sc cl Q 120 (34, [z0, z1, some (.int r), z3, z4, z5], [], (cW nw kp im ol sn sr tp (mW mk mg mt mc T)), 0, 0)) → ∀ (z0 z1 z5 : Option Value), sxWP sc cl Q 120 (7, [z0, z1, some (.int s.1), some (.int s.2.1), some (.int s.2.2), z5], [], (cW nw kp im ol sn sr tp (mW mk mg mt mc T)), 0, 0) := by
  refine wh_run (A := fun (s : (Int32 × Int32 × Int32)) => ∀ (z0 z1 z5 : Option Value), sxWP sc cl Q 120 (7, [z0, z1, some (.int s.1), some (.int s.2.1), some (.int s.2.2), z5], [], (cW nw kp im ol sn sr tp (mW mk mg mt mc T)), 0, 0)) (B := fun (r : Int32) => ∀ (z0 z1 z3 z4 z5 : Option Value), sxWP sc cl Q 120 (34, [z0, z1, some (.int r), z3, z4, z5], [], (cW nw kp im ol sn sr tp (mW mk mg mt mc T)), 0, 0)) (fun s x hf hA hB => ?_)
  intro z0 z1 z5
  unfold X_commonDivisor_s7 at hf
  refine stp hm 3 (br hf (fun c1 hf => ?_) (fun c1 hf => ?_))
  · show sxWP sc cl Q 120 (34, [z0, z1, some (.int s.1), some (.int s.2.1), some (.int s.2.2), z5], [], (cW nw kp im ol sn sr tp (mW mk mg mt mc T)), 0, 0)
    obtain rfl := Option.some.inj hf
    exact hB _ rfl _ _ _ _ _
  · show sxWP sc cl Q 120 (14, [z0, z1, some (.int s.1), some (.int s.2.1), some (.int s.2.2), z5], [], (cW nw kp im ol sn sr tp (mW mk mg mt mc T)), 0, 0)
    refine stp hm 2 (br hf (fun c2 hf => ?_) (fun c2 hf => ?_))
    · show sxWP sc cl Q 120 (34, [z0, z1, some (.int s.1), some (.int s.2.1), some (.int s.2.2), z5], [], (cW nw kp im ol sn sr tp (mW mk mg mt mc T)), 0, 0)
      obtain rfl := Option.some.inj hf
      exact hB _ rfl _ _ _ _ _
    · show sxWP sc cl Q 120 (18, [z0, z1, some (.int s.1), some (.int s.2.1), some (.int s.2.2), z5], [], (cW nw kp im ol sn sr tp (mW mk mg mt mc T)), 0, 0)
      obtain ⟨g3, hf⟩ := grd_e hf
      refine stp hm 3 (And.intro (of_decide_eq_true g3) (?_ : sxWP sc cl Q 120 (21, [z0, z1, some (.int s.1), some (.int s.2.1), some (.int s.2.2), z5], [.int (s.1 - s.1 / s.2.1 * s.2.1)], (cW nw kp im ol sn sr tp (mW mk mg mt mc T)), 0, 0)))
      obtain rfl := Option.some.inj hf
      refine stp hm 7 (?_ : sxWP sc cl Q 120 (7, [z0, (sxc2 z1), some (.int s.2.1), some (.int (s.1 - s.1 / s.2.1 * s.2.1)), some (.int (s.2.2 + (1:Int32))), some (.int (s.1 - s.1 / s.2.1 * s.2.1))], [], (cW nw kp im ol sn sr tp (mW mk mg mt mc T)), 0, 0))
      exact hA _ rfl _ _ _
set_option maxRecDepth 10000 in
theorem X_commonDivisor_ok {v0 : Int32} {v1 : Int32} {q : Int32} (hc : call = sxE sc (d + 1)) (hf : X_commonDivisor v0 v1 = some q) (h : Q (some (.int q)) (cW nw kp im ol sn sr tp (mW mk mg mt mc T))) : call 120 [.int v0, .int v1] (cW nw kp im ol sn sr tp (mW mk mg mt mc T)) Q := by
  refine ent hc rfl (fun cl hE hm => ?_)
  unfold X_commonDivisor at hf
  obtain ⟨w1, hw1, hf⟩ := bnd hf
  refine stp hm 6 (?_ : sxWP sc cl Q 120 (7, [some (.int v0), some (.int v1), some (.int v0), some (.int v1), some (.int (0:Int32)), none], [], (cW nw kp im ol sn sr tp (mW mk mg mt mc T)), 0, 0))
  refine X_commonDivisor_l7 hE hm _ _ _ hw1 ?_ _ _ _
  intro w1_z0 w1_z1 w1_z3 w1_z4 w1_z5
  show sxWP sc cl Q 120 (34, [w1_z0, w1_z1, some (.int w1), w1_z3, w1_z4, w1_z5], [], (cW nw kp im ol sn sr tp (mW mk mg mt mc T)), 0, 0)
  obtain rfl := Option.some.inj hf
  refine stp hm 2 ?_
  exact h
end PT
