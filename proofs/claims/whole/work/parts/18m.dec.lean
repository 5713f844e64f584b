/-! methods as functions (printed by wip/whole/dec) -/
section PT
variable {sc : sxS} {d : Nat} {Q : sxR} {hp : sxH} {call cl : sxX} {nw kp : tSt} {im : Int32} {ol : tOl} {sn : tSn} {sr : tSc} {tp : Nat → tTp} {mk : tMk} {mg : tMg} {mt : tMt} {mc : tMc} {T : sxH}

def M_wordTold (v1 : Int32) (mrg : Int64) (gle : Int32) (gsu : Int32) (gma : (Nat → Int32)) (gpi : (Nat → Int32)) (gst : (Nat → Int32)) (ghe : (Nat → Int32)) (gow : (Nat → Int32)) : Option (Int32 × Int32 × Int32 × (Nat → Int32) × (Nat → Int32) × (Nat → Int32) × (Nat → Int32) × (Nat → Int32)) := Option.bind (M_isSimple mrg gma gpi) (fun q1 => if q1.1 = (0:Int32) then (some ((-5:Int32), gle, gsu, q1.2.1, q1.2.2, gst, ghe, gow)) else (Option.bind (M_writesWord mrg gst ghe gow) (fun q3 => some (if v1 = (0:Int32) then q3.1 else (q3.2.1 + (1000:Int32)), q3.1, q3.2.1, q1.2.1, q1.2.2, q3.2.2.1, q3.2.2.2.1, q3.2.2.2.2))))
set_option maxRecDepth 10000 in
theorem M_wordTold_ok {v1 : Int32} {q : (Int32 × Int32 × Int32 × (Nat → Int32) × (Nat → Int32) × (Nat → Int32) × (Nat → Int32) × (Nat → Int32))} (hc : call = sxE sc (d + 5)) (hf : M_wordTold v1 mk.1 mg.2.2.1 mg.2.2.2.1 mg.1 mg.2.1 mg.2.2.2.2.1 mg.2.2.2.2.2.1 mg.2.2.2.2.2.2.1 = some q) (h : Q (some (.int q.1)) (cW nw kp im ol sn sr tp (mW mk (q.2.2.2.1, q.2.2.2.2.1, q.2.1, q.2.2.1, q.2.2.2.2.2.1, q.2.2.2.2.2.2.1, q.2.2.2.2.2.2.2, mg.2.2.2.2.2.2.2.1, mg.2.2.2.2.2.2.2.2.1, mg.2.2.2.2.2.2.2.2.2.1, mg.2.2.2.2.2.2.2.2.2.2.1, mg.2.2.2.2.2.2.2.2.2.2.2.1, mg.2.2.2.2.2.2.2.2.2.2.2.2) mt mc T))) : call 201 [.ref 59, .int v1] (cW nw kp im ol sn sr tp (mW mk mg mt mc T)) Q := by
  refine ent hc rfl (fun cl hE hm => ?_)
  unfold M_wordTold at hf
  obtain ⟨q1, hq1, hf⟩ := bnd hf
  refine stp hm 2 (M_isSimple_ok hE hq1 ?_)
  show sxWP sc cl Q 201 (4, [some (.ref 59), some (.int v1)], [.int q1.1], (cW nw kp im ol sn sr tp (mW mk (q1.2.1, q1.2.2, mg.2.2.1, mg.2.2.2.1, mg.2.2.2.2.1, mg.2.2.2.2.2.1, mg.2.2.2.2.2.2.1, mg.2.2.2.2.2.2.2.1, mg.2.2.2.2.2.2.2.2.1, mg.2.2.2.2.2.2.2.2.2.1, mg.2.2.2.2.2.2.2.2.2.2.1, mg.2.2.2.2.2.2.2.2.2.2.2.1, mg.2.2.2.2.2.2.2.2.2.2.2.2) mt mc T)), 0, 0)
  refine stp hm 1 (brn hf (fun c2 hf => ?_) (fun c2 hf => ?_))
  · show sxWP sc cl Q 201 (10, [some (.ref 59), some (.int v1)], [], (cW nw kp im ol sn sr tp (mW mk (q1.2.1, q1.2.2, mg.2.2.1, mg.2.2.2.1, mg.2.2.2.2.1, mg.2.2.2.2.2.1, mg.2.2.2.2.2.2.1, mg.2.2.2.2.2.2.2.1, mg.2.2.2.2.2.2.2.2.1, mg.2.2.2.2.2.2.2.2.2.1, mg.2.2.2.2.2.2.2.2.2.2.1, mg.2.2.2.2.2.2.2.2.2.2.2.1, mg.2.2.2.2.2.2.2.2.2.2.2.2) mt mc T)), 0, 0)
    obtain ⟨q3, hq3, hf⟩ := bnd hf
    refine stp hm 2 (M_writesWord_ok hE hq3 ?_)
    show sxWP sc cl Q 201 (14, [some (.ref 59), some (.int v1)], [], (cW nw kp im ol sn sr tp (mW mk (q1.2.1, q1.2.2, q3.1, q3.2.1, q3.2.2.1, q3.2.2.2.1, q3.2.2.2.2, mg.2.2.2.2.2.2.2.1, mg.2.2.2.2.2.2.2.2.1, mg.2.2.2.2.2.2.2.2.2.1, mg.2.2.2.2.2.2.2.2.2.2.1, mg.2.2.2.2.2.2.2.2.2.2.2.1, mg.2.2.2.2.2.2.2.2.2.2.2.2) mt mc T)), 0, 0)
    have m4 : ∀ (m4_0 : Int32), m4_0 = (if v1 = (0:Int32) then q3.1 else (q3.2.1 + (1000:Int32))) → sxWP sc cl Q 201 (33, [some (.ref 59), some (.int v1)], [.int m4_0], (cW nw kp im ol sn sr tp (mW mk (q1.2.1, q1.2.2, q3.1, q3.2.1, q3.2.2.1, q3.2.2.2.1, q3.2.2.2.2, mg.2.2.2.2.2.2.2.1, mg.2.2.2.2.2.2.2.2.1, mg.2.2.2.2.2.2.2.2.2.1, mg.2.2.2.2.2.2.2.2.2.2.1, mg.2.2.2.2.2.2.2.2.2.2.2.1, mg.2.2.2.2.2.2.2.2.2.2.2.2) mt mc T)), 0, 0) := by
      intro m4_0 em4_0
      subst em4_0
      obtain rfl := Option.some.inj hf
      refine stp hm 1 ?_
      exact h
    refine stp hm 2 (bs (c := v1 = (0:Int32)) (fun c5 => ?_) (fun c5 => ?_))
    · have c5 : v1 = (0:Int32) := c5
      refine stp hm 2 (?_ : sxWP sc cl Q 201 (33, [some (.ref 59), some (.int v1)], [.int q3.1], (cW nw kp im ol sn sr tp (mW mk (q1.2.1, q1.2.2, q3.1, q3.2.1, q3.2.2.1, q3.2.2.2.1, q3.2.2.2.2, mg.2.2.2.2.2.2.2.1, mg.2.2.2.2.2.2.2.2.1, mg.2.2.2.2.2.2.2.2.2.1, mg.2.2.2.2.2.2.2.2.2.2.1, mg.2.2.2.2.2.2.2.2.2.2.2.1, mg.2.2.2.2.2.2.2.2.2.2.2.2) mt mc T)), 0, 0))
      exact m4 _ (by rw [if_pos c5])
    · have c5 : ¬ v1 = (0:Int32) := c5
      refine stp hm 5 (?_ : sxWP sc cl Q 201 (33, [some (.ref 59), some (.int v1)], [.int (q3.2.1 + (1000:Int32))], (cW nw kp im ol sn sr tp (mW mk (q1.2.1, q1.2.2, q3.1, q3.2.1, q3.2.2.1, q3.2.2.2.1, q3.2.2.2.2, mg.2.2.2.2.2.2.2.1, mg.2.2.2.2.2.2.2.2.1, mg.2.2.2.2.2.2.2.2.2.1, mg.2.2.2.2.2.2.2.2.2.2.1, mg.2.2.2.2.2.2.2.2.2.2.2.1, mg.2.2.2.2.2.2.2.2.2.2.2.2) mt mc T)), 0, 0))
      exact m4 _ (by rw [if_neg c5])
  · show sxWP sc cl Q 201 (7, [some (.ref 59), some (.int v1)], [], (cW nw kp im ol sn sr tp (mW mk (q1.2.1, q1.2.2, mg.2.2.1, mg.2.2.2.1, mg.2.2.2.2.1, mg.2.2.2.2.2.1, mg.2.2.2.2.2.2.1, mg.2.2.2.2.2.2.2.1, mg.2.2.2.2.2.2.2.2.1, mg.2.2.2.2.2.2.2.2.2.1, mg.2.2.2.2.2.2.2.2.2.2.1, mg.2.2.2.2.2.2.2.2.2.2.2.1, mg.2.2.2.2.2.2.2.2.2.2.2.2) mt mc T)), 0, 0)
    obtain rfl := Option.some.inj hf
    refine stp hm 2 ?_
    exact h

def M_edges_j106  (v1 : Int32) (v2 : Int32) : Option ((Int32 × Int32) ⊕ Int32) := some (Sum.inl (v1, v2 + (1:Int32)))
def M_edges_s4   (mrg : Int64) (s : (Int32 × Int32)) : Option ((Int32 × Int32) ⊕ Int32) := if (36:Int32) ≤ s.2 then (some (Sum.inr s.1)) else (if (M_has s.2 mrg) = (0:Int32) then (M_edges_j106 s.1 s.2) else (M_edges_j106 (s.1 + ((((if (M_hasAt ((s.2 / (6:Int32)) - (1:Int32)) (s.2 - s.2 / (6:Int32) * (6:Int32)) mrg) = (0:Int32) then (1:Int32) else (0:Int32)) + (if (M_hasAt ((s.2 / (6:Int32)) + (1:Int32)) (s.2 - s.2 / (6:Int32) * (6:Int32)) mrg) = (0:Int32) then (1:Int32) else (0:Int32))) + (if (M_hasAt (s.2 / (6:Int32)) ((s.2 - s.2 / (6:Int32) * (6:Int32)) - (1:Int32)) mrg) = (0:Int32) then (1:Int32) else (0:Int32))) + (if (M_hasAt (s.2 / (6:Int32)) ((s.2 - s.2 / (6:Int32) * (6:Int32)) + (1:Int32)) mrg) = (0:Int32) then (1:Int32) else (0:Int32)))) s.2))
def M_edges  (mrg : Int64) : Option Int32 := Option.bind (wh (M_edges_s4 mrg) FU ((0:Int32), (0:Int32))) (fun w1 => some w1)
set_option maxRecDepth 10000 in
theorem M_edges_l4    (hE : cl = sxE sc (d + 2)) (hm : CallMono cl) : ∀ (n : Nat) (s : (Int32 × Int32)) (r : Int32), wh (M_edges_s4 mk.1) n s = some r → (∀ (z0 z2 z3 z4 : Option Value), sxWP sc cl Q 148 (112, [z0, some (.int r), z2, z3, z4], [], (cW nw kp im ol sn sr tp (mW mk mg mt mc T)), 0, 0)) → ∀ (z3 z4 : Option Value), sxWP sc cl Q 148 (4, [some (.ref 59), some (.int s.1), some (.int s.2), z3, z4], [], (cW nw kp im ol sn sr tp (mW mk mg mt mc T)), 0, 0) := by
  refine wh_run (A := fun (s : (Int32 × Int32)) => ∀ (z3 z4 : Option Value), sxWP sc cl Q 148 (4, [some (.ref 59), some (.int s.1), some (.int s.2), z3, z4], [], (cW nw kp im ol sn sr tp (mW mk mg mt mc T)), 0, 0)) (B := fun (r : Int32) => ∀ (z0 z2 z3 z4 : Option Value), sxWP sc cl Q 148 (112, [z0, some (.int r), z2, z3, z4], [], (cW nw kp im ol sn sr tp (mW mk mg mt mc T)), 0, 0)) (fun s x hf hA hB => ?_)
  intro z3 z4
  have J106 : ∀ (v1 : Int32) (v2 : Int32) (z3 : Option Value) (z4 : Option Value), M_edges_j106 v1 v2 = some x → sxWP sc cl Q 148 (106, [some (.ref 59), some (.int v1), some (.int v2), z3, z4], [], (cW nw kp im ol sn sr tp (mW mk mg mt mc T)), 0, 0) := by
    intro v1 v2 z3 z4 hf
    unfold M_edges_j106 at hf
    obtain rfl := Option.some.inj hf
    refine stp hm 2 (?_ : sxWP sc cl Q 148 (4, [some (.ref 59), some (.int v1), some (.int (v2 + (1:Int32))), z3, z4], [], (cW nw kp im ol sn sr tp (mW mk mg mt mc T)), 0, 0))
    exact hA _ rfl _ _
  unfold M_edges_s4 at hf
  refine stp hm 3 (br hf (fun c1 hf => ?_) (fun c1 hf => ?_))
  · show sxWP sc cl Q 148 (112, [some (.ref 59), some (.int s.1), some (.int s.2), z3, z4], [], (cW nw kp im ol sn sr tp (mW mk mg mt mc T)), 0, 0)
    obtain rfl := Option.some.inj hf
    exact hB _ rfl _ _ _ _
  · show sxWP sc cl Q 148 (10, [some (.ref 59), some (.int s.1), some (.int s.2), z3, z4], [], (cW nw kp im ol sn sr tp (mW mk mg mt mc T)), 0, 0)
    refine stp hm 3 (M_has_ok hE rfl ?_)
    show sxWP sc cl Q 148 (15, [some (.ref 59), some (.int s.1), some (.int s.2), z3, z4], [.int (M_has s.2 mk.1)], (cW nw kp im ol sn sr tp (mW mk mg mt mc T)), 0, 0)
    refine stp hm 1 (brn hf (fun c2 hf => ?_) (fun c2 hf => ?_))
    · show sxWP sc cl Q 148 (21, [some (.ref 59), some (.int s.1), some (.int s.2), z3, z4], [], (cW nw kp im ol sn sr tp (mW mk mg mt mc T)), 0, 0)
      refine stp hm 3 (And.intro (by decide) (?_ : sxWP sc cl Q 148 (25, [some (.ref 59), some (.int s.1), some (.int s.2), z3, z4], [.int (s.2 / (6:Int32))], (cW nw kp im ol sn sr tp (mW mk mg mt mc T)), 0, 0)))
      refine stp hm 4 (And.intro (by decide) (?_ : sxWP sc cl Q 148 (30, [some (.ref 59), some (.int s.1), some (.int s.2), some (.int (s.2 / (6:Int32))), z4], [.int (s.2 - s.2 / (6:Int32) * (6:Int32))], (cW nw kp im ol sn sr tp (mW mk mg mt mc T)), 0, 0)))
      refine stp hm 8 (M_hasAt_ok hE rfl ?_)
      show sxWP sc cl Q 148 (42, [some (.ref 59), some (.int s.1), some (.int s.2), some (.int (s.2 / (6:Int32))), some (.int (s.2 - s.2 / (6:Int32) * (6:Int32)))], [.int (M_hasAt ((s.2 / (6:Int32)) - (1:Int32)) (s.2 - s.2 / (6:Int32) * (6:Int32)) mk.1), .int s.1], (cW nw kp im ol sn sr tp (mW mk mg mt mc T)), 0, 0)
      have m3 : ∀ (m3_0 : Int32), m3_0 = (if (M_hasAt ((s.2 / (6:Int32)) - (1:Int32)) (s.2 - s.2 / (6:Int32) * (6:Int32)) mk.1) = (0:Int32) then (1:Int32) else (0:Int32)) → sxWP sc cl Q 148 (50, [some (.ref 59), some (.int s.1), some (.int s.2), some (.int (s.2 / (6:Int32))), some (.int (s.2 - s.2 / (6:Int32) * (6:Int32)))], [.int m3_0, .int s.1], (cW nw kp im ol sn sr tp (mW mk mg mt mc T)), 0, 0) := by
        intro m3_0 em3_0
        subst em3_0
        refine stp hm 6 (M_hasAt_ok hE rfl ?_)
        show sxWP sc cl Q 148 (59, [some (.ref 59), some (.int s.1), some (.int s.2), some (.int (s.2 / (6:Int32))), some (.int (s.2 - s.2 / (6:Int32) * (6:Int32)))], [.int (M_hasAt ((s.2 / (6:Int32)) + (1:Int32)) (s.2 - s.2 / (6:Int32) * (6:Int32)) mk.1), .int (if (M_hasAt ((s.2 / (6:Int32)) - (1:Int32)) (s.2 - s.2 / (6:Int32) * (6:Int32)) mk.1) = (0:Int32) then (1:Int32) else (0:Int32)), .int s.1], (cW nw kp im ol sn sr tp (mW mk mg mt mc T)), 0, 0)
        have m4 : ∀ (m4_0 : Int32), m4_0 = (if (M_hasAt ((s.2 / (6:Int32)) + (1:Int32)) (s.2 - s.2 / (6:Int32) * (6:Int32)) mk.1) = (0:Int32) then (1:Int32) else (0:Int32)) → sxWP sc cl Q 148 (67, [some (.ref 59), some (.int s.1), some (.int s.2), some (.int (s.2 / (6:Int32))), some (.int (s.2 - s.2 / (6:Int32) * (6:Int32)))], [.int m4_0, .int (if (M_hasAt ((s.2 / (6:Int32)) - (1:Int32)) (s.2 - s.2 / (6:Int32) * (6:Int32)) mk.1) = (0:Int32) then (1:Int32) else (0:Int32)), .int s.1], (cW nw kp im ol sn sr tp (mW mk mg mt mc T)), 0, 0) := by
          intro m4_0 em4_0
          subst em4_0
          refine stp hm 7 (M_hasAt_ok hE rfl ?_)
          show sxWP sc cl Q 148 (77, [some (.ref 59), some (.int s.1), some (.int s.2), some (.int (s.2 / (6:Int32))), some (.int (s.2 - s.2 / (6:Int32) * (6:Int32)))], [.int (M_hasAt (s.2 / (6:Int32)) ((s.2 - s.2 / (6:Int32) * (6:Int32)) - (1:Int32)) mk.1), .int ((if (M_hasAt ((s.2 / (6:Int32)) - (1:Int32)) (s.2 - s.2 / (6:Int32) * (6:Int32)) mk.1) = (0:Int32) then (1:Int32) else (0:Int32)) + (if (M_hasAt ((s.2 / (6:Int32)) + (1:Int32)) (s.2 - s.2 / (6:Int32) * (6:Int32)) mk.1) = (0:Int32) then (1:Int32) else (0:Int32))), .int s.1], (cW nw kp im ol sn sr tp (mW mk mg mt mc T)), 0, 0)
          have m5 : ∀ (m5_0 : Int32), m5_0 = (if (M_hasAt (s.2 / (6:Int32)) ((s.2 - s.2 / (6:Int32) * (6:Int32)) - (1:Int32)) mk.1) = (0:Int32) then (1:Int32) else (0:Int32)) → sxWP sc cl Q 148 (85, [some (.ref 59), some (.int s.1), some (.int s.2), some (.int (s.2 / (6:Int32))), some (.int (s.2 - s.2 / (6:Int32) * (6:Int32)))], [.int m5_0, .int ((if (M_hasAt ((s.2 / (6:Int32)) - (1:Int32)) (s.2 - s.2 / (6:Int32) * (6:Int32)) mk.1) = (0:Int32) then (1:Int32) else (0:Int32)) + (if (M_hasAt ((s.2 / (6:Int32)) + (1:Int32)) (s.2 - s.2 / (6:Int32) * (6:Int32)) mk.1) = (0:Int32) then (1:Int32) else (0:Int32))), .int s.1], (cW nw kp im ol sn sr tp (mW mk mg mt mc T)), 0, 0) := by
            intro m5_0 em5_0
            subst em5_0
            refine stp hm 7 (M_hasAt_ok hE rfl ?_)
            show sxWP sc cl Q 148 (95, [some (.ref 59), some (.int s.1), some (.int s.2), some (.int (s.2 / (6:Int32))), some (.int (s.2 - s.2 / (6:Int32) * (6:Int32)))], [.int (M_hasAt (s.2 / (6:Int32)) ((s.2 - s.2 / (6:Int32) * (6:Int32)) + (1:Int32)) mk.1), .int (((if (M_hasAt ((s.2 / (6:Int32)) - (1:Int32)) (s.2 - s.2 / (6:Int32) * (6:Int32)) mk.1) = (0:Int32) then (1:Int32) else (0:Int32)) + (if (M_hasAt ((s.2 / (6:Int32)) + (1:Int32)) (s.2 - s.2 / (6:Int32) * (6:Int32)) mk.1) = (0:Int32) then (1:Int32) else (0:Int32))) + (if (M_hasAt (s.2 / (6:Int32)) ((s.2 - s.2 / (6:Int32) * (6:Int32)) - (1:Int32)) mk.1) = (0:Int32) then (1:Int32) else (0:Int32))), .int s.1], (cW nw kp im ol sn sr tp (mW mk mg mt mc T)), 0, 0)
            have m6 : ∀ (m6_0 : Int32), m6_0 = (if (M_hasAt (s.2 / (6:Int32)) ((s.2 - s.2 / (6:Int32) * (6:Int32)) + (1:Int32)) mk.1) = (0:Int32) then (1:Int32) else (0:Int32)) → sxWP sc cl Q 148 (103, [some (.ref 59), some (.int s.1), some (.int s.2), some (.int (s.2 / (6:Int32))), some (.int (s.2 - s.2 / (6:Int32) * (6:Int32)))], [.int m6_0, .int (((if (M_hasAt ((s.2 / (6:Int32)) - (1:Int32)) (s.2 - s.2 / (6:Int32) * (6:Int32)) mk.1) = (0:Int32) then (1:Int32) else (0:Int32)) + (if (M_hasAt ((s.2 / (6:Int32)) + (1:Int32)) (s.2 - s.2 / (6:Int32) * (6:Int32)) mk.1) = (0:Int32) then (1:Int32) else (0:Int32))) + (if (M_hasAt (s.2 / (6:Int32)) ((s.2 - s.2 / (6:Int32) * (6:Int32)) - (1:Int32)) mk.1) = (0:Int32) then (1:Int32) else (0:Int32))), .int s.1], (cW nw kp im ol sn sr tp (mW mk mg mt mc T)), 0, 0) := by
              intro m6_0 em6_0
              subst em6_0
              refine stp hm 3 (?_ : sxWP sc cl Q 148 (106, [some (.ref 59), some (.int (s.1 + ((((if (M_hasAt ((s.2 / (6:Int32)) - (1:Int32)) (s.2 - s.2 / (6:Int32) * (6:Int32)) mk.1) = (0:Int32) then (1:Int32) else (0:Int32)) + (if (M_hasAt ((s.2 / (6:Int32)) + (1:Int32)) (s.2 - s.2 / (6:Int32) * (6:Int32)) mk.1) = (0:Int32) then (1:Int32) else (0:Int32))) + (if (M_hasAt (s.2 / (6:Int32)) ((s.2 - s.2 / (6:Int32) * (6:Int32)) - (1:Int32)) mk.1) = (0:Int32) then (1:Int32) else (0:Int32))) + (if (M_hasAt (s.2 / (6:Int32)) ((s.2 - s.2 / (6:Int32) * (6:Int32)) + (1:Int32)) mk.1) = (0:Int32) then (1:Int32) else (0:Int32))))), some (.int s.2), some (.int (s.2 / (6:Int32))), some (.int (s.2 - s.2 / (6:Int32) * (6:Int32)))], [], (cW nw kp im ol sn sr tp (mW mk mg mt mc T)), 0, 0))
              exact J106 _ _ _ _ hf
            refine stp hm 1 (bs (c := (M_hasAt (s.2 / (6:Int32)) ((s.2 - s.2 / (6:Int32) * (6:Int32)) + (1:Int32)) mk.1) = (0:Int32)) (fun c7 => ?_) (fun c7 => ?_))
            · have c7 : (M_hasAt (s.2 / (6:Int32)) ((s.2 - s.2 / (6:Int32) * (6:Int32)) + (1:Int32)) mk.1) = (0:Int32) := c7
              refine stp hm 1 (?_ : sxWP sc cl Q 148 (103, [some (.ref 59), some (.int s.1), some (.int s.2), some (.int (s.2 / (6:Int32))), some (.int (s.2 - s.2 / (6:Int32) * (6:Int32)))], [.int (1:Int32), .int (((if (M_hasAt ((s.2 / (6:Int32)) - (1:Int32)) (s.2 - s.2 / (6:Int32) * (6:Int32)) mk.1) = (0:Int32) then (1:Int32) else (0:Int32)) + (if (M_hasAt ((s.2 / (6:Int32)) + (1:Int32)) (s.2 - s.2 / (6:Int32) * (6:Int32)) mk.1) = (0:Int32) then (1:Int32) else (0:Int32))) + (if (M_hasAt (s.2 / (6:Int32)) ((s.2 - s.2 / (6:Int32) * (6:Int32)) - (1:Int32)) mk.1) = (0:Int32) then (1:Int32) else (0:Int32))), .int s.1], (cW nw kp im ol sn sr tp (mW mk mg mt mc T)), 0, 0))
              exact m6 _ (by rw [if_pos c7])
            · have c7 : ¬ (M_hasAt (s.2 / (6:Int32)) ((s.2 - s.2 / (6:Int32) * (6:Int32)) + (1:Int32)) mk.1) = (0:Int32) := c7
              refine stp hm 2 (?_ : sxWP sc cl Q 148 (103, [some (.ref 59), some (.int s.1), some (.int s.2), some (.int (s.2 / (6:Int32))), some (.int (s.2 - s.2 / (6:Int32) * (6:Int32)))], [.int (0:Int32), .int (((if (M_hasAt ((s.2 / (6:Int32)) - (1:Int32)) (s.2 - s.2 / (6:Int32) * (6:Int32)) mk.1) = (0:Int32) then (1:Int32) else (0:Int32)) + (if (M_hasAt ((s.2 / (6:Int32)) + (1:Int32)) (s.2 - s.2 / (6:Int32) * (6:Int32)) mk.1) = (0:Int32) then (1:Int32) else (0:Int32))) + (if (M_hasAt (s.2 / (6:Int32)) ((s.2 - s.2 / (6:Int32) * (6:Int32)) - (1:Int32)) mk.1) = (0:Int32) then (1:Int32) else (0:Int32))), .int s.1], (cW nw kp im ol sn sr tp (mW mk mg mt mc T)), 0, 0))
              exact m6 _ (by rw [if_neg c7])
          refine stp hm 1 (bs (c := (M_hasAt (s.2 / (6:Int32)) ((s.2 - s.2 / (6:Int32) * (6:Int32)) - (1:Int32)) mk.1) = (0:Int32)) (fun c8 => ?_) (fun c8 => ?_))
          · have c8 : (M_hasAt (s.2 / (6:Int32)) ((s.2 - s.2 / (6:Int32) * (6:Int32)) - (1:Int32)) mk.1) = (0:Int32) := c8
            refine stp hm 1 (?_ : sxWP sc cl Q 148 (85, [some (.ref 59), some (.int s.1), some (.int s.2), some (.int (s.2 / (6:Int32))), some (.int (s.2 - s.2 / (6:Int32) * (6:Int32)))], [.int (1:Int32), .int ((if (M_hasAt ((s.2 / (6:Int32)) - (1:Int32)) (s.2 - s.2 / (6:Int32) * (6:Int32)) mk.1) = (0:Int32) then (1:Int32) else (0:Int32)) + (if (M_hasAt ((s.2 / (6:Int32)) + (1:Int32)) (s.2 - s.2 / (6:Int32) * (6:Int32)) mk.1) = (0:Int32) then (1:Int32) else (0:Int32))), .int s.1], (cW nw kp im ol sn sr tp (mW mk mg mt mc T)), 0, 0))
            exact m5 _ (by rw [if_pos c8])
          · have c8 : ¬ (M_hasAt (s.2 / (6:Int32)) ((s.2 - s.2 / (6:Int32) * (6:Int32)) - (1:Int32)) mk.1) = (0:Int32) := c8
            refine stp hm 2 (?_ : sxWP sc cl Q 148 (85, [some (.ref 59), some (.int s.1), some (.int s.2), some (.int (s.2 / (6:Int32))), some (.int (s.2 - s.2 / (6:Int32) * (6:Int32)))], [.int (0:Int32), .int ((if (M_hasAt ((s.2 / (6:Int32)) - (1:Int32)) (s.2 - s.2 / (6:Int32) * (6:Int32)) mk.1) = (0:Int32) then (1:Int32) else (0:Int32)) + (if (M_hasAt ((s.2 / (6:Int32)) + (1:Int32)) (s.2 - s.2 / (6:Int32) * (6:Int32)) mk.1) = (0:Int32) then (1:Int32) else (0:Int32))), .int s.1], (cW nw kp im ol sn sr tp (mW mk mg mt mc T)), 0, 0))
            exact m5 _ (by rw [if_neg c8])
        refine stp hm 1 (bs (c := (M_hasAt ((s.2 / (6:Int32)) + (1:Int32)) (s.2 - s.2 / (6:Int32) * (6:Int32)) mk.1) = (0:Int32)) (fun c9 => ?_) (fun c9 => ?_))
        · have c9 : (M_hasAt ((s.2 / (6:Int32)) + (1:Int32)) (s.2 - s.2 / (6:Int32) * (6:Int32)) mk.1) = (0:Int32) := c9
          refine stp hm 1 (?_ : sxWP sc cl Q 148 (67, [some (.ref 59), some (.int s.1), some (.int s.2), some (.int (s.2 / (6:Int32))), some (.int (s.2 - s.2 / (6:Int32) * (6:Int32)))], [.int (1:Int32), .int (if (M_hasAt ((s.2 / (6:Int32)) - (1:Int32)) (s.2 - s.2 / (6:Int32) * (6:Int32)) mk.1) = (0:Int32) then (1:Int32) else (0:Int32)), .int s.1], (cW nw kp im ol sn sr tp (mW mk mg mt mc T)), 0, 0))
          exact m4 _ (by rw [if_pos c9])
        · have c9 : ¬ (M_hasAt ((s.2 / (6:Int32)) + (1:Int32)) (s.2 - s.2 / (6:Int32) * (6:Int32)) mk.1) = (0:Int32) := c9
          refine stp hm 2 (?_ : sxWP sc cl Q 148 (67, [some (.ref 59), some (.int s.1), some (.int s.2), some (.int (s.2 / (6:Int32))), some (.int (s.2 - s.2 / (6:Int32) * (6:Int32)))], [.int (0:Int32), .int (if (M_hasAt ((s.2 / (6:Int32)) - (1:Int32)) (s.2 - s.2 / (6:Int32) * (6:Int32)) mk.1) = (0:Int32) then (1:Int32) else (0:Int32)), .int s.1], (cW nw kp im ol sn sr tp (mW mk mg mt mc T)), 0, 0))
          exact m4 _ (by rw [if_neg c9])
      refine stp hm 1 (bs (c := (M_hasAt ((s.2 / (6:Int32)) - (1:Int32)) (s.2 - s.2 / (6:Int32) * (6:Int32)) mk.1) = (0:Int32)) (fun c10 => ?_) (fun c10 => ?_))
      · have c10 : (M_hasAt ((s.2 / (6:Int32)) - (1:Int32)) (s.2 - s.2 / (6:Int32) * (6:Int32)) mk.1) = (0:Int32) := c10
        refine stp hm 1 (?_ : sxWP sc cl Q 148 (50, [some (.ref 59), some (.int s.1), some (.int s.2), some (.int (s.2 / (6:Int32))), some (.int (s.2 - s.2 / (6:Int32) * (6:Int32)))], [.int (1:Int32), .int s.1], (cW nw kp im ol sn sr tp (mW mk mg mt mc T)), 0, 0))
        exact m3 _ (by rw [if_pos c10])
      · have c10 : ¬ (M_hasAt ((s.2 / (6:Int32)) - (1:Int32)) (s.2 - s.2 / (6:Int32) * (6:Int32)) mk.1) = (0:Int32) := c10
        refine stp hm 2 (?_ : sxWP sc cl Q 148 (50, [some (.ref 59), some (.int s.1), some (.int s.2), some (.int (s.2 / (6:Int32))), some (.int (s.2 - s.2 / (6:Int32) * (6:Int32)))], [.int (0:Int32), .int s.1], (cW nw kp im ol sn sr tp (mW mk mg mt mc T)), 0, 0))
        exact m3 _ (by rw [if_neg c10])
    · show sxWP sc cl Q 148 (18, [some (.ref 59), some (.int s.1), some (.int s.2), z3, z4], [], (cW nw kp im ol sn sr tp (mW mk mg mt mc T)), 0, 0)
      refine stp hm 1 (?_ : sxWP sc cl Q 148 (106, [some (.ref 59), some (.int s.1), some (.int s.2), z3, z4], [], (cW nw kp im ol sn sr tp (mW mk mg mt mc T)), 0, 0))
      exact J106 _ _ _ _ hf
set_option maxRecDepth 10000 in
theorem M_edges_ok  {q : Int32} (hc : call = sxE sc (d + 3)) (hf : M_edges mk.1 = some q) (h : Q (some (.int q)) (cW nw kp im ol sn sr tp (mW mk mg mt mc T))) : call 148 [.ref 59] (cW nw kp im ol sn sr tp (mW mk mg mt mc T)) Q := by
  refine ent hc rfl (fun cl hE hm => ?_)
  unfold M_edges at hf
  obtain ⟨w1, hw1, hf⟩ := bnd hf
  refine stp hm 4 (?_ : sxWP sc cl Q 148 (4, [some (.ref 59), some (.int (0:Int32)), some (.int (0:Int32)), none, none], [], (cW nw kp im ol sn sr tp (mW mk mg mt mc T)), 0, 0))
  refine M_edges_l4 hE hm _ _ _ hw1 ?_ _ _
  intro w1_z0 w1_z2 w1_z3 w1_z4
  show sxWP sc cl Q 148 (112, [w1_z0, some (.int w1), w1_z2, w1_z3, w1_z4], [], (cW nw kp im ol sn sr tp (mW mk mg mt mc T)), 0, 0)
  obtain rfl := Option.some.inj hf
  refine stp hm 2 ?_
  exact h

def M_blacks_s4   (mrg : Int64) (s : (Int32 × Int32)) : Option ((Int32 × Int32) ⊕ Int32) := if (36:Int32) ≤ s.2 then (some (Sum.inr s.1)) else (some (Sum.inl (s.1 + (if (M_has s.2 mrg) = (0:Int32) then (0:Int32) else (if (M_isBlack s.2) = (0:Int32) then (0:Int32) else (1:Int32))), s.2 + (1:Int32))))
def M_blacks  (mrg : Int64) : Option Int32 := Option.bind (wh (M_blacks_s4 mrg) FU ((0:Int32), (0:Int32))) (fun w1 => some w1)
set_option maxRecDepth 10000 in
theorem M_blacks_l4    (hE : cl = sxE sc (d + 2)) (hm : CallMono cl) : ∀ (n : Nat) (s : (Int32 × Int32)) (r : Int32), wh (M_blacks_s4 mk.1) n s = some r → (∀ (z0 z2 : Option Value), sxWP sc cl Q 147 (39, [z0, some (.int r), z2], [], (cW nw kp im ol sn sr tp (mW mk mg mt mc T)), 0, 0)) → sxWP sc cl Q 147 (4, [some (.ref 59), some (.int s.1), some (.int s.2)], [], (cW nw kp im ol sn sr tp (mW mk mg mt mc T)), 0, 0) := by
  refine wh_run (A := fun (s : (Int32 × Int32)) => sxWP sc cl Q 147 (4, [some (.ref 59), some (.int s.1), some (.int s.2)], [], (cW nw kp im ol sn sr tp (mW mk mg mt mc T)), 0, 0)) (B := fun (r : Int32) => ∀ (z0 z2 : Option Value), sxWP sc cl Q 147 (39, [z0, some (.int r), z2], [], (cW nw kp im ol sn sr tp (mW mk mg mt mc T)), 0, 0)) (fun s x hf hA hB => ?_)
  unfold M_blacks_s4 at hf
  refine stp hm 3 (br hf (fun c1 hf => ?_) (fun c1 hf => ?_))
  · show sxWP sc cl Q 147 (39, [some (.ref 59), some (.int s.1), some (.int s.2)], [], (cW nw kp im ol sn sr tp (mW mk mg mt mc T)), 0, 0)
    obtain rfl := Option.some.inj hf
    exact hB _ rfl _ _
  · show sxWP sc cl Q 147 (10, [some (.ref 59), some (.int s.1), some (.int s.2)], [], (cW nw kp im ol sn sr tp (mW mk mg mt mc T)), 0, 0)
    refine stp hm 4 (M_has_ok hE rfl ?_)
    show sxWP sc cl Q 147 (16, [some (.ref 59), some (.int s.1), some (.int s.2)], [.int (M_has s.2 mk.1), .int s.1], (cW nw kp im ol sn sr tp (mW mk mg mt mc T)), 0, 0)
    have m2 : ∀ (m2_0 : Int32), m2_0 = (if (M_has s.2 mk.1) = (0:Int32) then (0:Int32) else (if (M_isBlack s.2) = (0:Int32) then (0:Int32) else (1:Int32))) → sxWP sc cl Q 147 (31, [some (.ref 59), some (.int s.1), some (.int s.2)], [.int m2_0, .int s.1], (cW nw kp im ol sn sr tp (mW mk mg mt mc T)), 0, 0) := by
      intro m2_0 em2_0
      subst em2_0
      obtain rfl := Option.some.inj hf
      refine stp hm 4 (?_ : sxWP sc cl Q 147 (4, [some (.ref 59), some (.int (s.1 + (if (M_has s.2 mk.1) = (0:Int32) then (0:Int32) else (if (M_isBlack s.2) = (0:Int32) then (0:Int32) else (1:Int32))))), some (.int (s.2 + (1:Int32)))], [], (cW nw kp im ol sn sr tp (mW mk mg mt mc T)), 0, 0))
      exact hA _ rfl
    refine stp hm 1 (bs (c := (M_has s.2 mk.1) = (0:Int32)) (fun c3 => ?_) (fun c3 => ?_))
    · have c3 : (M_has s.2 mk.1) = (0:Int32) := c3
      refine stp hm 1 (?_ : sxWP sc cl Q 147 (31, [some (.ref 59), some (.int s.1), some (.int s.2)], [.int (0:Int32), .int s.1], (cW nw kp im ol sn sr tp (mW mk mg mt mc T)), 0, 0))
      exact m2 _ (by rw [if_pos c3])
    · have c3 : ¬ (M_has s.2 mk.1) = (0:Int32) := c3
      refine stp hm 2 (M_isBlack_ok hE rfl ?_)
      show sxWP sc cl Q 147 (23, [some (.ref 59), some (.int s.1), some (.int s.2)], [.int (M_isBlack s.2), .int s.1], (cW nw kp im ol sn sr tp (mW mk mg mt mc T)), 0, 0)
      refine stp hm 1 (bs (c := (M_isBlack s.2) = (0:Int32)) (fun c4 => ?_) (fun c4 => ?_))
      · have c4 : (M_isBlack s.2) = (0:Int32) := c4
        refine stp hm 1 (?_ : sxWP sc cl Q 147 (31, [some (.ref 59), some (.int s.1), some (.int s.2)], [.int (0:Int32), .int s.1], (cW nw kp im ol sn sr tp (mW mk mg mt mc T)), 0, 0))
        exact m2 _ (by rw [if_neg c3, if_pos c4])
      · have c4 : ¬ (M_isBlack s.2) = (0:Int32) := c4
        refine stp hm 2 (?_ : sxWP sc cl Q 147 (31, [some (.ref 59), some (.int s.1), some (.int s.2)], [.int (1:Int32), .int s.1], (cW nw kp im ol sn sr tp (mW mk mg mt mc T)), 0, 0))
        exact m2 _ (by rw [if_neg c3, if_neg c4])
set_option maxRecDepth 10000 in
theorem M_blacks_ok  {q : Int32} (hc : call = sxE sc (d + 3)) (hf : M_blacks mk.1 = some q) (h : Q (some (.int q)) (cW nw kp im ol sn sr tp (mW mk mg mt mc T))) : call 147 [.ref 59] (cW nw kp im ol sn sr tp (mW mk mg mt mc T)) Q := by
  refine ent hc rfl (fun cl hE hm => ?_)
  unfold M_blacks at hf
  obtain ⟨w1, hw1, hf⟩ := bnd hf
  refine stp hm 4 (?_ : sxWP sc cl Q 147 (4, [some (.ref 59), some (.int (0:Int32)), some (.int (0:Int32))], [], (cW nw kp im ol sn sr tp (mW mk mg mt mc T)), 0, 0))
  refine M_blacks_l4 hE hm _ _ _ hw1 ?_
  intro w1_z0 w1_z2
  show sxWP sc cl Q 147 (39, [w1_z0, some (.int w1), w1_z2], [], (cW nw kp im ol sn sr tp (mW mk mg mt mc T)), 0, 0)
  obtain rfl := Option.some.inj hf
  refine stp hm 2 ?_
  exact h

def M_told_j123  (k0 : Int32) (gle_j : Int32) (gsu_j : Int32) (gma_j : (Nat → Int32)) (gpi_j : (Nat → Int32)) (gst_j : (Nat → Int32)) (ghe_j : (Nat → Int32)) (gow_j : (Nat → Int32)) (gfa_j : (Nat → Int32)) (gqu_j : (Nat → Int32)) (glo_j : (Nat → Int32)) (ghi_j : (Nat → Int32)) (gby_j : (Nat → Int32)) (gib_j : (Nat → Int32)) : Option (Int32 × Int32 × Int32 × (Nat → Int32) × (Nat → Int32) × (Nat → Int32) × (Nat → Int32) × (Nat → Int32) × (Nat → Int32) × (Nat → Int32) × (Nat → Int32) × (Nat → Int32) × (Nat → Int32) × (Nat → Int32)) := some (k0, gle_j, gsu_j, gma_j, gpi_j, gst_j, ghe_j, gow_j, gfa_j, gqu_j, glo_j, ghi_j, gby_j, gib_j)
def M_told (v1 : Int32) (mrg : Int64) (gle : Int32) (gsu : Int32) (ms : (Nat → Int32)) (gma : (Nat → Int32)) (gpi : (Nat → Int32)) (gst : (Nat → Int32)) (ghe : (Nat → Int32)) (gow : (Nat → Int32)) (gfa : (Nat → Int32)) (gqu : (Nat → Int32)) (glo : (Nat → Int32)) (ghi : (Nat → Int32)) (gby : (Nat → Int32)) (gib : (Nat → Int32)) : Option (Int32 × Int32 × Int32 × (Nat → Int32) × (Nat → Int32) × (Nat → Int32) × (Nat → Int32) × (Nat → Int32) × (Nat → Int32) × (Nat → Int32) × (Nat → Int32) × (Nat → Int32) × (Nat → Int32) × (Nat → Int32)) := if v1 = (0:Int32) then (Option.bind (M_cells mrg) (fun q2 => some (q2, gle, gsu, gma, gpi, gst, ghe, gow, gfa, gqu, glo, ghi, gby, gib))) else (if v1 = (1:Int32) then (Option.bind (M_blacks mrg) (fun q3 => some (q3, gle, gsu, gma, gpi, gst, ghe, gow, gfa, gqu, glo, ghi, gby, gib))) else (if v1 = (2:Int32) then (Option.bind (M_edges mrg) (fun q4 => some (q4, gle, gsu, gma, gpi, gst, ghe, gow, gfa, gqu, glo, ghi, gby, gib))) else (if v1 = (3:Int32) then (Option.bind (M_isSimple mrg gma gpi) (fun q5 => some (if q5.1 = (0:Int32) then (0:Int32) else (1:Int32), gle, gsu, q5.2.1, q5.2.2, gst, ghe, gow, gfa, gqu, glo, ghi, gby, gib))) else (if v1 = (4:Int32) then (Option.bind (M_isTilable mrg gle gsu gma gpi gst ghe gow gfa gqu glo ghi) (fun q8 => some (if q8.1 = (0:Int32) then (0:Int32) else (1:Int32), q8.2.1, q8.2.2.1, q8.2.2.2.1, q8.2.2.2.2.1, q8.2.2.2.2.2.1, q8.2.2.2.2.2.2.1, q8.2.2.2.2.2.2.2.1, q8.2.2.2.2.2.2.2.2.1, q8.2.2.2.2.2.2.2.2.2.1, q8.2.2.2.2.2.2.2.2.2.2.1, q8.2.2.2.2.2.2.2.2.2.2.2, gby, gib))) else (if v1 = (5:Int32) then (Option.bind (M_wordTold (0:Int32) mrg gle gsu gma gpi gst ghe gow) (fun q11 => some (q11.1, q11.2.1, q11.2.2.1, q11.2.2.2.1, q11.2.2.2.2.1, q11.2.2.2.2.2.1, q11.2.2.2.2.2.2.1, q11.2.2.2.2.2.2.2, gfa, gqu, glo, ghi, gby, gib))) else (if v1 = (6:Int32) then (Option.bind (M_wordTold (1:Int32) mrg gle gsu gma gpi gst ghe gow) (fun q12 => some (q12.1, q12.2.1, q12.2.2.1, q12.2.2.2.1, q12.2.2.2.2.1, q12.2.2.2.2.2.1, q12.2.2.2.2.2.2.1, q12.2.2.2.2.2.2.2, gfa, gqu, glo, ghi, gby, gib))) else (if v1 = (7:Int32) then (grd (gi (0:Int32) 122) (if (ms (0:Int32).toNatClampNeg) = (0:Int32) then (M_told_j123 (-5:Int32) gle gsu gma gpi gst ghe gow gfa gqu glo ghi gby gib) else (Option.bind (M_rank mrg gle gsu ms gma gpi gst ghe gow gfa gqu glo ghi gby gib) (fun q15 => M_told_j123 q15.1 q15.2.1 q15.2.2.1 q15.2.2.2.1 q15.2.2.2.2.1 q15.2.2.2.2.2.1 q15.2.2.2.2.2.2.1 q15.2.2.2.2.2.2.2.1 q15.2.2.2.2.2.2.2.2.1 q15.2.2.2.2.2.2.2.2.2.1 q15.2.2.2.2.2.2.2.2.2.2.1 q15.2.2.2.2.2.2.2.2.2.2.2.1 q15.2.2.2.2.2.2.2.2.2.2.2.2.1 q15.2.2.2.2.2.2.2.2.2.2.2.2.2)))) else (if v1 = (8:Int32) then (Option.bind (M_rankOfGreatest mrg gle gsu gma gpi gst ghe gow gfa gqu glo ghi) (fun q16 => some (q16.1, q16.2.1, q16.2.2.1, q16.2.2.2.1, q16.2.2.2.2.1, q16.2.2.2.2.2.1, q16.2.2.2.2.2.2.1, q16.2.2.2.2.2.2.2.1, q16.2.2.2.2.2.2.2.2.1, q16.2.2.2.2.2.2.2.2.2.1, q16.2.2.2.2.2.2.2.2.2.2.1, q16.2.2.2.2.2.2.2.2.2.2.2, gby, gib))) else (some ((-1:Int32), gle, gsu, gma, gpi, gst, ghe, gow, gfa, gqu, glo, ghi, gby, gib))))))))))
set_option maxRecDepth 10000 in
theorem M_told_ok {v1 : Int32} {q : (Int32 × Int32 × Int32 × (Nat → Int32) × (Nat → Int32) × (Nat → Int32) × (Nat → Int32) × (Nat → Int32) × (Nat → Int32) × (Nat → Int32) × (Nat → Int32) × (Nat → Int32) × (Nat → Int32) × (Nat → Int32))} (hc : call = sxE sc (d + 8)) (hf : M_told v1 mk.1 mg.2.2.1 mg.2.2.2.1 mk.2.2.1 mg.1 mg.2.1 mg.2.2.2.2.1 mg.2.2.2.2.2.1 mg.2.2.2.2.2.2.1 mg.2.2.2.2.2.2.2.1 mg.2.2.2.2.2.2.2.2.1 mg.2.2.2.2.2.2.2.2.2.1 mg.2.2.2.2.2.2.2.2.2.2.1 mg.2.2.2.2.2.2.2.2.2.2.2.1 mg.2.2.2.2.2.2.2.2.2.2.2.2 = some q) (h : Q (some (.int q.1)) (cW nw kp im ol sn sr tp (mW mk (q.2.2.2.1, q.2.2.2.2.1, q.2.1, q.2.2.1, q.2.2.2.2.2.1, q.2.2.2.2.2.2.1, q.2.2.2.2.2.2.2.1, q.2.2.2.2.2.2.2.2.1, q.2.2.2.2.2.2.2.2.2.1, q.2.2.2.2.2.2.2.2.2.2.1, q.2.2.2.2.2.2.2.2.2.2.2.1, q.2.2.2.2.2.2.2.2.2.2.2.2.1, q.2.2.2.2.2.2.2.2.2.2.2.2.2) mt mc T))) : call 202 [.ref 59, .int v1] (cW nw kp im ol sn sr tp (mW mk mg mt mc T)) Q := by
  refine ent hc rfl (fun cl hE hm => ?_)
  have J123 : ∀ (k0 : Int32) (gle_j : Int32) (gsu_j : Int32) (gma_j : (Nat → Int32)) (gpi_j : (Nat → Int32)) (gst_j : (Nat → Int32)) (ghe_j : (Nat → Int32)) (gow_j : (Nat → Int32)) (gfa_j : (Nat → Int32)) (gqu_j : (Nat → Int32)) (glo_j : (Nat → Int32)) (ghi_j : (Nat → Int32)) (gby_j : (Nat → Int32)) (gib_j : (Nat → Int32)) (z0 : Option Value) (z1 : Option Value), M_told_j123 k0 gle_j gsu_j gma_j gpi_j gst_j ghe_j gow_j gfa_j gqu_j glo_j ghi_j gby_j gib_j = some q → sxWP sc cl Q 202 (123, [z0, z1], [.int k0], (cW nw kp im ol sn sr tp (mW mk (gma_j, gpi_j, gle_j, gsu_j, gst_j, ghe_j, gow_j, gfa_j, gqu_j, glo_j, ghi_j, gby_j, gib_j) mt mc T)), 0, 0) := by
    intro k0 gle_j gsu_j gma_j gpi_j gst_j ghe_j gow_j gfa_j gqu_j glo_j ghi_j gby_j gib_j z0 z1 hf
    unfold M_told_j123 at hf
    obtain rfl := Option.some.inj hf
    refine stp hm 1 ?_
    exact h
  unfold M_told at hf
  refine stp hm 2 ?_
  show sxWP sc cl Q 202 ((swT (v1).toInt (0) [52, 57, 62, 67, 80, 93, 99, 105, 124] 129), [some (.ref 59), some (.int v1)], [], (cW nw kp im ol sn sr tp (mW mk mg mt mc T)), 0, 0)
  rcases ite_or hf with ⟨c1_0, hf⟩ | ⟨c1_0, hf⟩
  · rw [show swT (v1).toInt (0) [52, 57, 62, 67, 80, 93, 99, 105, 124] 129 = 52 by rw [c1_0]; rfl]
    obtain ⟨q2, hq2, hf⟩ := bnd hf
    refine stp hm 2 (M_cells_ok hE hq2 ?_)
    show sxWP sc cl Q 202 (56, [some (.ref 59), some (.int v1)], [.int q2], (cW nw kp im ol sn sr tp (mW mk mg mt mc T)), 0, 0)
    obtain rfl := Option.some.inj hf
    refine stp hm 1 ?_
    exact h
  rcases ite_or hf with ⟨c1_1, hf⟩ | ⟨c1_1, hf⟩
  · rw [show swT (v1).toInt (0) [52, 57, 62, 67, 80, 93, 99, 105, 124] 129 = 57 by rw [c1_1]; rfl]
    obtain ⟨q3, hq3, hf⟩ := bnd hf
    refine stp hm 2 (M_blacks_ok hE hq3 ?_)
    show sxWP sc cl Q 202 (61, [some (.ref 59), some (.int v1)], [.int q3], (cW nw kp im ol sn sr tp (mW mk mg mt mc T)), 0, 0)
    obtain rfl := Option.some.inj hf
    refine stp hm 1 ?_
    exact h
  rcases ite_or hf with ⟨c1_2, hf⟩ | ⟨c1_2, hf⟩
  · rw [show swT (v1).toInt (0) [52, 57, 62, 67, 80, 93, 99, 105, 124] 129 = 62 by rw [c1_2]; rfl]
    obtain ⟨q4, hq4, hf⟩ := bnd hf
    refine stp hm 2 (M_edges_ok hE hq4 ?_)
    show sxWP sc cl Q 202 (66, [some (.ref 59), some (.int v1)], [.int q4], (cW nw kp im ol sn sr tp (mW mk mg mt mc T)), 0, 0)
    obtain rfl := Option.some.inj hf
    refine stp hm 1 ?_
    exact h
  rcases ite_or hf with ⟨c1_3, hf⟩ | ⟨c1_3, hf⟩
  · rw [show swT (v1).toInt (0) [52, 57, 62, 67, 80, 93, 99, 105, 124] 129 = 67 by rw [c1_3]; rfl]
    obtain ⟨q5, hq5, hf⟩ := bnd hf
    refine stp hm 2 (M_isSimple_ok hE hq5 ?_)
    show sxWP sc cl Q 202 (71, [some (.ref 59), some (.int v1)], [.int q5.1], (cW nw kp im ol sn sr tp (mW mk (q5.2.1, q5.2.2, mg.2.2.1, mg.2.2.2.1, mg.2.2.2.2.1, mg.2.2.2.2.2.1, mg.2.2.2.2.2.2.1, mg.2.2.2.2.2.2.2.1, mg.2.2.2.2.2.2.2.2.1, mg.2.2.2.2.2.2.2.2.2.1, mg.2.2.2.2.2.2.2.2.2.2.1, mg.2.2.2.2.2.2.2.2.2.2.2.1, mg.2.2.2.2.2.2.2.2.2.2.2.2) mt mc T)), 0, 0)
    have m6 : ∀ (m6_0 : Int32), m6_0 = (if q5.1 = (0:Int32) then (0:Int32) else (1:Int32)) → sxWP sc cl Q 202 (79, [some (.ref 59), some (.int v1)], [.int m6_0], (cW nw kp im ol sn sr tp (mW mk (q5.2.1, q5.2.2, mg.2.2.1, mg.2.2.2.1, mg.2.2.2.2.1, mg.2.2.2.2.2.1, mg.2.2.2.2.2.2.1, mg.2.2.2.2.2.2.2.1, mg.2.2.2.2.2.2.2.2.1, mg.2.2.2.2.2.2.2.2.2.1, mg.2.2.2.2.2.2.2.2.2.2.1, mg.2.2.2.2.2.2.2.2.2.2.2.1, mg.2.2.2.2.2.2.2.2.2.2.2.2) mt mc T)), 0, 0) := by
      intro m6_0 em6_0
      subst em6_0
      obtain rfl := Option.some.inj hf
      refine stp hm 1 ?_
      exact h
    refine stp hm 1 (bs (c := q5.1 = (0:Int32)) (fun c7 => ?_) (fun c7 => ?_))
    · have c7 : q5.1 = (0:Int32) := c7
      refine stp hm 1 (?_ : sxWP sc cl Q 202 (79, [some (.ref 59), some (.int v1)], [.int (0:Int32)], (cW nw kp im ol sn sr tp (mW mk (q5.2.1, q5.2.2, mg.2.2.1, mg.2.2.2.1, mg.2.2.2.2.1, mg.2.2.2.2.2.1, mg.2.2.2.2.2.2.1, mg.2.2.2.2.2.2.2.1, mg.2.2.2.2.2.2.2.2.1, mg.2.2.2.2.2.2.2.2.2.1, mg.2.2.2.2.2.2.2.2.2.2.1, mg.2.2.2.2.2.2.2.2.2.2.2.1, mg.2.2.2.2.2.2.2.2.2.2.2.2) mt mc T)), 0, 0))
      exact m6 _ (by rw [if_pos c7])
    · have c7 : ¬ q5.1 = (0:Int32) := c7
      refine stp hm 2 (?_ : sxWP sc cl Q 202 (79, [some (.ref 59), some (.int v1)], [.int (1:Int32)], (cW nw kp im ol sn sr tp (mW mk (q5.2.1, q5.2.2, mg.2.2.1, mg.2.2.2.1, mg.2.2.2.2.1, mg.2.2.2.2.2.1, mg.2.2.2.2.2.2.1, mg.2.2.2.2.2.2.2.1, mg.2.2.2.2.2.2.2.2.1, mg.2.2.2.2.2.2.2.2.2.1, mg.2.2.2.2.2.2.2.2.2.2.1, mg.2.2.2.2.2.2.2.2.2.2.2.1, mg.2.2.2.2.2.2.2.2.2.2.2.2) mt mc T)), 0, 0))
      exact m6 _ (by rw [if_neg c7])
  rcases ite_or hf with ⟨c1_4, hf⟩ | ⟨c1_4, hf⟩
  · rw [show swT (v1).toInt (0) [52, 57, 62, 67, 80, 93, 99, 105, 124] 129 = 80 by rw [c1_4]; rfl]
    obtain ⟨q8, hq8, hf⟩ := bnd hf
    refine stp hm 2 (M_isTilable_ok hE hq8 ?_)
    show sxWP sc cl Q 202 (84, [some (.ref 59), some (.int v1)], [.int q8.1], (cW nw kp im ol sn sr tp (mW mk (q8.2.2.2.1, q8.2.2.2.2.1, q8.2.1, q8.2.2.1, q8.2.2.2.2.2.1, q8.2.2.2.2.2.2.1, q8.2.2.2.2.2.2.2.1, q8.2.2.2.2.2.2.2.2.1, q8.2.2.2.2.2.2.2.2.2.1, q8.2.2.2.2.2.2.2.2.2.2.1, q8.2.2.2.2.2.2.2.2.2.2.2, mg.2.2.2.2.2.2.2.2.2.2.2.1, mg.2.2.2.2.2.2.2.2.2.2.2.2) mt mc T)), 0, 0)
    have m9 : ∀ (m9_0 : Int32), m9_0 = (if q8.1 = (0:Int32) then (0:Int32) else (1:Int32)) → sxWP sc cl Q 202 (92, [some (.ref 59), some (.int v1)], [.int m9_0], (cW nw kp im ol sn sr tp (mW mk (q8.2.2.2.1, q8.2.2.2.2.1, q8.2.1, q8.2.2.1, q8.2.2.2.2.2.1, q8.2.2.2.2.2.2.1, q8.2.2.2.2.2.2.2.1, q8.2.2.2.2.2.2.2.2.1, q8.2.2.2.2.2.2.2.2.2.1, q8.2.2.2.2.2.2.2.2.2.2.1, q8.2.2.2.2.2.2.2.2.2.2.2, mg.2.2.2.2.2.2.2.2.2.2.2.1, mg.2.2.2.2.2.2.2.2.2.2.2.2) mt mc T)), 0, 0) := by
      intro m9_0 em9_0
      subst em9_0
      obtain rfl := Option.some.inj hf
      refine stp hm 1 ?_
      exact h
    refine stp hm 1 (bs (c := q8.1 = (0:Int32)) (fun c10 => ?_) (fun c10 => ?_))
    · have c10 : q8.1 = (0:Int32) := c10
      refine stp hm 1 (?_ : sxWP sc cl Q 202 (92, [some (.ref 59), some (.int v1)], [.int (0:Int32)], (cW nw kp im ol sn sr tp (mW mk (q8.2.2.2.1, q8.2.2.2.2.1, q8.2.1, q8.2.2.1, q8.2.2.2.2.2.1, q8.2.2.2.2.2.2.1, q8.2.2.2.2.2.2.2.1, q8.2.2.2.2.2.2.2.2.1, q8.2.2.2.2.2.2.2.2.2.1, q8.2.2.2.2.2.2.2.2.2.2.1, q8.2.2.2.2.2.2.2.2.2.2.2, mg.2.2.2.2.2.2.2.2.2.2.2.1, mg.2.2.2.2.2.2.2.2.2.2.2.2) mt mc T)), 0, 0))
      exact m9 _ (by rw [if_pos c10])
    · have c10 : ¬ q8.1 = (0:Int32) := c10
      refine stp hm 2 (?_ : sxWP sc cl Q 202 (92, [some (.ref 59), some (.int v1)], [.int (1:Int32)], (cW nw kp im ol sn sr tp (mW mk (q8.2.2.2.1, q8.2.2.2.2.1, q8.2.1, q8.2.2.1, q8.2.2.2.2.2.1, q8.2.2.2.2.2.2.1, q8.2.2.2.2.2.2.2.1, q8.2.2.2.2.2.2.2.2.1, q8.2.2.2.2.2.2.2.2.2.1, q8.2.2.2.2.2.2.2.2.2.2.1, q8.2.2.2.2.2.2.2.2.2.2.2, mg.2.2.2.2.2.2.2.2.2.2.2.1, mg.2.2.2.2.2.2.2.2.2.2.2.2) mt mc T)), 0, 0))
      exact m9 _ (by rw [if_neg c10])
  rcases ite_or hf with ⟨c1_5, hf⟩ | ⟨c1_5, hf⟩
  · rw [show swT (v1).toInt (0) [52, 57, 62, 67, 80, 93, 99, 105, 124] 129 = 93 by rw [c1_5]; rfl]
    obtain ⟨q11, hq11, hf⟩ := bnd hf
    refine stp hm 3 (M_wordTold_ok hE hq11 ?_)
    show sxWP sc cl Q 202 (98, [some (.ref 59), some (.int v1)], [.int q11.1], (cW nw kp im ol sn sr tp (mW mk (q11.2.2.2.1, q11.2.2.2.2.1, q11.2.1, q11.2.2.1, q11.2.2.2.2.2.1, q11.2.2.2.2.2.2.1, q11.2.2.2.2.2.2.2, mg.2.2.2.2.2.2.2.1, mg.2.2.2.2.2.2.2.2.1, mg.2.2.2.2.2.2.2.2.2.1, mg.2.2.2.2.2.2.2.2.2.2.1, mg.2.2.2.2.2.2.2.2.2.2.2.1, mg.2.2.2.2.2.2.2.2.2.2.2.2) mt mc T)), 0, 0)
    obtain rfl := Option.some.inj hf
    refine stp hm 1 ?_
    exact h
  rcases ite_or hf with ⟨c1_6, hf⟩ | ⟨c1_6, hf⟩
  · rw [show swT (v1).toInt (0) [52, 57, 62, 67, 80, 93, 99, 105, 124] 129 = 99 by rw [c1_6]; rfl]
    obtain ⟨q12, hq12, hf⟩ := bnd hf
    refine stp hm 3 (M_wordTold_ok hE hq12 ?_)
    show sxWP sc cl Q 202 (104, [some (.ref 59), some (.int v1)], [.int q12.1], (cW nw kp im ol sn sr tp (mW mk (q12.2.2.2.1, q12.2.2.2.2.1, q12.2.1, q12.2.2.1, q12.2.2.2.2.2.1, q12.2.2.2.2.2.2.1, q12.2.2.2.2.2.2.2, mg.2.2.2.2.2.2.2.1, mg.2.2.2.2.2.2.2.2.1, mg.2.2.2.2.2.2.2.2.2.1, mg.2.2.2.2.2.2.2.2.2.2.1, mg.2.2.2.2.2.2.2.2.2.2.2.1, mg.2.2.2.2.2.2.2.2.2.2.2.2) mt mc T)), 0, 0)
    obtain rfl := Option.some.inj hf
    refine stp hm 1 ?_
    exact h
  rcases ite_or hf with ⟨c1_7, hf⟩ | ⟨c1_7, hf⟩
  · rw [show swT (v1).toInt (0) [52, 57, 62, 67, 80, 93, 99, 105, 124] 129 = 105 by rw [c1_7]; rfl]
    obtain ⟨g13, hf⟩ := grd_e hf
    refine stp hm 4 (And.intro (gi_in g13) (?_ : sxWP sc cl Q 202 (111, [some (.ref 59), some (.int v1)], [.int (mk.2.2.1 (0:Int32).toNatClampNeg)], (cW nw kp im ol sn sr tp (mW mk mg mt mc T)), 0, 0)))
    refine stp hm 1 (brn hf (fun c14 hf => ?_) (fun c14 hf => ?_))
    · show sxWP sc cl Q 202 (119, [some (.ref 59), some (.int v1)], [], (cW nw kp im ol sn sr tp (mW mk mg mt mc T)), 0, 0)
      obtain ⟨q15, hq15, hf⟩ := bnd hf
      refine stp hm 2 (M_rank_ok hE hq15 ?_)
      show sxWP sc cl Q 202 (123, [some (.ref 59), some (.int v1)], [.int q15.1], (cW nw kp im ol sn sr tp (mW mk (q15.2.2.2.1, q15.2.2.2.2.1, q15.2.1, q15.2.2.1, q15.2.2.2.2.2.1, q15.2.2.2.2.2.2.1, q15.2.2.2.2.2.2.2.1, q15.2.2.2.2.2.2.2.2.1, q15.2.2.2.2.2.2.2.2.2.1, q15.2.2.2.2.2.2.2.2.2.2.1, q15.2.2.2.2.2.2.2.2.2.2.2.1, q15.2.2.2.2.2.2.2.2.2.2.2.2.1, q15.2.2.2.2.2.2.2.2.2.2.2.2.2) mt mc T)), 0, 0)
      exact J123 _ _ _ _ _ _ _ _ _ _ _ _ _ _ _ _ hf
    · show sxWP sc cl Q 202 (114, [some (.ref 59), some (.int v1)], [], (cW nw kp im ol sn sr tp (mW mk mg mt mc T)), 0, 0)
      refine stp hm 2 (?_ : sxWP sc cl Q 202 (123, [some (.ref 59), some (.int v1)], [.int (-5:Int32)], (cW nw kp im ol sn sr tp (mW mk mg mt mc T)), 0, 0))
      exact J123 _ _ _ _ _ _ _ _ _ _ _ _ _ _ _ _ hf
  rcases ite_or hf with ⟨c1_8, hf⟩ | ⟨c1_8, hf⟩
  · rw [show swT (v1).toInt (0) [52, 57, 62, 67, 80, 93, 99, 105, 124] 129 = 124 by rw [c1_8]; rfl]
    obtain ⟨q16, hq16, hf⟩ := bnd hf
    refine stp hm 2 (M_rankOfGreatest_ok hE hq16 ?_)
    show sxWP sc cl Q 202 (128, [some (.ref 59), some (.int v1)], [.int q16.1], (cW nw kp im ol sn sr tp (mW mk (q16.2.2.2.1, q16.2.2.2.2.1, q16.2.1, q16.2.2.1, q16.2.2.2.2.2.1, q16.2.2.2.2.2.2.1, q16.2.2.2.2.2.2.2.1, q16.2.2.2.2.2.2.2.2.1, q16.2.2.2.2.2.2.2.2.2.1, q16.2.2.2.2.2.2.2.2.2.2.1, q16.2.2.2.2.2.2.2.2.2.2.2, mg.2.2.2.2.2.2.2.2.2.2.2.1, mg.2.2.2.2.2.2.2.2.2.2.2.2) mt mc T)), 0, 0)
    obtain rfl := Option.some.inj hf
    refine stp hm 1 ?_
    exact h
  have tc1_0 : ¬ (v1).toInt = 0 := fun e => c1_0 (Int32.toInt_inj.mp e)
  have tc1_1 : ¬ (v1).toInt = 1 := fun e => c1_1 (Int32.toInt_inj.mp e)
  have tc1_2 : ¬ (v1).toInt = 2 := fun e => c1_2 (Int32.toInt_inj.mp e)
  have tc1_3 : ¬ (v1).toInt = 3 := fun e => c1_3 (Int32.toInt_inj.mp e)
  have tc1_4 : ¬ (v1).toInt = 4 := fun e => c1_4 (Int32.toInt_inj.mp e)
  have tc1_5 : ¬ (v1).toInt = 5 := fun e => c1_5 (Int32.toInt_inj.mp e)
  have tc1_6 : ¬ (v1).toInt = 6 := fun e => c1_6 (Int32.toInt_inj.mp e)
  have tc1_7 : ¬ (v1).toInt = 7 := fun e => c1_7 (Int32.toInt_inj.mp e)
  have tc1_8 : ¬ (v1).toInt = 8 := fun e => c1_8 (Int32.toInt_inj.mp e)
  rw [show swT (v1).toInt (0) [52, 57, 62, 67, 80, 93, 99, 105, 124] 129 = 129 by simp [swT, tc1_0, tc1_1, tc1_2, tc1_3, tc1_4, tc1_5, tc1_6, tc1_7, tc1_8]]
  obtain rfl := Option.some.inj hf
  refine stp hm 2 ?_
  exact h

def O_way_j29  (k0 : Int32) : Option Int32 := some k0
def O_way_j27   : Option Int32 := O_way_j29 (-5:Int32)
def O_way (v1 : Int32) (ole : Int32) (owa : (Nat → Int32)) : Option Int32 := if v1 < (0:Int32) then O_way_j27 else (if ole ≤ v1 then O_way_j27 else (if (49:Int32) ≤ v1 then O_way_j27 else (grd (gi v1 49) (O_way_j29 (owa v1.toNatClampNeg)))))
set_option maxRecDepth 10000 in
theorem O_way_ok {v1 : Int32} {q : Int32} (hc : call = sxE sc (d + 1)) (hf : O_way v1 ol.2.2.2.2.1 ol.2.2.2.2.2.2.2.2.2.1 = some q) (h : Q (some (.int q)) (cW nw kp im ol sn sr tp (mW mk mg mt mc T))) : call 20 [.ref 29, .int v1] (cW nw kp im ol sn sr tp (mW mk mg mt mc T)) Q := by
  refine ent hc rfl (fun cl hE hm => ?_)
  have J29 : ∀ (k0 : Int32) (z0 : Option Value) (z1 : Option Value), O_way_j29 k0 = some q → sxWP sc cl Q 20 (29, [z0, z1], [.int k0], (cW nw kp im ol sn sr tp (mW mk mg mt mc T)), 0, 0) := by
    intro k0 z0 z1 hf
    unfold O_way_j29 at hf
    obtain rfl := Option.some.inj hf
    refine stp hm 1 ?_
    exact h
  have J27 : ∀  (z0 : Option Value) (z1 : Option Value), O_way_j27 = some q → sxWP sc cl Q 20 (27, [z0, z1], [], (cW nw kp im ol sn sr tp (mW mk mg mt mc T)), 0, 0) := by
    intro z0 z1 hf
    unfold O_way_j27 at hf
    refine stp hm 1 (?_ : sxWP sc cl Q 20 (29, [z0, z1], [.int (-5:Int32)], (cW nw kp im ol sn sr tp (mW mk mg mt mc T)), 0, 0))
    exact J29 _ _ _ hf
  unfold O_way at hf
  refine stp hm 2 (br hf (fun c1 hf => ?_) (fun c1 hf => ?_))
  · show sxWP sc cl Q 20 (27, [some (.ref 29), some (.int v1)], [], (cW nw kp im ol sn sr tp (mW mk mg mt mc T)), 0, 0)
    exact J27 _ _ hf
  · show sxWP sc cl Q 20 (4, [some (.ref 29), some (.int v1)], [], (cW nw kp im ol sn sr tp (mW mk mg mt mc T)), 0, 0)
    refine stp hm 4 (br hf (fun c2 hf => ?_) (fun c2 hf => ?_))
    · show sxWP sc cl Q 20 (27, [some (.ref 29), some (.int v1)], [], (cW nw kp im ol sn sr tp (mW mk mg mt mc T)), 0, 0)
      exact J27 _ _ hf
    · show sxWP sc cl Q 20 (12, [some (.ref 29), some (.int v1)], [], (cW nw kp im ol sn sr tp (mW mk mg mt mc T)), 0, 0)
      refine stp hm 3 (br hf (fun c3 hf => ?_) (fun c3 hf => ?_))
      · show sxWP sc cl Q 20 (27, [some (.ref 29), some (.int v1)], [], (cW nw kp im ol sn sr tp (mW mk mg mt mc T)), 0, 0)
        exact J27 _ _ hf
      · show sxWP sc cl Q 20 (18, [some (.ref 29), some (.int v1)], [], (cW nw kp im ol sn sr tp (mW mk mg mt mc T)), 0, 0)
        obtain ⟨g4, hf⟩ := grd_e hf
        refine stp hm 4 (And.intro (gi_in g4) (?_ : sxWP sc cl Q 20 (24, [some (.ref 29), some (.int v1)], [.int (ol.2.2.2.2.2.2.2.2.2.1 v1.toNatClampNeg)], (cW nw kp im ol sn sr tp (mW mk mg mt mc T)), 0, 0)))
        refine stp hm 1 (?_ : sxWP sc cl Q 20 (29, [some (.ref 29), some (.int v1)], [.int (ol.2.2.2.2.2.2.2.2.2.1 v1.toNatClampNeg)], (cW nw kp im ol sn sr tp (mW mk mg mt mc T)), 0, 0))
        exact J29 _ _ _ hf

def X_word_j54  (k0 : Int32) (okn_j : Int32) (org_j : Int64) (osi_j : Int32) (oti_j : Int32) (ole_j : Int32) (oto_j : Int32) (oow_j : Int64) (oco_j : Int64) (ost_j : (Nat → Int32)) (owa_j : (Nat → Int32)) (owv_j : (Nat → Int32)) (owh_j : (Nat → Int32)) (olo_j : (Nat → Int32)) (ohi_j : (Nat → Int32)) (odi_j : (Nat → Int32)) (oqu_j : (Nat → Int32)) : Option (Int32 × Int32 × Int64 × Int32 × Int32 × Int32 × Int32 × Int64 × Int64 × (Nat → Int32) × (Nat → Int32) × (Nat → Int32) × (Nat → Int32) × (Nat → Int32) × (Nat → Int32) × (Nat → Int32) × (Nat → Int32)) := some (k0, okn_j, org_j, osi_j, oti_j, ole_j, oto_j, oow_j, oco_j, ost_j, owa_j, owv_j, owh_j, olo_j, ohi_j, odi_j, oqu_j)
def X_word_j52  (okn_j : Int32) (org_j : Int64) (osi_j : Int32) (oti_j : Int32) (ole_j : Int32) (oto_j : Int32) (oow_j : Int64) (oco_j : Int64) (ost_j : (Nat → Int32)) (owa_j : (Nat → Int32)) (owv_j : (Nat → Int32)) (owh_j : (Nat → Int32)) (olo_j : (Nat → Int32)) (ohi_j : (Nat → Int32)) (odi_j : (Nat → Int32)) (oqu_j : (Nat → Int32)) : Option (Int32 × Int32 × Int64 × Int32 × Int32 × Int32 × Int32 × Int64 × Int64 × (Nat → Int32) × (Nat → Int32) × (Nat → Int32) × (Nat → Int32) × (Nat → Int32) × (Nat → Int32) × (Nat → Int32) × (Nat → Int32)) := X_word_j54 (-5:Int32) okn_j org_j osi_j oti_j ole_j oto_j oow_j oco_j ost_j owa_j owv_j owh_j olo_j ohi_j odi_j oqu_j
def X_word (v1 : Int32) (nrg : Int64) (okn : Int32) (org : Int64) (osi : Int32) (oti : Int32) (ole : Int32) (oto : Int32) (oow : Int64) (oco : Int64) (ost : (Nat → Int32)) (owa : (Nat → Int32)) (owv : (Nat → Int32)) (owh : (Nat → Int32)) (olo : (Nat → Int32)) (ohi : (Nat → Int32)) (ora : (Nat → Int32)) (odi : (Nat → Int32)) (oqu : (Nat → Int32)) : Option (Int32 × Int32 × Int64 × Int32 × Int32 × Int32 × Int32 × Int64 × Int64 × (Nat → Int32) × (Nat → Int32) × (Nat → Int32) × (Nat → Int32) × (Nat → Int32) × (Nat → Int32) × (Nat → Int32) × (Nat → Int32)) := if (0:Int32) ≤ v1 then (Option.bind (O_look nrg okn org osi oti ole oto oow oco ost owa owv owh olo ohi ora odi oqu) (fun q2 => if q2.2.2.1 = (0:Int32) then (X_word_j52 q2.1 q2.2.1 q2.2.2.1 q2.2.2.2.1 q2.2.2.2.2.1 q2.2.2.2.2.2.1 q2.2.2.2.2.2.2.1 q2.2.2.2.2.2.2.2.1 q2.2.2.2.2.2.2.2.2.1 q2.2.2.2.2.2.2.2.2.2.1 q2.2.2.2.2.2.2.2.2.2.2.1 q2.2.2.2.2.2.2.2.2.2.2.2.1 q2.2.2.2.2.2.2.2.2.2.2.2.2.1 q2.2.2.2.2.2.2.2.2.2.2.2.2.2.1 q2.2.2.2.2.2.2.2.2.2.2.2.2.2.2.1 q2.2.2.2.2.2.2.2.2.2.2.2.2.2.2.2) else (if q2.2.2.2.2.1 ≤ v1 then (X_word_j52 q2.1 q2.2.1 q2.2.2.1 q2.2.2.2.1 q2.2.2.2.2.1 q2.2.2.2.2.2.1 q2.2.2.2.2.2.2.1 q2.2.2.2.2.2.2.2.1 q2.2.2.2.2.2.2.2.2.1 q2.2.2.2.2.2.2.2.2.2.1 q2.2.2.2.2.2.2.2.2.2.2.1 q2.2.2.2.2.2.2.2.2.2.2.2.1 q2.2.2.2.2.2.2.2.2.2.2.2.2.1 q2.2.2.2.2.2.2.2.2.2.2.2.2.2.1 q2.2.2.2.2.2.2.2.2.2.2.2.2.2.2.1 q2.2.2.2.2.2.2.2.2.2.2.2.2.2.2.2) else (Option.bind (O_way v1 q2.2.2.2.2.1 q2.2.2.2.2.2.2.2.2.2.1) (fun q5 => X_word_j54 q5 q2.1 q2.2.1 q2.2.2.1 q2.2.2.2.1 q2.2.2.2.2.1 q2.2.2.2.2.2.1 q2.2.2.2.2.2.2.1 q2.2.2.2.2.2.2.2.1 q2.2.2.2.2.2.2.2.2.1 q2.2.2.2.2.2.2.2.2.2.1 q2.2.2.2.2.2.2.2.2.2.2.1 q2.2.2.2.2.2.2.2.2.2.2.2.1 q2.2.2.2.2.2.2.2.2.2.2.2.2.1 q2.2.2.2.2.2.2.2.2.2.2.2.2.2.1 q2.2.2.2.2.2.2.2.2.2.2.2.2.2.2.1 q2.2.2.2.2.2.2.2.2.2.2.2.2.2.2.2))))) else (some ((-1:Int32), okn, org, osi, oti, ole, oto, oow, oco, ost, owa, owv, owh, olo, ohi, odi, oqu))
set_option maxRecDepth 10000 in
theorem X_word_ok {v1 : Int32} {q : (Int32 × Int32 × Int64 × Int32 × Int32 × Int32 × Int32 × Int64 × Int64 × (Nat → Int32) × (Nat → Int32) × (Nat → Int32) × (Nat → Int32) × (Nat → Int32) × (Nat → Int32) × (Nat → Int32) × (Nat → Int32))} (hc : call = sxE sc (d + 5)) (hf : X_word v1 nw.1 ol.1 ol.2.1 ol.2.2.1 ol.2.2.2.1 ol.2.2.2.2.1 ol.2.2.2.2.2.1 ol.2.2.2.2.2.2.1 ol.2.2.2.2.2.2.2.1 ol.2.2.2.2.2.2.2.2.1 ol.2.2.2.2.2.2.2.2.2.1 ol.2.2.2.2.2.2.2.2.2.2.1 ol.2.2.2.2.2.2.2.2.2.2.2.1 ol.2.2.2.2.2.2.2.2.2.2.2.2.1 ol.2.2.2.2.2.2.2.2.2.2.2.2.2.1 ol.2.2.2.2.2.2.2.2.2.2.2.2.2.2.1 ol.2.2.2.2.2.2.2.2.2.2.2.2.2.2.2.1 ol.2.2.2.2.2.2.2.2.2.2.2.2.2.2.2.2 = some q) (h : Q (some (.int q.1)) (cW nw kp im (q.2.1, q.2.2.1, q.2.2.2.1, q.2.2.2.2.1, q.2.2.2.2.2.1, q.2.2.2.2.2.2.1, q.2.2.2.2.2.2.2.1, q.2.2.2.2.2.2.2.2.1, q.2.2.2.2.2.2.2.2.2.1, q.2.2.2.2.2.2.2.2.2.2.1, q.2.2.2.2.2.2.2.2.2.2.2.1, q.2.2.2.2.2.2.2.2.2.2.2.2.1, q.2.2.2.2.2.2.2.2.2.2.2.2.2.1, q.2.2.2.2.2.2.2.2.2.2.2.2.2.2.1, ol.2.2.2.2.2.2.2.2.2.2.2.2.2.2.1, q.2.2.2.2.2.2.2.2.2.2.2.2.2.2.2.1, q.2.2.2.2.2.2.2.2.2.2.2.2.2.2.2.2) sn sr tp (mW mk mg mt mc T))) : call 105 [.ref 0, .int v1] (cW nw kp im ol sn sr tp (mW mk mg mt mc T)) Q := by
  refine ent hc rfl (fun cl hE hm => ?_)
  have J54 : ∀ (k0 : Int32) (okn_j : Int32) (org_j : Int64) (osi_j : Int32) (oti_j : Int32) (ole_j : Int32) (oto_j : Int32) (oow_j : Int64) (oco_j : Int64) (ost_j : (Nat → Int32)) (owa_j : (Nat → Int32)) (owv_j : (Nat → Int32)) (owh_j : (Nat → Int32)) (olo_j : (Nat → Int32)) (ohi_j : (Nat → Int32)) (odi_j : (Nat → Int32)) (oqu_j : (Nat → Int32)) (z0 : Option Value) (z1 : Option Value), X_word_j54 k0 okn_j org_j osi_j oti_j ole_j oto_j oow_j oco_j ost_j owa_j owv_j owh_j olo_j ohi_j odi_j oqu_j = some q → sxWP sc cl Q 105 (54, [z0, z1], [.int k0], (cW nw kp im (okn_j, org_j, osi_j, oti_j, ole_j, oto_j, oow_j, oco_j, ost_j, owa_j, owv_j, owh_j, olo_j, ohi_j, ol.2.2.2.2.2.2.2.2.2.2.2.2.2.2.1, odi_j, oqu_j) sn sr tp (mW mk mg mt mc T)), 0, 0) := by
    intro k0 okn_j org_j osi_j oti_j ole_j oto_j oow_j oco_j ost_j owa_j owv_j owh_j olo_j ohi_j odi_j oqu_j z0 z1 hf
    unfold X_word_j54 at hf
    obtain rfl := Option.some.inj hf
    refine stp hm 1 ?_
    exact h
  have J52 : ∀ (okn_j : Int32) (org_j : Int64) (osi_j : Int32) (oti_j : Int32) (ole_j : Int32) (oto_j : Int32) (oow_j : Int64) (oco_j : Int64) (ost_j : (Nat → Int32)) (owa_j : (Nat → Int32)) (owv_j : (Nat → Int32)) (owh_j : (Nat → Int32)) (olo_j : (Nat → Int32)) (ohi_j : (Nat → Int32)) (odi_j : (Nat → Int32)) (oqu_j : (Nat → Int32)) (z0 : Option Value) (z1 : Option Value), X_word_j52 okn_j org_j osi_j oti_j ole_j oto_j oow_j oco_j ost_j owa_j owv_j owh_j olo_j ohi_j odi_j oqu_j = some q → sxWP sc cl Q 105 (52, [z0, z1], [], (cW nw kp im (okn_j, org_j, osi_j, oti_j, ole_j, oto_j, oow_j, oco_j, ost_j, owa_j, owv_j, owh_j, olo_j, ohi_j, ol.2.2.2.2.2.2.2.2.2.2.2.2.2.2.1, odi_j, oqu_j) sn sr tp (mW mk mg mt mc T)), 0, 0) := by
    intro okn_j org_j osi_j oti_j ole_j oto_j oow_j oco_j ost_j owa_j owv_j owh_j olo_j ohi_j odi_j oqu_j z0 z1 hf
    unfold X_word_j52 at hf
    refine stp hm 1 (?_ : sxWP sc cl Q 105 (54, [z0, z1], [.int (-5:Int32)], (cW nw kp im (okn_j, org_j, osi_j, oti_j, ole_j, oto_j, oow_j, oco_j, ost_j, owa_j, owv_j, owh_j, olo_j, ohi_j, ol.2.2.2.2.2.2.2.2.2.2.2.2.2.2.1, odi_j, oqu_j) sn sr tp (mW mk mg mt mc T)), 0, 0))
    exact J54 _ _ _ _ _ _ _ _ _ _ _ _ _ _ _ _ _ _ _ hf
  unfold X_word at hf
  refine stp hm 2 (br hf (fun c1 hf => ?_) (fun c1 hf => ?_))
  · show sxWP sc cl Q 105 (6, [some (.ref 0), some (.int v1)], [], (cW nw kp im ol sn sr tp (mW mk mg mt mc T)), 0, 0)
    obtain ⟨q2, hq2, hf⟩ := bnd hf
    refine stp hm 6 (O_look_ok hE hq2 ?_)
    show sxWP sc cl Q 105 (20, [some (.ref 0), some (.int v1)], [], (cW nw kp im (q2.1, q2.2.1, q2.2.2.1, q2.2.2.2.1, q2.2.2.2.2.1, q2.2.2.2.2.2.1, q2.2.2.2.2.2.2.1, q2.2.2.2.2.2.2.2.1, q2.2.2.2.2.2.2.2.2.1, q2.2.2.2.2.2.2.2.2.2.1, q2.2.2.2.2.2.2.2.2.2.2.1, q2.2.2.2.2.2.2.2.2.2.2.2.1, q2.2.2.2.2.2.2.2.2.2.2.2.2.1, q2.2.2.2.2.2.2.2.2.2.2.2.2.2.1, ol.2.2.2.2.2.2.2.2.2.2.2.2.2.2.1, q2.2.2.2.2.2.2.2.2.2.2.2.2.2.2.1, q2.2.2.2.2.2.2.2.2.2.2.2.2.2.2.2) sn sr tp (mW mk mg mt mc T)), 0, 0)
    refine stp hm 4 (br hf (fun c3 hf => ?_) (fun c3 hf => ?_))
    · show sxWP sc cl Q 105 (52, [some (.ref 0), some (.int v1)], [], (cW nw kp im (q2.1, q2.2.1, q2.2.2.1, q2.2.2.2.1, q2.2.2.2.2.1, q2.2.2.2.2.2.1, q2.2.2.2.2.2.2.1, q2.2.2.2.2.2.2.2.1, q2.2.2.2.2.2.2.2.2.1, q2.2.2.2.2.2.2.2.2.2.1, q2.2.2.2.2.2.2.2.2.2.2.1, q2.2.2.2.2.2.2.2.2.2.2.2.1, q2.2.2.2.2.2.2.2.2.2.2.2.2.1, q2.2.2.2.2.2.2.2.2.2.2.2.2.2.1, ol.2.2.2.2.2.2.2.2.2.2.2.2.2.2.1, q2.2.2.2.2.2.2.2.2.2.2.2.2.2.2.1, q2.2.2.2.2.2.2.2.2.2.2.2.2.2.2.2) sn sr tp (mW mk mg mt mc T)), 0, 0)
      exact J52 _ _ _ _ _ _ _ _ _ _ _ _ _ _ _ _ _ _ hf
    · show sxWP sc cl Q 105 (30, [some (.ref 0), some (.int v1)], [], (cW nw kp im (q2.1, q2.2.1, q2.2.2.1, q2.2.2.2.1, q2.2.2.2.2.1, q2.2.2.2.2.2.1, q2.2.2.2.2.2.2.1, q2.2.2.2.2.2.2.2.1, q2.2.2.2.2.2.2.2.2.1, q2.2.2.2.2.2.2.2.2.2.1, q2.2.2.2.2.2.2.2.2.2.2.1, q2.2.2.2.2.2.2.2.2.2.2.2.1, q2.2.2.2.2.2.2.2.2.2.2.2.2.1, q2.2.2.2.2.2.2.2.2.2.2.2.2.2.1, ol.2.2.2.2.2.2.2.2.2.2.2.2.2.2.1, q2.2.2.2.2.2.2.2.2.2.2.2.2.2.2.1, q2.2.2.2.2.2.2.2.2.2.2.2.2.2.2.2) sn sr tp (mW mk mg mt mc T)), 0, 0)
      refine stp hm 5 (br hf (fun c4 hf => ?_) (fun c4 hf => ?_))
      · show sxWP sc cl Q 105 (52, [some (.ref 0), some (.int v1)], [], (cW nw kp im (q2.1, q2.2.1, q2.2.2.1, q2.2.2.2.1, q2.2.2.2.2.1, q2.2.2.2.2.2.1, q2.2.2.2.2.2.2.1, q2.2.2.2.2.2.2.2.1, q2.2.2.2.2.2.2.2.2.1, q2.2.2.2.2.2.2.2.2.2.1, q2.2.2.2.2.2.2.2.2.2.2.1, q2.2.2.2.2.2.2.2.2.2.2.2.1, q2.2.2.2.2.2.2.2.2.2.2.2.2.1, q2.2.2.2.2.2.2.2.2.2.2.2.2.2.1, ol.2.2.2.2.2.2.2.2.2.2.2.2.2.2.1, q2.2.2.2.2.2.2.2.2.2.2.2.2.2.2.1, q2.2.2.2.2.2.2.2.2.2.2.2.2.2.2.2) sn sr tp (mW mk mg mt mc T)), 0, 0)
        exact J52 _ _ _ _ _ _ _ _ _ _ _ _ _ _ _ _ _ _ hf
      · show sxWP sc cl Q 105 (41, [some (.ref 0), some (.int v1)], [], (cW nw kp im (q2.1, q2.2.1, q2.2.2.1, q2.2.2.2.1, q2.2.2.2.2.1, q2.2.2.2.2.2.1, q2.2.2.2.2.2.2.1, q2.2.2.2.2.2.2.2.1, q2.2.2.2.2.2.2.2.2.1, q2.2.2.2.2.2.2.2.2.2.1, q2.2.2.2.2.2.2.2.2.2.2.1, q2.2.2.2.2.2.2.2.2.2.2.2.1, q2.2.2.2.2.2.2.2.2.2.2.2.2.1, q2.2.2.2.2.2.2.2.2.2.2.2.2.2.1, ol.2.2.2.2.2.2.2.2.2.2.2.2.2.2.1, q2.2.2.2.2.2.2.2.2.2.2.2.2.2.2.1, q2.2.2.2.2.2.2.2.2.2.2.2.2.2.2.2) sn sr tp (mW mk mg mt mc T)), 0, 0)
        obtain ⟨q5, hq5, hf⟩ := bnd hf
        refine stp hm 4 (O_way_ok hE hq5 ?_)
        show sxWP sc cl Q 105 (49, [some (.ref 0), some (.int v1)], [.int q5], (cW nw kp im (q2.1, q2.2.1, q2.2.2.1, q2.2.2.2.1, q2.2.2.2.2.1, q2.2.2.2.2.2.1, q2.2.2.2.2.2.2.1, q2.2.2.2.2.2.2.2.1, q2.2.2.2.2.2.2.2.2.1, q2.2.2.2.2.2.2.2.2.2.1, q2.2.2.2.2.2.2.2.2.2.2.1, q2.2.2.2.2.2.2.2.2.2.2.2.1, q2.2.2.2.2.2.2.2.2.2.2.2.2.1, q2.2.2.2.2.2.2.2.2.2.2.2.2.2.1, ol.2.2.2.2.2.2.2.2.2.2.2.2.2.2.1, q2.2.2.2.2.2.2.2.2.2.2.2.2.2.2.1, q2.2.2.2.2.2.2.2.2.2.2.2.2.2.2.2) sn sr tp (mW mk mg mt mc T)), 0, 0)
        refine stp hm 1 (?_ : sxWP sc cl Q 105 (54, [some (.ref 0), some (.int v1)], [.int q5], (cW nw kp im (q2.1, q2.2.1, q2.2.2.1, q2.2.2.2.1, q2.2.2.2.2.1, q2.2.2.2.2.2.1, q2.2.2.2.2.2.2.1, q2.2.2.2.2.2.2.2.1, q2.2.2.2.2.2.2.2.2.1, q2.2.2.2.2.2.2.2.2.2.1, q2.2.2.2.2.2.2.2.2.2.2.1, q2.2.2.2.2.2.2.2.2.2.2.2.1, q2.2.2.2.2.2.2.2.2.2.2.2.2.1, q2.2.2.2.2.2.2.2.2.2.2.2.2.2.1, ol.2.2.2.2.2.2.2.2.2.2.2.2.2.2.1, q2.2.2.2.2.2.2.2.2.2.2.2.2.2.2.1, q2.2.2.2.2.2.2.2.2.2.2.2.2.2.2.2) sn sr tp (mW mk mg mt mc T)), 0, 0))
        exact J54 _ _ _ _ _ _ _ _ _ _ _ _ _ _ _ _ _ _ _ hf
  · show sxWP sc cl Q 105 (4, [some (.ref 0), some (.int v1)], [], (cW nw kp im ol sn sr tp (mW mk mg mt mc T)), 0, 0)
    obtain rfl := Option.some.inj hf
    refine stp hm 2 ?_
    exact h

def M_word_j26  (k0 : Int32) (gle_j : Int32) (gsu_j : Int32) (gma_j : (Nat → Int32)) (gpi_j : (Nat → Int32)) (gst_j : (Nat → Int32)) (ghe_j : (Nat → Int32)) (gow_j : (Nat → Int32)) : Option (Int32 × Int32 × Int32 × (Nat → Int32) × (Nat → Int32) × (Nat → Int32) × (Nat → Int32) × (Nat → Int32)) := some (k0, gle_j, gsu_j, gma_j, gpi_j, gst_j, ghe_j, gow_j)
def M_word (v1 : Int32) (mrg : Int64) (gle : Int32) (gsu : Int32) (gma : (Nat → Int32)) (gpi : (Nat → Int32)) (gst : (Nat → Int32)) (ghe : (Nat → Int32)) (gow : (Nat → Int32)) : Option (Int32 × Int32 × Int32 × (Nat → Int32) × (Nat → Int32) × (Nat → Int32) × (Nat → Int32) × (Nat → Int32)) := if (0:Int32) ≤ v1 then (Option.bind (M_wordTold (0:Int32) mrg gle gsu gma gpi gst ghe gow) (fun q2 => if q2.1 ≤ v1 then (M_word_j26 (-5:Int32) q2.2.1 q2.2.2.1 q2.2.2.2.1 q2.2.2.2.2.1 q2.2.2.2.2.2.1 q2.2.2.2.2.2.2.1 q2.2.2.2.2.2.2.2) else (grd (gi v1 160) (M_word_j26 (q2.2.2.2.2.2.1 v1.toNatClampNeg) q2.2.1 q2.2.2.1 q2.2.2.2.1 q2.2.2.2.2.1 q2.2.2.2.2.2.1 q2.2.2.2.2.2.2.1 q2.2.2.2.2.2.2.2)))) else (some ((-1:Int32), gle, gsu, gma, gpi, gst, ghe, gow))
set_option maxRecDepth 10000 in
theorem M_word_ok {v1 : Int32} {q : (Int32 × Int32 × Int32 × (Nat → Int32) × (Nat → Int32) × (Nat → Int32) × (Nat → Int32) × (Nat → Int32))} (hc : call = sxE sc (d + 6)) (hf : M_word v1 mk.1 mg.2.2.1 mg.2.2.2.1 mg.1 mg.2.1 mg.2.2.2.2.1 mg.2.2.2.2.2.1 mg.2.2.2.2.2.2.1 = some q) (h : Q (some (.int q.1)) (cW nw kp im ol sn sr tp (mW mk (q.2.2.2.1, q.2.2.2.2.1, q.2.1, q.2.2.1, q.2.2.2.2.2.1, q.2.2.2.2.2.2.1, q.2.2.2.2.2.2.2, mg.2.2.2.2.2.2.2.1, mg.2.2.2.2.2.2.2.2.1, mg.2.2.2.2.2.2.2.2.2.1, mg.2.2.2.2.2.2.2.2.2.2.1, mg.2.2.2.2.2.2.2.2.2.2.2.1, mg.2.2.2.2.2.2.2.2.2.2.2.2) mt mc T))) : call 203 [.ref 59, .int v1] (cW nw kp im ol sn sr tp (mW mk mg mt mc T)) Q := by
  refine ent hc rfl (fun cl hE hm => ?_)
  have J26 : ∀ (k0 : Int32) (gle_j : Int32) (gsu_j : Int32) (gma_j : (Nat → Int32)) (gpi_j : (Nat → Int32)) (gst_j : (Nat → Int32)) (ghe_j : (Nat → Int32)) (gow_j : (Nat → Int32)) (z0 : Option Value) (z1 : Option Value), M_word_j26 k0 gle_j gsu_j gma_j gpi_j gst_j ghe_j gow_j = some q → sxWP sc cl Q 203 (26, [z0, z1], [.int k0], (cW nw kp im ol sn sr tp (mW mk (gma_j, gpi_j, gle_j, gsu_j, gst_j, ghe_j, gow_j, mg.2.2.2.2.2.2.2.1, mg.2.2.2.2.2.2.2.2.1, mg.2.2.2.2.2.2.2.2.2.1, mg.2.2.2.2.2.2.2.2.2.2.1, mg.2.2.2.2.2.2.2.2.2.2.2.1, mg.2.2.2.2.2.2.2.2.2.2.2.2) mt mc T)), 0, 0) := by
    intro k0 gle_j gsu_j gma_j gpi_j gst_j ghe_j gow_j z0 z1 hf
    unfold M_word_j26 at hf
    obtain rfl := Option.some.inj hf
    refine stp hm 1 ?_
    exact h
  unfold M_word at hf
  refine stp hm 2 (br hf (fun c1 hf => ?_) (fun c1 hf => ?_))
  · show sxWP sc cl Q 203 (6, [some (.ref 59), some (.int v1)], [], (cW nw kp im ol sn sr tp (mW mk mg mt mc T)), 0, 0)
    obtain ⟨q2, hq2, hf⟩ := bnd hf
    refine stp hm 3 (M_wordTold_ok hE hq2 ?_)
    show sxWP sc cl Q 203 (11, [some (.ref 59), some (.int v1)], [.int q2.1], (cW nw kp im ol sn sr tp (mW mk (q2.2.2.2.1, q2.2.2.2.2.1, q2.2.1, q2.2.2.1, q2.2.2.2.2.2.1, q2.2.2.2.2.2.2.1, q2.2.2.2.2.2.2.2, mg.2.2.2.2.2.2.2.1, mg.2.2.2.2.2.2.2.2.1, mg.2.2.2.2.2.2.2.2.2.1, mg.2.2.2.2.2.2.2.2.2.2.1, mg.2.2.2.2.2.2.2.2.2.2.2.1, mg.2.2.2.2.2.2.2.2.2.2.2.2) mt mc T)), 0, 0)
    refine stp hm 2 (br hf (fun c3 hf => ?_) (fun c3 hf => ?_))
    · show sxWP sc cl Q 203 (24, [some (.ref 59), some (.int v1)], [], (cW nw kp im ol sn sr tp (mW mk (q2.2.2.2.1, q2.2.2.2.2.1, q2.2.1, q2.2.2.1, q2.2.2.2.2.2.1, q2.2.2.2.2.2.2.1, q2.2.2.2.2.2.2.2, mg.2.2.2.2.2.2.2.1, mg.2.2.2.2.2.2.2.2.1, mg.2.2.2.2.2.2.2.2.2.1, mg.2.2.2.2.2.2.2.2.2.2.1, mg.2.2.2.2.2.2.2.2.2.2.2.1, mg.2.2.2.2.2.2.2.2.2.2.2.2) mt mc T)), 0, 0)
      refine stp hm 1 (?_ : sxWP sc cl Q 203 (26, [some (.ref 59), some (.int v1)], [.int (-5:Int32)], (cW nw kp im ol sn sr tp (mW mk (q2.2.2.2.1, q2.2.2.2.2.1, q2.2.1, q2.2.2.1, q2.2.2.2.2.2.1, q2.2.2.2.2.2.2.1, q2.2.2.2.2.2.2.2, mg.2.2.2.2.2.2.2.1, mg.2.2.2.2.2.2.2.2.1, mg.2.2.2.2.2.2.2.2.2.1, mg.2.2.2.2.2.2.2.2.2.2.1, mg.2.2.2.2.2.2.2.2.2.2.2.1, mg.2.2.2.2.2.2.2.2.2.2.2.2) mt mc T)), 0, 0))
      exact J26 _ _ _ _ _ _ _ _ _ _ hf
    · show sxWP sc cl Q 203 (15, [some (.ref 59), some (.int v1)], [], (cW nw kp im ol sn sr tp (mW mk (q2.2.2.2.1, q2.2.2.2.2.1, q2.2.1, q2.2.2.1, q2.2.2.2.2.2.1, q2.2.2.2.2.2.2.1, q2.2.2.2.2.2.2.2, mg.2.2.2.2.2.2.2.1, mg.2.2.2.2.2.2.2.2.1, mg.2.2.2.2.2.2.2.2.2.1, mg.2.2.2.2.2.2.2.2.2.2.1, mg.2.2.2.2.2.2.2.2.2.2.2.1, mg.2.2.2.2.2.2.2.2.2.2.2.2) mt mc T)), 0, 0)
      obtain ⟨g4, hf⟩ := grd_e hf
      refine stp hm 4 (And.intro (gi_in g4) (?_ : sxWP sc cl Q 203 (21, [some (.ref 59), some (.int v1)], [.int (q2.2.2.2.2.2.1 v1.toNatClampNeg)], (cW nw kp im ol sn sr tp (mW mk (q2.2.2.2.1, q2.2.2.2.2.1, q2.2.1, q2.2.2.1, q2.2.2.2.2.2.1, q2.2.2.2.2.2.2.1, q2.2.2.2.2.2.2.2, mg.2.2.2.2.2.2.2.1, mg.2.2.2.2.2.2.2.2.1, mg.2.2.2.2.2.2.2.2.2.1, mg.2.2.2.2.2.2.2.2.2.2.1, mg.2.2.2.2.2.2.2.2.2.2.2.1, mg.2.2.2.2.2.2.2.2.2.2.2.2) mt mc T)), 0, 0)))
      refine stp hm 1 (?_ : sxWP sc cl Q 203 (26, [some (.ref 59), some (.int v1)], [.int (q2.2.2.2.2.2.1 v1.toNatClampNeg)], (cW nw kp im ol sn sr tp (mW mk (q2.2.2.2.1, q2.2.2.2.2.1, q2.2.1, q2.2.2.1, q2.2.2.2.2.2.1, q2.2.2.2.2.2.2.1, q2.2.2.2.2.2.2.2, mg.2.2.2.2.2.2.2.1, mg.2.2.2.2.2.2.2.2.1, mg.2.2.2.2.2.2.2.2.2.1, mg.2.2.2.2.2.2.2.2.2.2.1, mg.2.2.2.2.2.2.2.2.2.2.2.1, mg.2.2.2.2.2.2.2.2.2.2.2.2) mt mc T)), 0, 0))
      exact J26 _ _ _ _ _ _ _ _ _ _ hf
  · show sxWP sc cl Q 203 (4, [some (.ref 59), some (.int v1)], [], (cW nw kp im ol sn sr tp (mW mk mg mt mc T)), 0, 0)
    obtain rfl := Option.some.inj hf
    refine stp hm 2 ?_
    exact h

def X_heightOnWord_j52  (k0 : Int32) : Option Int32 := some k0
def X_heightOnWord_j20   : Option Int32 := some (-3:Int32)
def X_heightOnWord (v1 : Int32) (osi : Int32) (oto : Int32) (oow : Int64) (owh : (Nat → Int32)) (olo : (Nat → Int32)) (ohi : (Nat → Int32)) (ora : (Nat → Int32)) : Option Int32 := if osi = (0:Int32) then X_heightOnWord_j20 else (if oto = (0:Int32) then (if (O_isOnWord v1 oow) = (0:Int32) then (X_heightOnWord_j52 (-5:Int32)) else (Option.bind (O_level v1 (0:Int32) owh olo ohi ora) (fun q4 => X_heightOnWord_j52 (q4 + (1000:Int32))))) else X_heightOnWord_j20)
set_option maxRecDepth 10000 in
theorem X_heightOnWord_ok {v1 : Int32} {q : Int32} (hc : call = sxE sc (d + 3)) (hf : X_heightOnWord v1 ol.2.2.1 ol.2.2.2.2.2.1 ol.2.2.2.2.2.2.1 ol.2.2.2.2.2.2.2.2.2.2.2.1 ol.2.2.2.2.2.2.2.2.2.2.2.2.1 ol.2.2.2.2.2.2.2.2.2.2.2.2.2.1 ol.2.2.2.2.2.2.2.2.2.2.2.2.2.2.1 = some q) (h : Q (some (.int q)) (cW nw kp im ol sn sr tp (mW mk mg mt mc T))) : call 107 [.ref 0, .int v1] (cW nw kp im ol sn sr tp (mW mk mg mt mc T)) Q := by
  refine ent hc rfl (fun cl hE hm => ?_)
  have J52 : ∀ (k0 : Int32) (z0 : Option Value) (z1 : Option Value), X_heightOnWord_j52 k0 = some q → sxWP sc cl Q 107 (52, [z0, z1], [.int k0], (cW nw kp im ol sn sr tp (mW mk mg mt mc T)), 0, 0) := by
    intro k0 z0 z1 hf
    unfold X_heightOnWord_j52 at hf
    obtain rfl := Option.some.inj hf
    refine stp hm 1 ?_
    exact h
  have J20 : ∀  (z0 : Option Value) (z1 : Option Value), X_heightOnWord_j20 = some q → sxWP sc cl Q 107 (20, [z0, z1], [], (cW nw kp im ol sn sr tp (mW mk mg mt mc T)), 0, 0) := by
    intro z0 z1 hf
    unfold X_heightOnWord_j20 at hf
    obtain rfl := Option.some.inj hf
    refine stp hm 2 ?_
    exact h
  unfold X_heightOnWord at hf
  refine stp hm 4 (br hf (fun c1 hf => ?_) (fun c1 hf => ?_))
  · show sxWP sc cl Q 107 (20, [some (.ref 0), some (.int v1)], [], (cW nw kp im ol sn sr tp (mW mk mg mt mc T)), 0, 0)
    exact J20 _ _ hf
  · show sxWP sc cl Q 107 (10, [some (.ref 0), some (.int v1)], [], (cW nw kp im ol sn sr tp (mW mk mg mt mc T)), 0, 0)
    refine stp hm 4 (br hf (fun c2 hf => ?_) (fun c2 hf => ?_))
    · show sxWP sc cl Q 107 (23, [some (.ref 0), some (.int v1)], [], (cW nw kp im ol sn sr tp (mW mk mg mt mc T)), 0, 0)
      refine stp hm 4 (O_isOnWord_ok hE rfl ?_)
      show sxWP sc cl Q 107 (31, [some (.ref 0), some (.int v1)], [.int (O_isOnWord v1 ol.2.2.2.2.2.2.1)], (cW nw kp im ol sn sr tp (mW mk mg mt mc T)), 0, 0)
      refine stp hm 1 (br hf (fun c3 hf => ?_) (fun c3 hf => ?_))
      · show sxWP sc cl Q 107 (50, [some (.ref 0), some (.int v1)], [], (cW nw kp im ol sn sr tp (mW mk mg mt mc T)), 0, 0)
        refine stp hm 1 (?_ : sxWP sc cl Q 107 (52, [some (.ref 0), some (.int v1)], [.int (-5:Int32)], (cW nw kp im ol sn sr tp (mW mk mg mt mc T)), 0, 0))
        exact J52 _ _ _ hf
      · show sxWP sc cl Q 107 (34, [some (.ref 0), some (.int v1)], [], (cW nw kp im ol sn sr tp (mW mk mg mt mc T)), 0, 0)
        obtain ⟨q4, hq4, hf⟩ := bnd hf
        refine stp hm 5 (O_level_ok hE hq4 ?_)
        show sxWP sc cl Q 107 (43, [some (.ref 0), some (.int v1)], [.int q4], (cW nw kp im ol sn sr tp (mW mk mg mt mc T)), 0, 0)
        refine stp hm 3 (?_ : sxWP sc cl Q 107 (52, [some (.ref 0), some (.int v1)], [.int (q4 + (1000:Int32))], (cW nw kp im ol sn sr tp (mW mk mg mt mc T)), 0, 0))
        exact J52 _ _ _ hf
    · show sxWP sc cl Q 107 (20, [some (.ref 0), some (.int v1)], [], (cW nw kp im ol sn sr tp (mW mk mg mt mc T)), 0, 0)
      exact J20 _ _ hf

def X_height_j103  (v1 : Int32) (v2 : Int32) (okn_j : Int32) (org_j : Int64) (osi_j : Int32) (oti_j : Int32) (ole_j : Int32) (oto_j : Int32) (oow_j : Int64) (oco_j : Int64) (ost_j : (Nat → Int32)) (owa_j : (Nat → Int32)) (owv_j : (Nat → Int32)) (owh_j : (Nat → Int32)) (olo_j : (Nat → Int32)) (ohi_j : (Nat → Int32)) (ora_j : (Nat → Int32)) (odi_j : (Nat → Int32)) (oqu_j : (Nat → Int32)) : Option (Int32 × Int32 × Int64 × Int32 × Int32 × Int32 × Int32 × Int64 × Int64 × (Nat → Int32) × (Nat → Int32) × (Nat → Int32) × (Nat → Int32) × (Nat → Int32) × (Nat → Int32) × (Nat → Int32) × (Nat → Int32) × (Nat → Int32)) := Option.bind (O_level v1 v2 owh_j olo_j ohi_j ora_j) (fun q1 => some (q1 + (1000:Int32), okn_j, org_j, osi_j, oti_j, ole_j, oto_j, oow_j, oco_j, ost_j, owa_j, owv_j, owh_j, olo_j, ohi_j, ora_j, odi_j, oqu_j))
def X_height_j73  (v1 : Int32) (v2 : Int32) (okn_j : Int32) (org_j : Int64) (osi_j : Int32) (oti_j : Int32) (ole_j : Int32) (oto_j : Int32) (oow_j : Int64) (oco_j : Int64) (ost_j : (Nat → Int32)) (owa_j : (Nat → Int32)) (owv_j : (Nat → Int32)) (owh_j : (Nat → Int32)) (olo_j : (Nat → Int32)) (ohi_j : (Nat → Int32)) (ora_j : (Nat → Int32)) (odi_j : (Nat → Int32)) (oqu_j : (Nat → Int32)) (nld : Int32) (nmt : (Nat → Int32)) : Option (Int32 × Int32 × Int64 × Int32 × Int32 × Int32 × Int32 × Int64 × Int64 × (Nat → Int32) × (Nat → Int32) × (Nat → Int32) × (Nat → Int32) × (Nat → Int32) × (Nat → Int32) × (Nat → Int32) × (Nat → Int32) × (Nat → Int32)) := if (O_isCorner v1 oco_j) = (0:Int32) then (some ((-5:Int32), okn_j, org_j, osi_j, oti_j, ole_j, oto_j, oow_j, oco_j, ost_j, owa_j, owv_j, owh_j, olo_j, ohi_j, ora_j, odi_j, oqu_j)) else (if v2 = (3:Int32) then (Option.bind (O_raise nld nmt oow_j oco_j ost_j owh_j ora_j) (fun q4 => X_height_j103 v1 v2 okn_j org_j osi_j oti_j ole_j oto_j oow_j oco_j ost_j owa_j owv_j owh_j olo_j ohi_j q4 odi_j oqu_j)) else (X_height_j103 v1 v2 okn_j org_j osi_j oti_j ole_j oto_j oow_j oco_j ost_j owa_j owv_j owh_j olo_j ohi_j ora_j odi_j oqu_j))
def X_height_j70  (okn_j : Int32) (org_j : Int64) (osi_j : Int32) (oti_j : Int32) (ole_j : Int32) (oto_j : Int32) (oow_j : Int64) (oco_j : Int64) (ost_j : (Nat → Int32)) (owa_j : (Nat → Int32)) (owv_j : (Nat → Int32)) (owh_j : (Nat → Int32)) (olo_j : (Nat → Int32)) (ohi_j : (Nat → Int32)) (ora_j : (Nat → Int32)) (odi_j : (Nat → Int32)) (oqu_j : (Nat → Int32)) : Option (Int32 × Int32 × Int64 × Int32 × Int32 × Int32 × Int32 × Int64 × Int64 × (Nat → Int32) × (Nat → Int32) × (Nat → Int32) × (Nat → Int32) × (Nat → Int32) × (Nat → Int32) × (Nat → Int32) × (Nat → Int32) × (Nat → Int32)) := some ((-3:Int32), okn_j, org_j, osi_j, oti_j, ole_j, oto_j, oow_j, oco_j, ost_j, owa_j, owv_j, owh_j, olo_j, ohi_j, ora_j, odi_j, oqu_j)
def X_height_j16  (okn_j : Int32) (org_j : Int64) (osi_j : Int32) (oti_j : Int32) (ole_j : Int32) (oto_j : Int32) (oow_j : Int64) (oco_j : Int64) (ost_j : (Nat → Int32)) (owa_j : (Nat → Int32)) (owv_j : (Nat → Int32)) (owh_j : (Nat → Int32)) (olo_j : (Nat → Int32)) (ohi_j : (Nat → Int32)) (ora_j : (Nat → Int32)) (odi_j : (Nat → Int32)) (oqu_j : (Nat → Int32)) : Option (Int32 × Int32 × Int64 × Int32 × Int32 × Int32 × Int32 × Int64 × Int64 × (Nat → Int32) × (Nat → Int32) × (Nat → Int32) × (Nat → Int32) × (Nat → Int32) × (Nat → Int32) × (Nat → Int32) × (Nat → Int32) × (Nat → Int32)) := some ((-1:Int32), okn_j, org_j, osi_j, oti_j, ole_j, oto_j, oow_j, oco_j, ost_j, owa_j, owv_j, owh_j, olo_j, ohi_j, ora_j, odi_j, oqu_j)
def X_height (v1 : Int32) (v2 : Int32) (nrg : Int64) (nld : Int32) (nmt : (Nat → Int32)) (okn : Int32) (org : Int64) (osi : Int32) (oti : Int32) (ole : Int32) (oto : Int32) (oow : Int64) (oco : Int64) (ost : (Nat → Int32)) (owa : (Nat → Int32)) (owv : (Nat → Int32)) (owh : (Nat → Int32)) (olo : (Nat → Int32)) (ohi : (Nat → Int32)) (ora : (Nat → Int32)) (odi : (Nat → Int32)) (oqu : (Nat → Int32)) : Option (Int32 × Int32 × Int64 × Int32 × Int32 × Int32 × Int32 × Int64 × Int64 × (Nat → Int32) × (Nat → Int32) × (Nat → Int32) × (Nat → Int32) × (Nat → Int32) × (Nat → Int32) × (Nat → Int32) × (Nat → Int32) × (Nat → Int32)) := if (G_isVertex v1) = (0:Int32) then (X_height_j16 okn org osi oti ole oto oow oco ost owa owv owh olo ohi ora odi oqu) else (if v2 < (0:Int32) then (X_height_j16 okn org osi oti ole oto oow oco ost owa owv owh olo ohi ora odi oqu) else (if v2 ≤ (3:Int32) then (Option.bind (O_look nrg okn org osi oti ole oto oow oco ost owa owv owh olo ohi ora odi oqu) (fun q8 => if v2 = (0:Int32) then (Option.bind (X_heightOnWord v1 q8.2.2.1 q8.2.2.2.2.2.1 q8.2.2.2.2.2.2.1 q8.2.2.2.2.2.2.2.2.2.2.2.1 q8.2.2.2.2.2.2.2.2.2.2.2.2.1 q8.2.2.2.2.2.2.2.2.2.2.2.2.2.1 ora) (fun q13 => some (q13, q8.1, q8.2.1, q8.2.2.1, q8.2.2.2.1, q8.2.2.2.2.1, q8.2.2.2.2.2.1, q8.2.2.2.2.2.2.1, q8.2.2.2.2.2.2.2.1, q8.2.2.2.2.2.2.2.2.1, q8.2.2.2.2.2.2.2.2.2.1, q8.2.2.2.2.2.2.2.2.2.2.1, q8.2.2.2.2.2.2.2.2.2.2.2.1, q8.2.2.2.2.2.2.2.2.2.2.2.2.1, q8.2.2.2.2.2.2.2.2.2.2.2.2.2.1, ora, q8.2.2.2.2.2.2.2.2.2.2.2.2.2.2.1, q8.2.2.2.2.2.2.2.2.2.2.2.2.2.2.2))) else (if v2 = (3:Int32) then (if nld = (0:Int32) then (X_height_j70 q8.1 q8.2.1 q8.2.2.1 q8.2.2.2.1 q8.2.2.2.2.1 q8.2.2.2.2.2.1 q8.2.2.2.2.2.2.1 q8.2.2.2.2.2.2.2.1 q8.2.2.2.2.2.2.2.2.1 q8.2.2.2.2.2.2.2.2.2.1 q8.2.2.2.2.2.2.2.2.2.2.1 q8.2.2.2.2.2.2.2.2.2.2.2.1 q8.2.2.2.2.2.2.2.2.2.2.2.2.1 q8.2.2.2.2.2.2.2.2.2.2.2.2.2.1 ora q8.2.2.2.2.2.2.2.2.2.2.2.2.2.2.1 q8.2.2.2.2.2.2.2.2.2.2.2.2.2.2.2) else (X_height_j73 v1 v2 q8.1 q8.2.1 q8.2.2.1 q8.2.2.2.1 q8.2.2.2.2.1 q8.2.2.2.2.2.1 q8.2.2.2.2.2.2.1 q8.2.2.2.2.2.2.2.1 q8.2.2.2.2.2.2.2.2.1 q8.2.2.2.2.2.2.2.2.2.1 q8.2.2.2.2.2.2.2.2.2.2.1 q8.2.2.2.2.2.2.2.2.2.2.2.1 q8.2.2.2.2.2.2.2.2.2.2.2.2.1 q8.2.2.2.2.2.2.2.2.2.2.2.2.2.1 ora q8.2.2.2.2.2.2.2.2.2.2.2.2.2.2.1 q8.2.2.2.2.2.2.2.2.2.2.2.2.2.2.2 nld nmt)) else (if q8.2.2.2.1 = (0:Int32) then (X_height_j70 q8.1 q8.2.1 q8.2.2.1 q8.2.2.2.1 q8.2.2.2.2.1 q8.2.2.2.2.2.1 q8.2.2.2.2.2.2.1 q8.2.2.2.2.2.2.2.1 q8.2.2.2.2.2.2.2.2.1 q8.2.2.2.2.2.2.2.2.2.1 q8.2.2.2.2.2.2.2.2.2.2.1 q8.2.2.2.2.2.2.2.2.2.2.2.1 q8.2.2.2.2.2.2.2.2.2.2.2.2.1 q8.2.2.2.2.2.2.2.2.2.2.2.2.2.1 ora q8.2.2.2.2.2.2.2.2.2.2.2.2.2.2.1 q8.2.2.2.2.2.2.2.2.2.2.2.2.2.2.2) else (X_height_j73 v1 v2 q8.1 q8.2.1 q8.2.2.1 q8.2.2.2.1 q8.2.2.2.2.1 q8.2.2.2.2.2.1 q8.2.2.2.2.2.2.1 q8.2.2.2.2.2.2.2.1 q8.2.2.2.2.2.2.2.2.1 q8.2.2.2.2.2.2.2.2.2.1 q8.2.2.2.2.2.2.2.2.2.2.1 q8.2.2.2.2.2.2.2.2.2.2.2.1 q8.2.2.2.2.2.2.2.2.2.2.2.2.1 q8.2.2.2.2.2.2.2.2.2.2.2.2.2.1 ora q8.2.2.2.2.2.2.2.2.2.2.2.2.2.2.1 q8.2.2.2.2.2.2.2.2.2.2.2.2.2.2.2 nld nmt))))) else (X_height_j16 okn org osi oti ole oto oow oco ost owa owv owh olo ohi ora odi oqu)))
set_option maxRecDepth 10000 in
theorem X_height_ok {v1 : Int32} {v2 : Int32} {q : (Int32 × Int32 × Int64 × Int32 × Int32 × Int32 × Int32 × Int64 × Int64 × (Nat → Int32) × (Nat → Int32) × (Nat → Int32) × (Nat → Int32) × (Nat → Int32) × (Nat → Int32) × (Nat → Int32) × (Nat → Int32) × (Nat → Int32))} (hc : call = sxE sc (d + 5)) (hf : X_height v1 v2 nw.1 nw.2.1 nw.2.2.1 ol.1 ol.2.1 ol.2.2.1 ol.2.2.2.1 ol.2.2.2.2.1 ol.2.2.2.2.2.1 ol.2.2.2.2.2.2.1 ol.2.2.2.2.2.2.2.1 ol.2.2.2.2.2.2.2.2.1 ol.2.2.2.2.2.2.2.2.2.1 ol.2.2.2.2.2.2.2.2.2.2.1 ol.2.2.2.2.2.2.2.2.2.2.2.1 ol.2.2.2.2.2.2.2.2.2.2.2.2.1 ol.2.2.2.2.2.2.2.2.2.2.2.2.2.1 ol.2.2.2.2.2.2.2.2.2.2.2.2.2.2.1 ol.2.2.2.2.2.2.2.2.2.2.2.2.2.2.2.1 ol.2.2.2.2.2.2.2.2.2.2.2.2.2.2.2.2 = some q) (h : Q (some (.int q.1)) (cW nw kp im (q.2.1, q.2.2.1, q.2.2.2.1, q.2.2.2.2.1, q.2.2.2.2.2.1, q.2.2.2.2.2.2.1, q.2.2.2.2.2.2.2.1, q.2.2.2.2.2.2.2.2.1, q.2.2.2.2.2.2.2.2.2.1, q.2.2.2.2.2.2.2.2.2.2.1, q.2.2.2.2.2.2.2.2.2.2.2.1, q.2.2.2.2.2.2.2.2.2.2.2.2.1, q.2.2.2.2.2.2.2.2.2.2.2.2.2.1, q.2.2.2.2.2.2.2.2.2.2.2.2.2.2.1, q.2.2.2.2.2.2.2.2.2.2.2.2.2.2.2.1, q.2.2.2.2.2.2.2.2.2.2.2.2.2.2.2.2.1, q.2.2.2.2.2.2.2.2.2.2.2.2.2.2.2.2.2) sn sr tp (mW mk mg mt mc T))) : call 106 [.ref 0, .int v1, .int v2] (cW nw kp im ol sn sr tp (mW mk mg mt mc T)) Q := by
  refine ent hc rfl (fun cl hE hm => ?_)
  have J103 : ∀ (v1 : Int32) (v2 : Int32) (okn_j : Int32) (org_j : Int64) (osi_j : Int32) (oti_j : Int32) (ole_j : Int32) (oto_j : Int32) (oow_j : Int64) (oco_j : Int64) (ost_j : (Nat → Int32)) (owa_j : (Nat → Int32)) (owv_j : (Nat → Int32)) (owh_j : (Nat → Int32)) (olo_j : (Nat → Int32)) (ohi_j : (Nat → Int32)) (ora_j : (Nat → Int32)) (odi_j : (Nat → Int32)) (oqu_j : (Nat → Int32)), X_height_j103 v1 v2 okn_j org_j osi_j oti_j ole_j oto_j oow_j oco_j ost_j owa_j owv_j owh_j olo_j ohi_j ora_j odi_j oqu_j = some q → sxWP sc cl Q 106 (103, [some (.ref 0), some (.int v1), some (.int v2)], [], (cW nw kp im (okn_j, org_j, osi_j, oti_j, ole_j, oto_j, oow_j, oco_j, ost_j, owa_j, owv_j, owh_j, olo_j, ohi_j, ora_j, odi_j, oqu_j) sn sr tp (mW mk mg mt mc T)), 0, 0) := by
    intro v1 v2 okn_j org_j osi_j oti_j ole_j oto_j oow_j oco_j ost_j owa_j owv_j owh_j olo_j ohi_j ora_j odi_j oqu_j hf
    unfold X_height_j103 at hf
    obtain ⟨q1, hq1, hf⟩ := bnd hf
    refine stp hm 5 (O_level_ok hE hq1 ?_)
    show sxWP sc cl Q 106 (112, [some (.ref 0), some (.int v1), some (.int v2)], [.int q1], (cW nw kp im (okn_j, org_j, osi_j, oti_j, ole_j, oto_j, oow_j, oco_j, ost_j, owa_j, owv_j, owh_j, olo_j, ohi_j, ora_j, odi_j, oqu_j) sn sr tp (mW mk mg mt mc T)), 0, 0)
    obtain rfl := Option.some.inj hf
    refine stp hm 3 ?_
    exact h
  have J73 : ∀ (v1 : Int32) (v2 : Int32) (okn_j : Int32) (org_j : Int64) (osi_j : Int32) (oti_j : Int32) (ole_j : Int32) (oto_j : Int32) (oow_j : Int64) (oco_j : Int64) (ost_j : (Nat → Int32)) (owa_j : (Nat → Int32)) (owv_j : (Nat → Int32)) (owh_j : (Nat → Int32)) (olo_j : (Nat → Int32)) (ohi_j : (Nat → Int32)) (ora_j : (Nat → Int32)) (odi_j : (Nat → Int32)) (oqu_j : (Nat → Int32)), X_height_j73 v1 v2 okn_j org_j osi_j oti_j ole_j oto_j oow_j oco_j ost_j owa_j owv_j owh_j olo_j ohi_j ora_j odi_j oqu_j nw.2.1 nw.2.2.1 = some q → sxWP sc cl Q 106 (73, [some (.ref 0), some (.int v1), some (.int v2)], [], (cW nw kp im (okn_j, org_j, osi_j, oti_j, ole_j, oto_j, oow_j, oco_j, ost_j, owa_j, owv_j, owh_j, olo_j, ohi_j, ora_j, odi_j, oqu_j) sn sr tp (mW mk mg mt mc T)), 0, 0) := by
    intro v1 v2 okn_j org_j osi_j oti_j ole_j oto_j oow_j oco_j ost_j owa_j owv_j owh_j olo_j ohi_j ora_j odi_j oqu_j hf
    unfold X_height_j73 at hf
    refine stp hm 4 (O_isCorner_ok hE rfl ?_)
    show sxWP sc cl Q 106 (81, [some (.ref 0), some (.int v1), some (.int v2)], [.int (O_isCorner v1 oco_j)], (cW nw kp im (okn_j, org_j, osi_j, oti_j, ole_j, oto_j, oow_j, oco_j, ost_j, owa_j, owv_j, owh_j, olo_j, ohi_j, ora_j, odi_j, oqu_j) sn sr tp (mW mk mg mt mc T)), 0, 0)
    refine stp hm 1 (brn hf (fun c2 hf => ?_) (fun c2 hf => ?_))
    · show sxWP sc cl Q 106 (87, [some (.ref 0), some (.int v1), some (.int v2)], [], (cW nw kp im (okn_j, org_j, osi_j, oti_j, ole_j, oto_j, oow_j, oco_j, ost_j, owa_j, owv_j, owh_j, olo_j, ohi_j, ora_j, odi_j, oqu_j) sn sr tp (mW mk mg mt mc T)), 0, 0)
      refine stp hm 3 (brn hf (fun c3 hf => ?_) (fun c3 hf => ?_))
      · show sxWP sc cl Q 106 (103, [some (.ref 0), some (.int v1), some (.int v2)], [], (cW nw kp im (okn_j, org_j, osi_j, oti_j, ole_j, oto_j, oow_j, oco_j, ost_j, owa_j, owv_j, owh_j, olo_j, ohi_j, ora_j, odi_j, oqu_j) sn sr tp (mW mk mg mt mc T)), 0, 0)
        exact J103 _ _ _ _ _ _ _ _ _ _ _ _ _ _ _ _ _ _ _ hf
      · show sxWP sc cl Q 106 (92, [some (.ref 0), some (.int v1), some (.int v2)], [], (cW nw kp im (okn_j, org_j, osi_j, oti_j, ole_j, oto_j, oow_j, oco_j, ost_j, owa_j, owv_j, owh_j, olo_j, ohi_j, ora_j, odi_j, oqu_j) sn sr tp (mW mk mg mt mc T)), 0, 0)
        obtain ⟨q4, hq4, hf⟩ := bnd hf
        refine stp hm 5 (O_raise_ok hE hq4 ?_)
        show sxWP sc cl Q 106 (103, [some (.ref 0), some (.int v1), some (.int v2)], [], (cW nw kp im (okn_j, org_j, osi_j, oti_j, ole_j, oto_j, oow_j, oco_j, ost_j, owa_j, owv_j, owh_j, olo_j, ohi_j, q4, odi_j, oqu_j) sn sr tp (mW mk mg mt mc T)), 0, 0)
        exact J103 _ _ _ _ _ _ _ _ _ _ _ _ _ _ _ _ _ _ _ hf
    · show sxWP sc cl Q 106 (84, [some (.ref 0), some (.int v1), some (.int v2)], [], (cW nw kp im (okn_j, org_j, osi_j, oti_j, ole_j, oto_j, oow_j, oco_j, ost_j, owa_j, owv_j, owh_j, olo_j, ohi_j, ora_j, odi_j, oqu_j) sn sr tp (mW mk mg mt mc T)), 0, 0)
      obtain rfl := Option.some.inj hf
      refine stp hm 2 ?_
      exact h
  have J70 : ∀ (okn_j : Int32) (org_j : Int64) (osi_j : Int32) (oti_j : Int32) (ole_j : Int32) (oto_j : Int32) (oow_j : Int64) (oco_j : Int64) (ost_j : (Nat → Int32)) (owa_j : (Nat → Int32)) (owv_j : (Nat → Int32)) (owh_j : (Nat → Int32)) (olo_j : (Nat → Int32)) (ohi_j : (Nat → Int32)) (ora_j : (Nat → Int32)) (odi_j : (Nat → Int32)) (oqu_j : (Nat → Int32)) (z0 : Option Value) (z1 : Option Value) (z2 : Option Value), X_height_j70 okn_j org_j osi_j oti_j ole_j oto_j oow_j oco_j ost_j owa_j owv_j owh_j olo_j ohi_j ora_j odi_j oqu_j = some q → sxWP sc cl Q 106 (70, [z0, z1, z2], [], (cW nw kp im (okn_j, org_j, osi_j, oti_j, ole_j, oto_j, oow_j, oco_j, ost_j, owa_j, owv_j, owh_j, olo_j, ohi_j, ora_j, odi_j, oqu_j) sn sr tp (mW mk mg mt mc T)), 0, 0) := by
    intro okn_j org_j osi_j oti_j ole_j oto_j oow_j oco_j ost_j owa_j owv_j owh_j olo_j ohi_j ora_j odi_j oqu_j z0 z1 z2 hf
    unfold X_height_j70 at hf
    obtain rfl := Option.some.inj hf
    refine stp hm 2 ?_
    exact h
  have J16 : ∀ (okn_j : Int32) (org_j : Int64) (osi_j : Int32) (oti_j : Int32) (ole_j : Int32) (oto_j : Int32) (oow_j : Int64) (oco_j : Int64) (ost_j : (Nat → Int32)) (owa_j : (Nat → Int32)) (owv_j : (Nat → Int32)) (owh_j : (Nat → Int32)) (olo_j : (Nat → Int32)) (ohi_j : (Nat → Int32)) (ora_j : (Nat → Int32)) (odi_j : (Nat → Int32)) (oqu_j : (Nat → Int32)) (z0 : Option Value) (z1 : Option Value) (z2 : Option Value), X_height_j16 okn_j org_j osi_j oti_j ole_j oto_j oow_j oco_j ost_j owa_j owv_j owh_j olo_j ohi_j ora_j odi_j oqu_j = some q → sxWP sc cl Q 106 (16, [z0, z1, z2], [], (cW nw kp im (okn_j, org_j, osi_j, oti_j, ole_j, oto_j, oow_j, oco_j, ost_j, owa_j, owv_j, owh_j, olo_j, ohi_j, ora_j, odi_j, oqu_j) sn sr tp (mW mk mg mt mc T)), 0, 0) := by
    intro okn_j org_j osi_j oti_j ole_j oto_j oow_j oco_j ost_j owa_j owv_j owh_j olo_j ohi_j ora_j odi_j oqu_j z0 z1 z2 hf
    unfold X_height_j16 at hf
    obtain rfl := Option.some.inj hf
    refine stp hm 2 ?_
    exact h
  unfold X_height at hf
  refine stp hm 2 (G_isVertex_ok hE rfl ?_)
  show sxWP sc cl Q 106 (4, [some (.ref 0), some (.int v1), some (.int v2)], [.int (G_isVertex v1)], (cW nw kp im ol sn sr tp (mW mk mg mt mc T)), 0, 0)
  refine stp hm 1 (br hf (fun c5 hf => ?_) (fun c5 hf => ?_))
  · show sxWP sc cl Q 106 (16, [some (.ref 0), some (.int v1), some (.int v2)], [], (cW nw kp im ol sn sr tp (mW mk mg mt mc T)), 0, 0)
    exact J16 _ _ _ _ _ _ _ _ _ _ _ _ _ _ _ _ _ _ _ _ hf
  · show sxWP sc cl Q 106 (7, [some (.ref 0), some (.int v1), some (.int v2)], [], (cW nw kp im ol sn sr tp (mW mk mg mt mc T)), 0, 0)
    refine stp hm 2 (br hf (fun c6 hf => ?_) (fun c6 hf => ?_))
    · show sxWP sc cl Q 106 (16, [some (.ref 0), some (.int v1), some (.int v2)], [], (cW nw kp im ol sn sr tp (mW mk mg mt mc T)), 0, 0)
      exact J16 _ _ _ _ _ _ _ _ _ _ _ _ _ _ _ _ _ _ _ _ hf
    · show sxWP sc cl Q 106 (11, [some (.ref 0), some (.int v1), some (.int v2)], [], (cW nw kp im ol sn sr tp (mW mk mg mt mc T)), 0, 0)
      refine stp hm 3 (br hf (fun c7 hf => ?_) (fun c7 hf => ?_))
      · show sxWP sc cl Q 106 (18, [some (.ref 0), some (.int v1), some (.int v2)], [], (cW nw kp im ol sn sr tp (mW mk mg mt mc T)), 0, 0)
        obtain ⟨q8, hq8, hf⟩ := bnd hf
        refine stp hm 6 (O_look_ok hE hq8 ?_)
        show sxWP sc cl Q 106 (32, [some (.ref 0), some (.int v1), some (.int v2)], [], (cW nw kp im (q8.1, q8.2.1, q8.2.2.1, q8.2.2.2.1, q8.2.2.2.2.1, q8.2.2.2.2.2.1, q8.2.2.2.2.2.2.1, q8.2.2.2.2.2.2.2.1, q8.2.2.2.2.2.2.2.2.1, q8.2.2.2.2.2.2.2.2.2.1, q8.2.2.2.2.2.2.2.2.2.2.1, q8.2.2.2.2.2.2.2.2.2.2.2.1, q8.2.2.2.2.2.2.2.2.2.2.2.2.1, q8.2.2.2.2.2.2.2.2.2.2.2.2.2.1, ol.2.2.2.2.2.2.2.2.2.2.2.2.2.2.1, q8.2.2.2.2.2.2.2.2.2.2.2.2.2.2.1, q8.2.2.2.2.2.2.2.2.2.2.2.2.2.2.2) sn sr tp (mW mk mg mt mc T)), 0, 0)
        refine stp hm 2 (brn hf (fun c9 hf => ?_) (fun c9 hf => ?_))
        · show sxWP sc cl Q 106 (42, [some (.ref 0), some (.int v1), some (.int v2)], [], (cW nw kp im (q8.1, q8.2.1, q8.2.2.1, q8.2.2.2.1, q8.2.2.2.2.1, q8.2.2.2.2.2.1, q8.2.2.2.2.2.2.1, q8.2.2.2.2.2.2.2.1, q8.2.2.2.2.2.2.2.2.1, q8.2.2.2.2.2.2.2.2.2.1, q8.2.2.2.2.2.2.2.2.2.2.1, q8.2.2.2.2.2.2.2.2.2.2.2.1, q8.2.2.2.2.2.2.2.2.2.2.2.2.1, q8.2.2.2.2.2.2.2.2.2.2.2.2.2.1, ol.2.2.2.2.2.2.2.2.2.2.2.2.2.2.1, q8.2.2.2.2.2.2.2.2.2.2.2.2.2.2.1, q8.2.2.2.2.2.2.2.2.2.2.2.2.2.2.2) sn sr tp (mW mk mg mt mc T)), 0, 0)
          refine stp hm 3 (brn hf (fun c10 hf => ?_) (fun c10 hf => ?_))
          · show sxWP sc cl Q 106 (60, [some (.ref 0), some (.int v1), some (.int v2)], [], (cW nw kp im (q8.1, q8.2.1, q8.2.2.1, q8.2.2.2.1, q8.2.2.2.2.1, q8.2.2.2.2.2.1, q8.2.2.2.2.2.2.1, q8.2.2.2.2.2.2.2.1, q8.2.2.2.2.2.2.2.2.1, q8.2.2.2.2.2.2.2.2.2.1, q8.2.2.2.2.2.2.2.2.2.2.1, q8.2.2.2.2.2.2.2.2.2.2.2.1, q8.2.2.2.2.2.2.2.2.2.2.2.2.1, q8.2.2.2.2.2.2.2.2.2.2.2.2.2.1, ol.2.2.2.2.2.2.2.2.2.2.2.2.2.2.1, q8.2.2.2.2.2.2.2.2.2.2.2.2.2.2.1, q8.2.2.2.2.2.2.2.2.2.2.2.2.2.2.2) sn sr tp (mW mk mg mt mc T)), 0, 0)
            refine stp hm 4 (brn hf (fun c11 hf => ?_) (fun c11 hf => ?_))
            · show sxWP sc cl Q 106 (73, [some (.ref 0), some (.int v1), some (.int v2)], [], (cW nw kp im (q8.1, q8.2.1, q8.2.2.1, q8.2.2.2.1, q8.2.2.2.2.1, q8.2.2.2.2.2.1, q8.2.2.2.2.2.2.1, q8.2.2.2.2.2.2.2.1, q8.2.2.2.2.2.2.2.2.1, q8.2.2.2.2.2.2.2.2.2.1, q8.2.2.2.2.2.2.2.2.2.2.1, q8.2.2.2.2.2.2.2.2.2.2.2.1, q8.2.2.2.2.2.2.2.2.2.2.2.2.1, q8.2.2.2.2.2.2.2.2.2.2.2.2.2.1, ol.2.2.2.2.2.2.2.2.2.2.2.2.2.2.1, q8.2.2.2.2.2.2.2.2.2.2.2.2.2.2.1, q8.2.2.2.2.2.2.2.2.2.2.2.2.2.2.2) sn sr tp (mW mk mg mt mc T)), 0, 0)
              exact J73 _ _ _ _ _ _ _ _ _ _ _ _ _ _ _ _ _ _ _ hf
            · show sxWP sc cl Q 106 (70, [some (.ref 0), some (.int v1), some (.int v2)], [], (cW nw kp im (q8.1, q8.2.1, q8.2.2.1, q8.2.2.2.1, q8.2.2.2.2.1, q8.2.2.2.2.2.1, q8.2.2.2.2.2.2.1, q8.2.2.2.2.2.2.2.1, q8.2.2.2.2.2.2.2.2.1, q8.2.2.2.2.2.2.2.2.2.1, q8.2.2.2.2.2.2.2.2.2.2.1, q8.2.2.2.2.2.2.2.2.2.2.2.1, q8.2.2.2.2.2.2.2.2.2.2.2.2.1, q8.2.2.2.2.2.2.2.2.2.2.2.2.2.1, ol.2.2.2.2.2.2.2.2.2.2.2.2.2.2.1, q8.2.2.2.2.2.2.2.2.2.2.2.2.2.2.1, q8.2.2.2.2.2.2.2.2.2.2.2.2.2.2.2) sn sr tp (mW mk mg mt mc T)), 0, 0)
              exact J70 _ _ _ _ _ _ _ _ _ _ _ _ _ _ _ _ _ _ _ _ hf
          · show sxWP sc cl Q 106 (47, [some (.ref 0), some (.int v1), some (.int v2)], [], (cW nw kp im (q8.1, q8.2.1, q8.2.2.1, q8.2.2.2.1, q8.2.2.2.2.1, q8.2.2.2.2.2.1, q8.2.2.2.2.2.2.1, q8.2.2.2.2.2.2.2.1, q8.2.2.2.2.2.2.2.2.1, q8.2.2.2.2.2.2.2.2.2.1, q8.2.2.2.2.2.2.2.2.2.2.1, q8.2.2.2.2.2.2.2.2.2.2.2.1, q8.2.2.2.2.2.2.2.2.2.2.2.2.1, q8.2.2.2.2.2.2.2.2.2.2.2.2.2.1, ol.2.2.2.2.2.2.2.2.2.2.2.2.2.2.1, q8.2.2.2.2.2.2.2.2.2.2.2.2.2.2.1, q8.2.2.2.2.2.2.2.2.2.2.2.2.2.2.2) sn sr tp (mW mk mg mt mc T)), 0, 0)
            refine stp hm 4 (brn hf (fun c12 hf => ?_) (fun c12 hf => ?_))
            · show sxWP sc cl Q 106 (73, [some (.ref 0), some (.int v1), some (.int v2)], [], (cW nw kp im (q8.1, q8.2.1, q8.2.2.1, q8.2.2.2.1, q8.2.2.2.2.1, q8.2.2.2.2.2.1, q8.2.2.2.2.2.2.1, q8.2.2.2.2.2.2.2.1, q8.2.2.2.2.2.2.2.2.1, q8.2.2.2.2.2.2.2.2.2.1, q8.2.2.2.2.2.2.2.2.2.2.1, q8.2.2.2.2.2.2.2.2.2.2.2.1, q8.2.2.2.2.2.2.2.2.2.2.2.2.1, q8.2.2.2.2.2.2.2.2.2.2.2.2.2.1, ol.2.2.2.2.2.2.2.2.2.2.2.2.2.2.1, q8.2.2.2.2.2.2.2.2.2.2.2.2.2.2.1, q8.2.2.2.2.2.2.2.2.2.2.2.2.2.2.2) sn sr tp (mW mk mg mt mc T)), 0, 0)
              exact J73 _ _ _ _ _ _ _ _ _ _ _ _ _ _ _ _ _ _ _ hf
            · show sxWP sc cl Q 106 (57, [some (.ref 0), some (.int v1), some (.int v2)], [], (cW nw kp im (q8.1, q8.2.1, q8.2.2.1, q8.2.2.2.1, q8.2.2.2.2.1, q8.2.2.2.2.2.1, q8.2.2.2.2.2.2.1, q8.2.2.2.2.2.2.2.1, q8.2.2.2.2.2.2.2.2.1, q8.2.2.2.2.2.2.2.2.2.1, q8.2.2.2.2.2.2.2.2.2.2.1, q8.2.2.2.2.2.2.2.2.2.2.2.1, q8.2.2.2.2.2.2.2.2.2.2.2.2.1, q8.2.2.2.2.2.2.2.2.2.2.2.2.2.1, ol.2.2.2.2.2.2.2.2.2.2.2.2.2.2.1, q8.2.2.2.2.2.2.2.2.2.2.2.2.2.2.1, q8.2.2.2.2.2.2.2.2.2.2.2.2.2.2.2) sn sr tp (mW mk mg mt mc T)), 0, 0)
              refine stp hm 1 (?_ : sxWP sc cl Q 106 (70, [some (.ref 0), some (.int v1), some (.int v2)], [], (cW nw kp im (q8.1, q8.2.1, q8.2.2.1, q8.2.2.2.1, q8.2.2.2.2.1, q8.2.2.2.2.2.1, q8.2.2.2.2.2.2.1, q8.2.2.2.2.2.2.2.1, q8.2.2.2.2.2.2.2.2.1, q8.2.2.2.2.2.2.2.2.2.1, q8.2.2.2.2.2.2.2.2.2.2.1, q8.2.2.2.2.2.2.2.2.2.2.2.1, q8.2.2.2.2.2.2.2.2.2.2.2.2.1, q8.2.2.2.2.2.2.2.2.2.2.2.2.2.1, ol.2.2.2.2.2.2.2.2.2.2.2.2.2.2.1, q8.2.2.2.2.2.2.2.2.2.2.2.2.2.2.1, q8.2.2.2.2.2.2.2.2.2.2.2.2.2.2.2) sn sr tp (mW mk mg mt mc T)), 0, 0))
              exact J70 _ _ _ _ _ _ _ _ _ _ _ _ _ _ _ _ _ _ _ _ hf
        · show sxWP sc cl Q 106 (36, [some (.ref 0), some (.int v1), some (.int v2)], [], (cW nw kp im (q8.1, q8.2.1, q8.2.2.1, q8.2.2.2.1, q8.2.2.2.2.1, q8.2.2.2.2.2.1, q8.2.2.2.2.2.2.1, q8.2.2.2.2.2.2.2.1, q8.2.2.2.2.2.2.2.2.1, q8.2.2.2.2.2.2.2.2.2.1, q8.2.2.2.2.2.2.2.2.2.2.1, q8.2.2.2.2.2.2.2.2.2.2.2.1, q8.2.2.2.2.2.2.2.2.2.2.2.2.1, q8.2.2.2.2.2.2.2.2.2.2.2.2.2.1, ol.2.2.2.2.2.2.2.2.2.2.2.2.2.2.1, q8.2.2.2.2.2.2.2.2.2.2.2.2.2.2.1, q8.2.2.2.2.2.2.2.2.2.2.2.2.2.2.2) sn sr tp (mW mk mg mt mc T)), 0, 0)
          obtain ⟨q13, hq13, hf⟩ := bnd hf
          refine stp hm 3 (X_heightOnWord_ok hE hq13 ?_)
          show sxWP sc cl Q 106 (41, [some (.ref 0), some (.int v1), some (.int v2)], [.int q13], (cW nw kp im (q8.1, q8.2.1, q8.2.2.1, q8.2.2.2.1, q8.2.2.2.2.1, q8.2.2.2.2.2.1, q8.2.2.2.2.2.2.1, q8.2.2.2.2.2.2.2.1, q8.2.2.2.2.2.2.2.2.1, q8.2.2.2.2.2.2.2.2.2.1, q8.2.2.2.2.2.2.2.2.2.2.1, q8.2.2.2.2.2.2.2.2.2.2.2.1, q8.2.2.2.2.2.2.2.2.2.2.2.2.1, q8.2.2.2.2.2.2.2.2.2.2.2.2.2.1, ol.2.2.2.2.2.2.2.2.2.2.2.2.2.2.1, q8.2.2.2.2.2.2.2.2.2.2.2.2.2.2.1, q8.2.2.2.2.2.2.2.2.2.2.2.2.2.2.2) sn sr tp (mW mk mg mt mc T)), 0, 0)
          obtain rfl := Option.some.inj hf
          refine stp hm 1 ?_
          exact h
      · show sxWP sc cl Q 106 (16, [some (.ref 0), some (.int v1), some (.int v2)], [], (cW nw kp im ol sn sr tp (mW mk mg mt mc T)), 0, 0)
        exact J16 _ _ _ _ _ _ _ _ _ _ _ _ _ _ _ _ _ _ _ _ hf
end PT
