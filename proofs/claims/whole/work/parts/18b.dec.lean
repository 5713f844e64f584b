/-! methods as functions (printed by wip/whole/dec) -/
section PT
variable {sc : sxS} {d : Nat} {Q : sxR} {hp : sxH} {call cl : sxX} {nw kp : tSt} {im : Int32} {ol : tOl} {sn : tSn} {sr : tSc} {tp : Nat → tTp} {mk : tMk} {mg : tMg} {mt : tMt} {mc : tMc} {T : sxH}

def O_findSteps_j133  (v2 : Int32) (oco_j : Int64) (ost_j : (Nat → Int32)) : Option ((Int32 × Int64 × (Nat → Int32)) ⊕ (Int64 × (Nat → Int32))) := some (Sum.inl (v2 + (1:Int32), oco_j, ost_j))
def O_findSteps_j105  (v1 : Int32) (v2 : Int32) (v3 : Int32) (v4 : Int32) (oco_j : Int64) (ost_j : (Nat → Int32)) : Option ((Int32 × Int64 × (Nat → Int32)) ⊕ (Int64 × (Nat → Int32))) := if v4 = (0:Int32) then (O_findSteps_j133 v2 oco_j ost_j) else (if v3 = (0:Int32) then (grd (gi v1 49) (grd (gi v1 49) (O_findSteps_j133 v2 oco_j (upd ost_j v1.toNatClampNeg ((ost_j v1.toNatClampNeg) ||| ((1:Int32) <<< ((v2 + (8:Int32)) &&& 31))))))) else (O_findSteps_j133 v2 oco_j ost_j))
def O_findSteps_j63  (v1 : Int32) (v2 : Int32) (v3 : Int32) (v4 : Int32) (oco_j : Int64) (ost_j : (Nat → Int32)) : Option ((Int32 × Int64 × (Nat → Int32)) ⊕ (Int64 × (Nat → Int32))) := grd (gi v1 49) (grd (gi v1 49) (O_findSteps_j105 v1 v2 v3 v4 (oco_j ||| ((1:Int64) <<< (v1.toInt64 &&& 63))) (upd ost_j v1.toNatClampNeg ((ost_j v1.toNatClampNeg) ||| ((1:Int32) <<< ((if (G_rise v1 v2) ≤ (0:Int32) then (v2 + (4:Int32)) else v2) &&& 31))))))
def O_findSteps_s22  (v1 : Int32) (org : Int64) (s : (Int32 × Int64 × (Nat → Int32))) : Option ((Int32 × Int64 × (Nat → Int32)) ⊕ (Int64 × (Nat → Int32))) := if (4:Int32) ≤ s.1 then (some (Sum.inr (s.2.1, s.2.2))) else (if (G_holds org (G_leftOf v1 s.1)) = (0:Int32) then (if (G_holds org (G_rightOf v1 s.1)) = (0:Int32) then (O_findSteps_j105 v1 s.1 (G_holds org (G_leftOf v1 s.1)) (G_holds org (G_rightOf v1 s.1)) s.2.1 s.2.2) else (O_findSteps_j63 v1 s.1 (G_holds org (G_leftOf v1 s.1)) (G_holds org (G_rightOf v1 s.1)) s.2.1 s.2.2)) else (O_findSteps_j63 v1 s.1 (G_holds org (G_leftOf v1 s.1)) (G_holds org (G_rightOf v1 s.1)) s.2.1 s.2.2))
def O_findSteps_s7   (org : Int64) (s : (Int32 × Int64 × (Nat → Int32))) : Option ((Int32 × Int64 × (Nat → Int32)) ⊕ (Int64 × (Nat → Int32))) := if (49:Int32) ≤ s.1 then (some (Sum.inr (s.2.1, s.2.2))) else (grd (gi s.1 49) (Option.bind (wh (O_findSteps_s22 s.1 org) FU ((0:Int32), s.2.1, upd s.2.2 s.1.toNatClampNeg (0:Int32))) (fun w3 => some (Sum.inl (s.1 + (1:Int32), w3.1, w3.2)))))
def O_findSteps  (org : Int64) (ost : (Nat → Int32)) : Option (Int64 × (Nat → Int32)) := Option.bind (wh (O_findSteps_s7 org) FU ((0:Int32), (0:Int64), ost)) (fun w1 => some (w1.1, w1.2))
set_option maxRecDepth 10000 in
theorem O_findSteps_l22 {v1 : Int32}   (hE : cl = sxE sc (d + 2)) (hm : CallMono cl) : ∀ (n : Nat) (s : (Int32 × Int64 × (Nat → Int32))) (r : (Int64 × (Nat → Int32))), wh (O_findSteps_s22 v1 ol.2.1) n s = some r → (∀ (z2 z3 z4 : Option Value), sxWP sc cl Q 26 (139, [some (.ref 29), some (.int v1), z2, z3, z4], [], (cW nw kp im (ol.1, ol.2.1, ol.2.2.1, ol.2.2.2.1, ol.2.2.2.2.1, ol.2.2.2.2.2.1, ol.2.2.2.2.2.2.1, r.1, r.2, ol.2.2.2.2.2.2.2.2.2.1, ol.2.2.2.2.2.2.2.2.2.2.1, ol.2.2.2.2.2.2.2.2.2.2.2.1, ol.2.2.2.2.2.2.2.2.2.2.2.2.1, ol.2.2.2.2.2.2.2.2.2.2.2.2.2.1, ol.2.2.2.2.2.2.2.2.2.2.2.2.2.2.1, ol.2.2.2.2.2.2.2.2.2.2.2.2.2.2.2.1, ol.2.2.2.2.2.2.2.2.2.2.2.2.2.2.2.2) sn sr tp (mW mk mg mt mc T)), 0, 0)) → ∀ (z3 z4 : Option Value), sxWP sc cl Q 26 (22, [some (.ref 29), some (.int v1), some (.int s.1), z3, z4], [], (cW nw kp im (ol.1, ol.2.1, ol.2.2.1, ol.2.2.2.1, ol.2.2.2.2.1, ol.2.2.2.2.2.1, ol.2.2.2.2.2.2.1, s.2.1, s.2.2, ol.2.2.2.2.2.2.2.2.2.1, ol.2.2.2.2.2.2.2.2.2.2.1, ol.2.2.2.2.2.2.2.2.2.2.2.1, ol.2.2.2.2.2.2.2.2.2.2.2.2.1, ol.2.2.2.2.2.2.2.2.2.2.2.2.2.1, ol.2.2.2.2.2.2.2.2.2.2.2.2.2.2.1, ol.2.2.2.2.2.2.2.2.2.2.2.2.2.2.2.1, ol.2.2.2.2.2.2.2.2.2.2.2.2.2.2.2.2) sn sr tp (mW mk mg mt mc T)), 0, 0) := by
  refine wh_run (A := fun (s : (Int32 × Int64 × (Nat → Int32))) => ∀ (z3 z4 : Option Value), sxWP sc cl Q 26 (22, [some (.ref 29), some (.int v1), some (.int s.1), z3, z4], [], (cW nw kp im (ol.1, ol.2.1, ol.2.2.1, ol.2.2.2.1, ol.2.2.2.2.1, ol.2.2.2.2.2.1, ol.2.2.2.2.2.2.1, s.2.1, s.2.2, ol.2.2.2.2.2.2.2.2.2.1, ol.2.2.2.2.2.2.2.2.2.2.1, ol.2.2.2.2.2.2.2.2.2.2.2.1, ol.2.2.2.2.2.2.2.2.2.2.2.2.1, ol.2.2.2.2.2.2.2.2.2.2.2.2.2.1, ol.2.2.2.2.2.2.2.2.2.2.2.2.2.2.1, ol.2.2.2.2.2.2.2.2.2.2.2.2.2.2.2.1, ol.2.2.2.2.2.2.2.2.2.2.2.2.2.2.2.2) sn sr tp (mW mk mg mt mc T)), 0, 0)) (B := fun (r : (Int64 × (Nat → Int32))) => ∀ (z2 z3 z4 : Option Value), sxWP sc cl Q 26 (139, [some (.ref 29), some (.int v1), z2, z3, z4], [], (cW nw kp im (ol.1, ol.2.1, ol.2.2.1, ol.2.2.2.1, ol.2.2.2.2.1, ol.2.2.2.2.2.1, ol.2.2.2.2.2.2.1, r.1, r.2, ol.2.2.2.2.2.2.2.2.2.1, ol.2.2.2.2.2.2.2.2.2.2.1, ol.2.2.2.2.2.2.2.2.2.2.2.1, ol.2.2.2.2.2.2.2.2.2.2.2.2.1, ol.2.2.2.2.2.2.2.2.2.2.2.2.2.1, ol.2.2.2.2.2.2.2.2.2.2.2.2.2.2.1, ol.2.2.2.2.2.2.2.2.2.2.2.2.2.2.2.1, ol.2.2.2.2.2.2.2.2.2.2.2.2.2.2.2.2) sn sr tp (mW mk mg mt mc T)), 0, 0)) (fun s x hf hA hB => ?_)
  intro z3 z4
  have J133 : ∀ (v2 : Int32) (oco_j : Int64) (ost_j : (Nat → Int32)) (z3 : Option Value) (z4 : Option Value), O_findSteps_j133 v2 oco_j ost_j = some x → sxWP sc cl Q 26 (133, [some (.ref 29), some (.int v1), some (.int v2), z3, z4], [], (cW nw kp im (ol.1, ol.2.1, ol.2.2.1, ol.2.2.2.1, ol.2.2.2.2.1, ol.2.2.2.2.2.1, ol.2.2.2.2.2.2.1, oco_j, ost_j, ol.2.2.2.2.2.2.2.2.2.1, ol.2.2.2.2.2.2.2.2.2.2.1, ol.2.2.2.2.2.2.2.2.2.2.2.1, ol.2.2.2.2.2.2.2.2.2.2.2.2.1, ol.2.2.2.2.2.2.2.2.2.2.2.2.2.1, ol.2.2.2.2.2.2.2.2.2.2.2.2.2.2.1, ol.2.2.2.2.2.2.2.2.2.2.2.2.2.2.2.1, ol.2.2.2.2.2.2.2.2.2.2.2.2.2.2.2.2) sn sr tp (mW mk mg mt mc T)), 0, 0) := by
    intro v2 oco_j ost_j z3 z4 hf
    unfold O_findSteps_j133 at hf
    obtain rfl := Option.some.inj hf
    refine stp hm 2 (?_ : sxWP sc cl Q 26 (22, [some (.ref 29), some (.int v1), some (.int (v2 + (1:Int32))), z3, z4], [], (cW nw kp im (ol.1, ol.2.1, ol.2.2.1, ol.2.2.2.1, ol.2.2.2.2.1, ol.2.2.2.2.2.1, ol.2.2.2.2.2.2.1, oco_j, ost_j, ol.2.2.2.2.2.2.2.2.2.1, ol.2.2.2.2.2.2.2.2.2.2.1, ol.2.2.2.2.2.2.2.2.2.2.2.1, ol.2.2.2.2.2.2.2.2.2.2.2.2.1, ol.2.2.2.2.2.2.2.2.2.2.2.2.2.1, ol.2.2.2.2.2.2.2.2.2.2.2.2.2.2.1, ol.2.2.2.2.2.2.2.2.2.2.2.2.2.2.2.1, ol.2.2.2.2.2.2.2.2.2.2.2.2.2.2.2.2) sn sr tp (mW mk mg mt mc T)), 0, 0))
    exact hA _ rfl _ _
  have J105 : ∀ (v2 : Int32) (v3 : Int32) (v4 : Int32) (oco_j : Int64) (ost_j : (Nat → Int32)), O_findSteps_j105 v1 v2 v3 v4 oco_j ost_j = some x → sxWP sc cl Q 26 (105, [some (.ref 29), some (.int v1), some (.int v2), some (.int v3), some (.int v4)], [], (cW nw kp im (ol.1, ol.2.1, ol.2.2.1, ol.2.2.2.1, ol.2.2.2.2.1, ol.2.2.2.2.2.1, ol.2.2.2.2.2.2.1, oco_j, ost_j, ol.2.2.2.2.2.2.2.2.2.1, ol.2.2.2.2.2.2.2.2.2.2.1, ol.2.2.2.2.2.2.2.2.2.2.2.1, ol.2.2.2.2.2.2.2.2.2.2.2.2.1, ol.2.2.2.2.2.2.2.2.2.2.2.2.2.1, ol.2.2.2.2.2.2.2.2.2.2.2.2.2.2.1, ol.2.2.2.2.2.2.2.2.2.2.2.2.2.2.2.1, ol.2.2.2.2.2.2.2.2.2.2.2.2.2.2.2.2) sn sr tp (mW mk mg mt mc T)), 0, 0) := by
    intro v2 v3 v4 oco_j ost_j hf
    unfold O_findSteps_j105 at hf
    refine stp hm 2 (br hf (fun c1 hf => ?_) (fun c1 hf => ?_))
    · show sxWP sc cl Q 26 (133, [some (.ref 29), some (.int v1), some (.int v2), some (.int v3), some (.int v4)], [], (cW nw kp im (ol.1, ol.2.1, ol.2.2.1, ol.2.2.2.1, ol.2.2.2.2.1, ol.2.2.2.2.2.1, ol.2.2.2.2.2.2.1, oco_j, ost_j, ol.2.2.2.2.2.2.2.2.2.1, ol.2.2.2.2.2.2.2.2.2.2.1, ol.2.2.2.2.2.2.2.2.2.2.2.1, ol.2.2.2.2.2.2.2.2.2.2.2.2.1, ol.2.2.2.2.2.2.2.2.2.2.2.2.2.1, ol.2.2.2.2.2.2.2.2.2.2.2.2.2.2.1, ol.2.2.2.2.2.2.2.2.2.2.2.2.2.2.2.1, ol.2.2.2.2.2.2.2.2.2.2.2.2.2.2.2.2) sn sr tp (mW mk mg mt mc T)), 0, 0)
      exact J133 _ _ _ _ _ hf
    · show sxWP sc cl Q 26 (110, [some (.ref 29), some (.int v1), some (.int v2), some (.int v3), some (.int v4)], [], (cW nw kp im (ol.1, ol.2.1, ol.2.2.1, ol.2.2.2.1, ol.2.2.2.2.1, ol.2.2.2.2.2.1, ol.2.2.2.2.2.2.1, oco_j, ost_j, ol.2.2.2.2.2.2.2.2.2.1, ol.2.2.2.2.2.2.2.2.2.2.1, ol.2.2.2.2.2.2.2.2.2.2.2.1, ol.2.2.2.2.2.2.2.2.2.2.2.2.1, ol.2.2.2.2.2.2.2.2.2.2.2.2.2.1, ol.2.2.2.2.2.2.2.2.2.2.2.2.2.2.1, ol.2.2.2.2.2.2.2.2.2.2.2.2.2.2.2.1, ol.2.2.2.2.2.2.2.2.2.2.2.2.2.2.2.2) sn sr tp (mW mk mg mt mc T)), 0, 0)
      refine stp hm 2 (brn hf (fun c2 hf => ?_) (fun c2 hf => ?_))
      · show sxWP sc cl Q 26 (133, [some (.ref 29), some (.int v1), some (.int v2), some (.int v3), some (.int v4)], [], (cW nw kp im (ol.1, ol.2.1, ol.2.2.1, ol.2.2.2.1, ol.2.2.2.2.1, ol.2.2.2.2.2.1, ol.2.2.2.2.2.2.1, oco_j, ost_j, ol.2.2.2.2.2.2.2.2.2.1, ol.2.2.2.2.2.2.2.2.2.2.1, ol.2.2.2.2.2.2.2.2.2.2.2.1, ol.2.2.2.2.2.2.2.2.2.2.2.2.1, ol.2.2.2.2.2.2.2.2.2.2.2.2.2.1, ol.2.2.2.2.2.2.2.2.2.2.2.2.2.2.1, ol.2.2.2.2.2.2.2.2.2.2.2.2.2.2.2.1, ol.2.2.2.2.2.2.2.2.2.2.2.2.2.2.2.2) sn sr tp (mW mk mg mt mc T)), 0, 0)
        exact J133 _ _ _ _ _ hf
      · show sxWP sc cl Q 26 (114, [some (.ref 29), some (.int v1), some (.int v2), some (.int v3), some (.int v4)], [], (cW nw kp im (ol.1, ol.2.1, ol.2.2.1, ol.2.2.2.1, ol.2.2.2.2.1, ol.2.2.2.2.2.1, ol.2.2.2.2.2.2.1, oco_j, ost_j, ol.2.2.2.2.2.2.2.2.2.1, ol.2.2.2.2.2.2.2.2.2.2.1, ol.2.2.2.2.2.2.2.2.2.2.2.1, ol.2.2.2.2.2.2.2.2.2.2.2.2.1, ol.2.2.2.2.2.2.2.2.2.2.2.2.2.1, ol.2.2.2.2.2.2.2.2.2.2.2.2.2.2.1, ol.2.2.2.2.2.2.2.2.2.2.2.2.2.2.2.1, ol.2.2.2.2.2.2.2.2.2.2.2.2.2.2.2.2) sn sr tp (mW mk mg mt mc T)), 0, 0)
        obtain ⟨g3, hf⟩ := grd_e hf
        refine stp hm 7 (And.intro (gi_in g3) (?_ : sxWP sc cl Q 26 (125, [some (.ref 29), some (.int v1), some (.int v2), some (.int v3), some (.int v4)], [.int (ost_j v1.toNatClampNeg), .int v1, .ref 30], (cW nw kp im (ol.1, ol.2.1, ol.2.2.1, ol.2.2.2.1, ol.2.2.2.2.1, ol.2.2.2.2.2.1, ol.2.2.2.2.2.2.1, oco_j, ost_j, ol.2.2.2.2.2.2.2.2.2.1, ol.2.2.2.2.2.2.2.2.2.2.1, ol.2.2.2.2.2.2.2.2.2.2.2.1, ol.2.2.2.2.2.2.2.2.2.2.2.2.1, ol.2.2.2.2.2.2.2.2.2.2.2.2.2.1, ol.2.2.2.2.2.2.2.2.2.2.2.2.2.2.1, ol.2.2.2.2.2.2.2.2.2.2.2.2.2.2.2.1, ol.2.2.2.2.2.2.2.2.2.2.2.2.2.2.2.2) sn sr tp (mW mk mg mt mc T)), 0, 0)))
        obtain ⟨g4, hf⟩ := grd_e hf
        refine stp hm 7 (And.intro (gi_in g4) (?_ : sxWP sc cl Q 26 (133, [some (.ref 29), some (.int v1), some (.int v2), some (.int v3), some (.int v4)], [], (cW nw kp im (ol.1, ol.2.1, ol.2.2.1, ol.2.2.2.1, ol.2.2.2.2.1, ol.2.2.2.2.2.1, ol.2.2.2.2.2.2.1, oco_j, upd ost_j v1.toNatClampNeg ((ost_j v1.toNatClampNeg) ||| ((1:Int32) <<< ((v2 + (8:Int32)) &&& 31))), ol.2.2.2.2.2.2.2.2.2.1, ol.2.2.2.2.2.2.2.2.2.2.1, ol.2.2.2.2.2.2.2.2.2.2.2.1, ol.2.2.2.2.2.2.2.2.2.2.2.2.1, ol.2.2.2.2.2.2.2.2.2.2.2.2.2.1, ol.2.2.2.2.2.2.2.2.2.2.2.2.2.2.1, ol.2.2.2.2.2.2.2.2.2.2.2.2.2.2.2.1, ol.2.2.2.2.2.2.2.2.2.2.2.2.2.2.2.2) sn sr tp (mW mk mg mt mc T)), 0, 0)))
        exact J133 _ _ _ _ _ hf
  have J63 : ∀ (v2 : Int32) (v3 : Int32) (v4 : Int32) (oco_j : Int64) (ost_j : (Nat → Int32)), O_findSteps_j63 v1 v2 v3 v4 oco_j ost_j = some x → sxWP sc cl Q 26 (63, [some (.ref 29), some (.int v1), some (.int v2), some (.int v3), some (.int v4)], [], (cW nw kp im (ol.1, ol.2.1, ol.2.2.1, ol.2.2.2.1, ol.2.2.2.2.1, ol.2.2.2.2.2.1, ol.2.2.2.2.2.2.1, oco_j, ost_j, ol.2.2.2.2.2.2.2.2.2.1, ol.2.2.2.2.2.2.2.2.2.2.1, ol.2.2.2.2.2.2.2.2.2.2.2.1, ol.2.2.2.2.2.2.2.2.2.2.2.2.1, ol.2.2.2.2.2.2.2.2.2.2.2.2.2.1, ol.2.2.2.2.2.2.2.2.2.2.2.2.2.2.1, ol.2.2.2.2.2.2.2.2.2.2.2.2.2.2.2.1, ol.2.2.2.2.2.2.2.2.2.2.2.2.2.2.2.2) sn sr tp (mW mk mg mt mc T)), 0, 0) := by
    intro v2 v3 v4 oco_j ost_j hf
    unfold O_findSteps_j63 at hf
    obtain ⟨g5, hf⟩ := grd_e hf
    refine stp hm 15 (And.intro (gi_in g5) (?_ : sxWP sc cl Q 26 (86, [some (.ref 29), some (.int v1), some (.int v2), some (.int v3), some (.int v4)], [.int (ost_j v1.toNatClampNeg), .int v1, .ref 30], (cW nw kp im (ol.1, ol.2.1, ol.2.2.1, ol.2.2.2.1, ol.2.2.2.2.1, ol.2.2.2.2.2.1, ol.2.2.2.2.2.2.1, oco_j ||| ((1:Int64) <<< (v1.toInt64 &&& 63)), ost_j, ol.2.2.2.2.2.2.2.2.2.1, ol.2.2.2.2.2.2.2.2.2.2.1, ol.2.2.2.2.2.2.2.2.2.2.2.1, ol.2.2.2.2.2.2.2.2.2.2.2.2.1, ol.2.2.2.2.2.2.2.2.2.2.2.2.2.1, ol.2.2.2.2.2.2.2.2.2.2.2.2.2.2.1, ol.2.2.2.2.2.2.2.2.2.2.2.2.2.2.2.1, ol.2.2.2.2.2.2.2.2.2.2.2.2.2.2.2.2) sn sr tp (mW mk mg mt mc T)), 0, 0)))
    refine stp hm 4 (G_rise_ok hE rfl ?_)
    show sxWP sc cl Q 26 (92, [some (.ref 29), some (.int v1), some (.int v2), some (.int v3), some (.int v4)], [.int (G_rise v1 v2), .int (1:Int32), .int (ost_j v1.toNatClampNeg), .int v1, .ref 30], (cW nw kp im (ol.1, ol.2.1, ol.2.2.1, ol.2.2.2.1, ol.2.2.2.2.1, ol.2.2.2.2.2.1, ol.2.2.2.2.2.2.1, oco_j ||| ((1:Int64) <<< (v1.toInt64 &&& 63)), ost_j, ol.2.2.2.2.2.2.2.2.2.1, ol.2.2.2.2.2.2.2.2.2.2.1, ol.2.2.2.2.2.2.2.2.2.2.2.1, ol.2.2.2.2.2.2.2.2.2.2.2.2.1, ol.2.2.2.2.2.2.2.2.2.2.2.2.2.1, ol.2.2.2.2.2.2.2.2.2.2.2.2.2.2.1, ol.2.2.2.2.2.2.2.2.2.2.2.2.2.2.2.1, ol.2.2.2.2.2.2.2.2.2.2.2.2.2.2.2.2) sn sr tp (mW mk mg mt mc T)), 0, 0)
    have m6 : ∀ (m6_0 : Int32), m6_0 = (if (G_rise v1 v2) ≤ (0:Int32) then (v2 + (4:Int32)) else v2) → sxWP sc cl Q 26 (102, [some (.ref 29), some (.int v1), some (.int v2), some (.int v3), some (.int v4)], [.int m6_0, .int (1:Int32), .int (ost_j v1.toNatClampNeg), .int v1, .ref 30], (cW nw kp im (ol.1, ol.2.1, ol.2.2.1, ol.2.2.2.1, ol.2.2.2.2.1, ol.2.2.2.2.2.1, ol.2.2.2.2.2.2.1, oco_j ||| ((1:Int64) <<< (v1.toInt64 &&& 63)), ost_j, ol.2.2.2.2.2.2.2.2.2.1, ol.2.2.2.2.2.2.2.2.2.2.1, ol.2.2.2.2.2.2.2.2.2.2.2.1, ol.2.2.2.2.2.2.2.2.2.2.2.2.1, ol.2.2.2.2.2.2.2.2.2.2.2.2.2.1, ol.2.2.2.2.2.2.2.2.2.2.2.2.2.2.1, ol.2.2.2.2.2.2.2.2.2.2.2.2.2.2.2.1, ol.2.2.2.2.2.2.2.2.2.2.2.2.2.2.2.2) sn sr tp (mW mk mg mt mc T)), 0, 0) := by
      intro m6_0 em6_0
      subst em6_0
      obtain ⟨g7, hf⟩ := grd_e hf
      refine stp hm 3 (And.intro (gi_in g7) (?_ : sxWP sc cl Q 26 (105, [some (.ref 29), some (.int v1), some (.int v2), some (.int v3), some (.int v4)], [], (cW nw kp im (ol.1, ol.2.1, ol.2.2.1, ol.2.2.2.1, ol.2.2.2.2.1, ol.2.2.2.2.2.1, ol.2.2.2.2.2.2.1, oco_j ||| ((1:Int64) <<< (v1.toInt64 &&& 63)), upd ost_j v1.toNatClampNeg ((ost_j v1.toNatClampNeg) ||| ((1:Int32) <<< ((if (G_rise v1 v2) ≤ (0:Int32) then (v2 + (4:Int32)) else v2) &&& 31))), ol.2.2.2.2.2.2.2.2.2.1, ol.2.2.2.2.2.2.2.2.2.2.1, ol.2.2.2.2.2.2.2.2.2.2.2.1, ol.2.2.2.2.2.2.2.2.2.2.2.2.1, ol.2.2.2.2.2.2.2.2.2.2.2.2.2.1, ol.2.2.2.2.2.2.2.2.2.2.2.2.2.2.1, ol.2.2.2.2.2.2.2.2.2.2.2.2.2.2.2.1, ol.2.2.2.2.2.2.2.2.2.2.2.2.2.2.2.2) sn sr tp (mW mk mg mt mc T)), 0, 0)))
      exact J105 _ _ _ _ _ hf
    refine stp hm 1 (bs (c := (G_rise v1 v2) ≤ (0:Int32)) (fun c8 => ?_) (fun c8 => ?_))
    · have c8 : (G_rise v1 v2) ≤ (0:Int32) := c8
      refine stp hm 3 (?_ : sxWP sc cl Q 26 (102, [some (.ref 29), some (.int v1), some (.int v2), some (.int v3), some (.int v4)], [.int (v2 + (4:Int32)), .int (1:Int32), .int (ost_j v1.toNatClampNeg), .int v1, .ref 30], (cW nw kp im (ol.1, ol.2.1, ol.2.2.1, ol.2.2.2.1, ol.2.2.2.2.1, ol.2.2.2.2.2.1, ol.2.2.2.2.2.2.1, oco_j ||| ((1:Int64) <<< (v1.toInt64 &&& 63)), ost_j, ol.2.2.2.2.2.2.2.2.2.1, ol.2.2.2.2.2.2.2.2.2.2.1, ol.2.2.2.2.2.2.2.2.2.2.2.1, ol.2.2.2.2.2.2.2.2.2.2.2.2.1, ol.2.2.2.2.2.2.2.2.2.2.2.2.2.1, ol.2.2.2.2.2.2.2.2.2.2.2.2.2.2.1, ol.2.2.2.2.2.2.2.2.2.2.2.2.2.2.2.1, ol.2.2.2.2.2.2.2.2.2.2.2.2.2.2.2.2) sn sr tp (mW mk mg mt mc T)), 0, 0))
      exact m6 _ (by rw [if_pos c8])
    · have c8 : ¬ (G_rise v1 v2) ≤ (0:Int32) := c8
      refine stp hm 2 (?_ : sxWP sc cl Q 26 (102, [some (.ref 29), some (.int v1), some (.int v2), some (.int v3), some (.int v4)], [.int v2, .int (1:Int32), .int (ost_j v1.toNatClampNeg), .int v1, .ref 30], (cW nw kp im (ol.1, ol.2.1, ol.2.2.1, ol.2.2.2.1, ol.2.2.2.2.1, ol.2.2.2.2.2.1, ol.2.2.2.2.2.2.1, oco_j ||| ((1:Int64) <<< (v1.toInt64 &&& 63)), ost_j, ol.2.2.2.2.2.2.2.2.2.1, ol.2.2.2.2.2.2.2.2.2.2.1, ol.2.2.2.2.2.2.2.2.2.2.2.1, ol.2.2.2.2.2.2.2.2.2.2.2.2.1, ol.2.2.2.2.2.2.2.2.2.2.2.2.2.1, ol.2.2.2.2.2.2.2.2.2.2.2.2.2.2.1, ol.2.2.2.2.2.2.2.2.2.2.2.2.2.2.2.1, ol.2.2.2.2.2.2.2.2.2.2.2.2.2.2.2.2) sn sr tp (mW mk mg mt mc T)), 0, 0))
      exact m6 _ (by rw [if_neg c8])
  unfold O_findSteps_s22 at hf
  refine stp hm 3 (br hf (fun c9 hf => ?_) (fun c9 hf => ?_))
  · show sxWP sc cl Q 26 (139, [some (.ref 29), some (.int v1), some (.int s.1), z3, z4], [], (cW nw kp im (ol.1, ol.2.1, ol.2.2.1, ol.2.2.2.1, ol.2.2.2.2.1, ol.2.2.2.2.2.1, ol.2.2.2.2.2.2.1, s.2.1, s.2.2, ol.2.2.2.2.2.2.2.2.2.1, ol.2.2.2.2.2.2.2.2.2.2.1, ol.2.2.2.2.2.2.2.2.2.2.2.1, ol.2.2.2.2.2.2.2.2.2.2.2.2.1, ol.2.2.2.2.2.2.2.2.2.2.2.2.2.1, ol.2.2.2.2.2.2.2.2.2.2.2.2.2.2.1, ol.2.2.2.2.2.2.2.2.2.2.2.2.2.2.2.1, ol.2.2.2.2.2.2.2.2.2.2.2.2.2.2.2.2) sn sr tp (mW mk mg mt mc T)), 0, 0)
    obtain rfl := Option.some.inj hf
    exact hB _ rfl _ _ _
  · show sxWP sc cl Q 26 (27, [some (.ref 29), some (.int v1), some (.int s.1), z3, z4], [], (cW nw kp im (ol.1, ol.2.1, ol.2.2.1, ol.2.2.2.1, ol.2.2.2.2.1, ol.2.2.2.2.2.1, ol.2.2.2.2.2.2.1, s.2.1, s.2.2, ol.2.2.2.2.2.2.2.2.2.1, ol.2.2.2.2.2.2.2.2.2.2.1, ol.2.2.2.2.2.2.2.2.2.2.2.1, ol.2.2.2.2.2.2.2.2.2.2.2.2.1, ol.2.2.2.2.2.2.2.2.2.2.2.2.2.1, ol.2.2.2.2.2.2.2.2.2.2.2.2.2.2.1, ol.2.2.2.2.2.2.2.2.2.2.2.2.2.2.2.1, ol.2.2.2.2.2.2.2.2.2.2.2.2.2.2.2.2) sn sr tp (mW mk mg mt mc T)), 0, 0)
    refine stp hm 5 (G_leftOf_ok hE rfl ?_)
    show sxWP sc cl Q 26 (36, [some (.ref 29), some (.int v1), some (.int s.1), z3, z4], [.int (G_leftOf v1 s.1), .long ol.2.1], (cW nw kp im (ol.1, ol.2.1, ol.2.2.1, ol.2.2.2.1, ol.2.2.2.2.1, ol.2.2.2.2.2.1, ol.2.2.2.2.2.2.1, s.2.1, s.2.2, ol.2.2.2.2.2.2.2.2.2.1, ol.2.2.2.2.2.2.2.2.2.2.1, ol.2.2.2.2.2.2.2.2.2.2.2.1, ol.2.2.2.2.2.2.2.2.2.2.2.2.1, ol.2.2.2.2.2.2.2.2.2.2.2.2.2.1, ol.2.2.2.2.2.2.2.2.2.2.2.2.2.2.1, ol.2.2.2.2.2.2.2.2.2.2.2.2.2.2.2.1, ol.2.2.2.2.2.2.2.2.2.2.2.2.2.2.2.2) sn sr tp (mW mk mg mt mc T)), 0, 0)
    refine stp hm 1 (G_holds_ok hE rfl ?_)
    show sxWP sc cl Q 26 (39, [some (.ref 29), some (.int v1), some (.int s.1), z3, z4], [.int (G_holds ol.2.1 (G_leftOf v1 s.1))], (cW nw kp im (ol.1, ol.2.1, ol.2.2.1, ol.2.2.2.1, ol.2.2.2.2.1, ol.2.2.2.2.2.1, ol.2.2.2.2.2.2.1, s.2.1, s.2.2, ol.2.2.2.2.2.2.2.2.2.1, ol.2.2.2.2.2.2.2.2.2.2.1, ol.2.2.2.2.2.2.2.2.2.2.2.1, ol.2.2.2.2.2.2.2.2.2.2.2.2.1, ol.2.2.2.2.2.2.2.2.2.2.2.2.2.1, ol.2.2.2.2.2.2.2.2.2.2.2.2.2.2.1, ol.2.2.2.2.2.2.2.2.2.2.2.2.2.2.2.1, ol.2.2.2.2.2.2.2.2.2.2.2.2.2.2.2.2) sn sr tp (mW mk mg mt mc T)), 0, 0)
    refine stp hm 6 (G_rightOf_ok hE rfl ?_)
    show sxWP sc cl Q 26 (49, [some (.ref 29), some (.int v1), some (.int s.1), some (.int (G_holds ol.2.1 (G_leftOf v1 s.1))), z4], [.int (G_rightOf v1 s.1), .long ol.2.1], (cW nw kp im (ol.1, ol.2.1, ol.2.2.1, ol.2.2.2.1, ol.2.2.2.2.1, ol.2.2.2.2.2.1, ol.2.2.2.2.2.2.1, s.2.1, s.2.2, ol.2.2.2.2.2.2.2.2.2.1, ol.2.2.2.2.2.2.2.2.2.2.1, ol.2.2.2.2.2.2.2.2.2.2.2.1, ol.2.2.2.2.2.2.2.2.2.2.2.2.1, ol.2.2.2.2.2.2.2.2.2.2.2.2.2.1, ol.2.2.2.2.2.2.2.2.2.2.2.2.2.2.1, ol.2.2.2.2.2.2.2.2.2.2.2.2.2.2.2.1, ol.2.2.2.2.2.2.2.2.2.2.2.2.2.2.2.2) sn sr tp (mW mk mg mt mc T)), 0, 0)
    refine stp hm 1 (G_holds_ok hE rfl ?_)
    show sxWP sc cl Q 26 (52, [some (.ref 29), some (.int v1), some (.int s.1), some (.int (G_holds ol.2.1 (G_leftOf v1 s.1))), z4], [.int (G_holds ol.2.1 (G_rightOf v1 s.1))], (cW nw kp im (ol.1, ol.2.1, ol.2.2.1, ol.2.2.2.1, ol.2.2.2.2.1, ol.2.2.2.2.2.1, ol.2.2.2.2.2.2.1, s.2.1, s.2.2, ol.2.2.2.2.2.2.2.2.2.1, ol.2.2.2.2.2.2.2.2.2.2.1, ol.2.2.2.2.2.2.2.2.2.2.2.1, ol.2.2.2.2.2.2.2.2.2.2.2.2.1, ol.2.2.2.2.2.2.2.2.2.2.2.2.2.1, ol.2.2.2.2.2.2.2.2.2.2.2.2.2.2.1, ol.2.2.2.2.2.2.2.2.2.2.2.2.2.2.2.1, ol.2.2.2.2.2.2.2.2.2.2.2.2.2.2.2.2) sn sr tp (mW mk mg mt mc T)), 0, 0)
    refine stp hm 3 (brn hf (fun c10 hf => ?_) (fun c10 hf => ?_))
    · show sxWP sc cl Q 26 (63, [some (.ref 29), some (.int v1), some (.int s.1), some (.int (G_holds ol.2.1 (G_leftOf v1 s.1))), some (.int (G_holds ol.2.1 (G_rightOf v1 s.1)))], [], (cW nw kp im (ol.1, ol.2.1, ol.2.2.1, ol.2.2.2.1, ol.2.2.2.2.1, ol.2.2.2.2.2.1, ol.2.2.2.2.2.2.1, s.2.1, s.2.2, ol.2.2.2.2.2.2.2.2.2.1, ol.2.2.2.2.2.2.2.2.2.2.1, ol.2.2.2.2.2.2.2.2.2.2.2.1, ol.2.2.2.2.2.2.2.2.2.2.2.2.1, ol.2.2.2.2.2.2.2.2.2.2.2.2.2.1, ol.2.2.2.2.2.2.2.2.2.2.2.2.2.2.1, ol.2.2.2.2.2.2.2.2.2.2.2.2.2.2.2.1, ol.2.2.2.2.2.2.2.2.2.2.2.2.2.2.2.2) sn sr tp (mW mk mg mt mc T)), 0, 0)
      exact J63 _ _ _ _ _ hf
    · show sxWP sc cl Q 26 (58, [some (.ref 29), some (.int v1), some (.int s.1), some (.int (G_holds ol.2.1 (G_leftOf v1 s.1))), some (.int (G_holds ol.2.1 (G_rightOf v1 s.1)))], [], (cW nw kp im (ol.1, ol.2.1, ol.2.2.1, ol.2.2.2.1, ol.2.2.2.2.1, ol.2.2.2.2.2.1, ol.2.2.2.2.2.2.1, s.2.1, s.2.2, ol.2.2.2.2.2.2.2.2.2.1, ol.2.2.2.2.2.2.2.2.2.2.1, ol.2.2.2.2.2.2.2.2.2.2.2.1, ol.2.2.2.2.2.2.2.2.2.2.2.2.1, ol.2.2.2.2.2.2.2.2.2.2.2.2.2.1, ol.2.2.2.2.2.2.2.2.2.2.2.2.2.2.1, ol.2.2.2.2.2.2.2.2.2.2.2.2.2.2.2.1, ol.2.2.2.2.2.2.2.2.2.2.2.2.2.2.2.2) sn sr tp (mW mk mg mt mc T)), 0, 0)
      refine stp hm 2 (br hf (fun c11 hf => ?_) (fun c11 hf => ?_))
      · show sxWP sc cl Q 26 (105, [some (.ref 29), some (.int v1), some (.int s.1), some (.int (G_holds ol.2.1 (G_leftOf v1 s.1))), some (.int (G_holds ol.2.1 (G_rightOf v1 s.1)))], [], (cW nw kp im (ol.1, ol.2.1, ol.2.2.1, ol.2.2.2.1, ol.2.2.2.2.1, ol.2.2.2.2.2.1, ol.2.2.2.2.2.2.1, s.2.1, s.2.2, ol.2.2.2.2.2.2.2.2.2.1, ol.2.2.2.2.2.2.2.2.2.2.1, ol.2.2.2.2.2.2.2.2.2.2.2.1, ol.2.2.2.2.2.2.2.2.2.2.2.2.1, ol.2.2.2.2.2.2.2.2.2.2.2.2.2.1, ol.2.2.2.2.2.2.2.2.2.2.2.2.2.2.1, ol.2.2.2.2.2.2.2.2.2.2.2.2.2.2.2.1, ol.2.2.2.2.2.2.2.2.2.2.2.2.2.2.2.2) sn sr tp (mW mk mg mt mc T)), 0, 0)
        exact J105 _ _ _ _ _ hf
      · show sxWP sc cl Q 26 (63, [some (.ref 29), some (.int v1), some (.int s.1), some (.int (G_holds ol.2.1 (G_leftOf v1 s.1))), some (.int (G_holds ol.2.1 (G_rightOf v1 s.1)))], [], (cW nw kp im (ol.1, ol.2.1, ol.2.2.1, ol.2.2.2.1, ol.2.2.2.2.1, ol.2.2.2.2.2.1, ol.2.2.2.2.2.2.1, s.2.1, s.2.2, ol.2.2.2.2.2.2.2.2.2.1, ol.2.2.2.2.2.2.2.2.2.2.1, ol.2.2.2.2.2.2.2.2.2.2.2.1, ol.2.2.2.2.2.2.2.2.2.2.2.2.1, ol.2.2.2.2.2.2.2.2.2.2.2.2.2.1, ol.2.2.2.2.2.2.2.2.2.2.2.2.2.2.1, ol.2.2.2.2.2.2.2.2.2.2.2.2.2.2.2.1, ol.2.2.2.2.2.2.2.2.2.2.2.2.2.2.2.2) sn sr tp (mW mk mg mt mc T)), 0, 0)
        exact J63 _ _ _ _ _ hf
set_option maxRecDepth 10000 in
theorem O_findSteps_l7    (hE : cl = sxE sc (d + 2)) (hm : CallMono cl) : ∀ (n : Nat) (s : (Int32 × Int64 × (Nat → Int32))) (r : (Int64 × (Nat → Int32))), wh (O_findSteps_s7 ol.2.1) n s = some r → (∀ (z0 z1 z2 z3 z4 : Option Value), sxWP sc cl Q 26 (145, [z0, z1, z2, z3, z4], [], (cW nw kp im (ol.1, ol.2.1, ol.2.2.1, ol.2.2.2.1, ol.2.2.2.2.1, ol.2.2.2.2.2.1, ol.2.2.2.2.2.2.1, r.1, r.2, ol.2.2.2.2.2.2.2.2.2.1, ol.2.2.2.2.2.2.2.2.2.2.1, ol.2.2.2.2.2.2.2.2.2.2.2.1, ol.2.2.2.2.2.2.2.2.2.2.2.2.1, ol.2.2.2.2.2.2.2.2.2.2.2.2.2.1, ol.2.2.2.2.2.2.2.2.2.2.2.2.2.2.1, ol.2.2.2.2.2.2.2.2.2.2.2.2.2.2.2.1, ol.2.2.2.2.2.2.2.2.2.2.2.2.2.2.2.2) sn sr tp (mW mk mg mt mc T)), 0, 0)) → ∀ (z2 z3 z4 : Option Value), sxWP sc cl Q 26 (7, [some (.ref 29), some (.int s.1), z2, z3, z4], [], (cW nw kp im (ol.1, ol.2.1, ol.2.2.1, ol.2.2.2.1, ol.2.2.2.2.1, ol.2.2.2.2.2.1, ol.2.2.2.2.2.2.1, s.2.1, s.2.2, ol.2.2.2.2.2.2.2.2.2.1, ol.2.2.2.2.2.2.2.2.2.2.1, ol.2.2.2.2.2.2.2.2.2.2.2.1, ol.2.2.2.2.2.2.2.2.2.2.2.2.1, ol.2.2.2.2.2.2.2.2.2.2.2.2.2.1, ol.2.2.2.2.2.2.2.2.2.2.2.2.2.2.1, ol.2.2.2.2.2.2.2.2.2.2.2.2.2.2.2.1, ol.2.2.2.2.2.2.2.2.2.2.2.2.2.2.2.2) sn sr tp (mW mk mg mt mc T)), 0, 0) := by
  refine wh_run (A := fun (s : (Int32 × Int64 × (Nat → Int32))) => ∀ (z2 z3 z4 : Option Value), sxWP sc cl Q 26 (7, [some (.ref 29), some (.int s.1), z2, z3, z4], [], (cW nw kp im (ol.1, ol.2.1, ol.2.2.1, ol.2.2.2.1, ol.2.2.2.2.1, ol.2.2.2.2.2.1, ol.2.2.2.2.2.2.1, s.2.1, s.2.2, ol.2.2.2.2.2.2.2.2.2.1, ol.2.2.2.2.2.2.2.2.2.2.1, ol.2.2.2.2.2.2.2.2.2.2.2.1, ol.2.2.2.2.2.2.2.2.2.2.2.2.1, ol.2.2.2.2.2.2.2.2.2.2.2.2.2.1, ol.2.2.2.2.2.2.2.2.2.2.2.2.2.2.1, ol.2.2.2.2.2.2.2.2.2.2.2.2.2.2.2.1, ol.2.2.2.2.2.2.2.2.2.2.2.2.2.2.2.2) sn sr tp (mW mk mg mt mc T)), 0, 0)) (B := fun (r : (Int64 × (Nat → Int32))) => ∀ (z0 z1 z2 z3 z4 : Option Value), sxWP sc cl Q 26 (145, [z0, z1, z2, z3, z4], [], (cW nw kp im (ol.1, ol.2.1, ol.2.2.1, ol.2.2.2.1, ol.2.2.2.2.1, ol.2.2.2.2.2.1, ol.2.2.2.2.2.2.1, r.1, r.2, ol.2.2.2.2.2.2.2.2.2.1, ol.2.2.2.2.2.2.2.2.2.2.1, ol.2.2.2.2.2.2.2.2.2.2.2.1, ol.2.2.2.2.2.2.2.2.2.2.2.2.1, ol.2.2.2.2.2.2.2.2.2.2.2.2.2.1, ol.2.2.2.2.2.2.2.2.2.2.2.2.2.2.1, ol.2.2.2.2.2.2.2.2.2.2.2.2.2.2.2.1, ol.2.2.2.2.2.2.2.2.2.2.2.2.2.2.2.2) sn sr tp (mW mk mg mt mc T)), 0, 0)) (fun s x hf hA hB => ?_)
  intro z2 z3 z4
  unfold O_findSteps_s7 at hf
  refine stp hm 3 (br hf (fun c1 hf => ?_) (fun c1 hf => ?_))
  · show sxWP sc cl Q 26 (145, [some (.ref 29), some (.int s.1), z2, z3, z4], [], (cW nw kp im (ol.1, ol.2.1, ol.2.2.1, ol.2.2.2.1, ol.2.2.2.2.1, ol.2.2.2.2.2.1, ol.2.2.2.2.2.2.1, s.2.1, s.2.2, ol.2.2.2.2.2.2.2.2.2.1, ol.2.2.2.2.2.2.2.2.2.2.1, ol.2.2.2.2.2.2.2.2.2.2.2.1, ol.2.2.2.2.2.2.2.2.2.2.2.2.1, ol.2.2.2.2.2.2.2.2.2.2.2.2.2.1, ol.2.2.2.2.2.2.2.2.2.2.2.2.2.2.1, ol.2.2.2.2.2.2.2.2.2.2.2.2.2.2.2.1, ol.2.2.2.2.2.2.2.2.2.2.2.2.2.2.2.2) sn sr tp (mW mk mg mt mc T)), 0, 0)
    obtain rfl := Option.some.inj hf
    exact hB _ rfl _ _ _ _ _
  · show sxWP sc cl Q 26 (13, [some (.ref 29), some (.int s.1), z2, z3, z4], [], (cW nw kp im (ol.1, ol.2.1, ol.2.2.1, ol.2.2.2.1, ol.2.2.2.2.1, ol.2.2.2.2.2.1, ol.2.2.2.2.2.2.1, s.2.1, s.2.2, ol.2.2.2.2.2.2.2.2.2.1, ol.2.2.2.2.2.2.2.2.2.2.1, ol.2.2.2.2.2.2.2.2.2.2.2.1, ol.2.2.2.2.2.2.2.2.2.2.2.2.1, ol.2.2.2.2.2.2.2.2.2.2.2.2.2.1, ol.2.2.2.2.2.2.2.2.2.2.2.2.2.2.1, ol.2.2.2.2.2.2.2.2.2.2.2.2.2.2.2.1, ol.2.2.2.2.2.2.2.2.2.2.2.2.2.2.2.2) sn sr tp (mW mk mg mt mc T)), 0, 0)
    obtain ⟨g2, hf⟩ := grd_e hf
    refine stp hm 5 (And.intro (gi_in g2) (?_ : sxWP sc cl Q 26 (20, [some (.ref 29), some (.int s.1), z2, z3, z4], [], (cW nw kp im (ol.1, ol.2.1, ol.2.2.1, ol.2.2.2.1, ol.2.2.2.2.1, ol.2.2.2.2.2.1, ol.2.2.2.2.2.2.1, s.2.1, upd s.2.2 s.1.toNatClampNeg (0:Int32), ol.2.2.2.2.2.2.2.2.2.1, ol.2.2.2.2.2.2.2.2.2.2.1, ol.2.2.2.2.2.2.2.2.2.2.2.1, ol.2.2.2.2.2.2.2.2.2.2.2.2.1, ol.2.2.2.2.2.2.2.2.2.2.2.2.2.1, ol.2.2.2.2.2.2.2.2.2.2.2.2.2.2.1, ol.2.2.2.2.2.2.2.2.2.2.2.2.2.2.2.1, ol.2.2.2.2.2.2.2.2.2.2.2.2.2.2.2.2) sn sr tp (mW mk mg mt mc T)), 0, 0)))
    obtain ⟨w3, hw3, hf⟩ := bnd hf
    refine stp hm 2 (?_ : sxWP sc cl Q 26 (22, [some (.ref 29), some (.int s.1), some (.int (0:Int32)), z3, z4], [], (cW nw kp im (ol.1, ol.2.1, ol.2.2.1, ol.2.2.2.1, ol.2.2.2.2.1, ol.2.2.2.2.2.1, ol.2.2.2.2.2.2.1, s.2.1, upd s.2.2 s.1.toNatClampNeg (0:Int32), ol.2.2.2.2.2.2.2.2.2.1, ol.2.2.2.2.2.2.2.2.2.2.1, ol.2.2.2.2.2.2.2.2.2.2.2.1, ol.2.2.2.2.2.2.2.2.2.2.2.2.1, ol.2.2.2.2.2.2.2.2.2.2.2.2.2.1, ol.2.2.2.2.2.2.2.2.2.2.2.2.2.2.1, ol.2.2.2.2.2.2.2.2.2.2.2.2.2.2.2.1, ol.2.2.2.2.2.2.2.2.2.2.2.2.2.2.2.2) sn sr tp (mW mk mg mt mc T)), 0, 0))
    refine O_findSteps_l22 hE hm _ _ _ hw3 ?_ _ _
    intro w3_z2 w3_z3 w3_z4
    show sxWP sc cl Q 26 (139, [some (.ref 29), some (.int s.1), w3_z2, w3_z3, w3_z4], [], (cW nw kp im (ol.1, ol.2.1, ol.2.2.1, ol.2.2.2.1, ol.2.2.2.2.1, ol.2.2.2.2.2.1, ol.2.2.2.2.2.2.1, w3.1, w3.2, ol.2.2.2.2.2.2.2.2.2.1, ol.2.2.2.2.2.2.2.2.2.2.1, ol.2.2.2.2.2.2.2.2.2.2.2.1, ol.2.2.2.2.2.2.2.2.2.2.2.2.1, ol.2.2.2.2.2.2.2.2.2.2.2.2.2.1, ol.2.2.2.2.2.2.2.2.2.2.2.2.2.2.1, ol.2.2.2.2.2.2.2.2.2.2.2.2.2.2.2.1, ol.2.2.2.2.2.2.2.2.2.2.2.2.2.2.2.2) sn sr tp (mW mk mg mt mc T)), 0, 0)
    obtain rfl := Option.some.inj hf
    refine stp hm 2 (?_ : sxWP sc cl Q 26 (7, [some (.ref 29), some (.int (s.1 + (1:Int32))), w3_z2, w3_z3, w3_z4], [], (cW nw kp im (ol.1, ol.2.1, ol.2.2.1, ol.2.2.2.1, ol.2.2.2.2.1, ol.2.2.2.2.2.1, ol.2.2.2.2.2.2.1, w3.1, w3.2, ol.2.2.2.2.2.2.2.2.2.1, ol.2.2.2.2.2.2.2.2.2.2.1, ol.2.2.2.2.2.2.2.2.2.2.2.1, ol.2.2.2.2.2.2.2.2.2.2.2.2.1, ol.2.2.2.2.2.2.2.2.2.2.2.2.2.1, ol.2.2.2.2.2.2.2.2.2.2.2.2.2.2.1, ol.2.2.2.2.2.2.2.2.2.2.2.2.2.2.2.1, ol.2.2.2.2.2.2.2.2.2.2.2.2.2.2.2.2) sn sr tp (mW mk mg mt mc T)), 0, 0))
    exact hA _ rfl _ _ _
set_option maxRecDepth 10000 in
theorem O_findSteps_ok  {q : (Int64 × (Nat → Int32))} (hc : call = sxE sc (d + 3)) (hf : O_findSteps ol.2.1 ol.2.2.2.2.2.2.2.2.1 = some q) (h : Q none (cW nw kp im (ol.1, ol.2.1, ol.2.2.1, ol.2.2.2.1, ol.2.2.2.2.1, ol.2.2.2.2.2.1, ol.2.2.2.2.2.2.1, q.1, q.2, ol.2.2.2.2.2.2.2.2.2.1, ol.2.2.2.2.2.2.2.2.2.2.1, ol.2.2.2.2.2.2.2.2.2.2.2.1, ol.2.2.2.2.2.2.2.2.2.2.2.2.1, ol.2.2.2.2.2.2.2.2.2.2.2.2.2.1, ol.2.2.2.2.2.2.2.2.2.2.2.2.2.2.1, ol.2.2.2.2.2.2.2.2.2.2.2.2.2.2.2.1, ol.2.2.2.2.2.2.2.2.2.2.2.2.2.2.2.2) sn sr tp (mW mk mg mt mc T))) : call 26 [.ref 29] (cW nw kp im ol sn sr tp (mW mk mg mt mc T)) Q := by
  refine ent hc rfl (fun cl hE hm => ?_)
  unfold O_findSteps at hf
  obtain ⟨w1, hw1, hf⟩ := bnd hf
  refine stp hm 5 (?_ : sxWP sc cl Q 26 (7, [some (.ref 29), some (.int (0:Int32)), none, none, none], [], (cW nw kp im (ol.1, ol.2.1, ol.2.2.1, ol.2.2.2.1, ol.2.2.2.2.1, ol.2.2.2.2.2.1, ol.2.2.2.2.2.2.1, (0:Int64), ol.2.2.2.2.2.2.2.2.1, ol.2.2.2.2.2.2.2.2.2.1, ol.2.2.2.2.2.2.2.2.2.2.1, ol.2.2.2.2.2.2.2.2.2.2.2.1, ol.2.2.2.2.2.2.2.2.2.2.2.2.1, ol.2.2.2.2.2.2.2.2.2.2.2.2.2.1, ol.2.2.2.2.2.2.2.2.2.2.2.2.2.2.1, ol.2.2.2.2.2.2.2.2.2.2.2.2.2.2.2.1, ol.2.2.2.2.2.2.2.2.2.2.2.2.2.2.2.2) sn sr tp (mW mk mg mt mc T)), 0, 0))
  refine O_findSteps_l7 hE hm _ _ _ hw1 ?_ _ _ _
  intro w1_z0 w1_z1 w1_z2 w1_z3 w1_z4
  show sxWP sc cl Q 26 (145, [w1_z0, w1_z1, w1_z2, w1_z3, w1_z4], [], (cW nw kp im (ol.1, ol.2.1, ol.2.2.1, ol.2.2.2.1, ol.2.2.2.2.1, ol.2.2.2.2.2.1, ol.2.2.2.2.2.2.1, w1.1, w1.2, ol.2.2.2.2.2.2.2.2.2.1, ol.2.2.2.2.2.2.2.2.2.2.1, ol.2.2.2.2.2.2.2.2.2.2.2.1, ol.2.2.2.2.2.2.2.2.2.2.2.2.1, ol.2.2.2.2.2.2.2.2.2.2.2.2.2.1, ol.2.2.2.2.2.2.2.2.2.2.2.2.2.2.1, ol.2.2.2.2.2.2.2.2.2.2.2.2.2.2.2.1, ol.2.2.2.2.2.2.2.2.2.2.2.2.2.2.2.2) sn sr tp (mW mk mg mt mc T)), 0, 0)
  obtain rfl := Option.some.inj hf
  refine stp hm 1 ?_
  exact h

def G_vertexAt (v0 : Int32) (v1 : Int32)  : Int32 := if (if v0 < (0:Int32) then (0:Int32) else (if (7:Int32) ≤ v0 then (0:Int32) else (if v1 < (0:Int32) then (0:Int32) else (if (7:Int32) ≤ v1 then (0:Int32) else (1:Int32))))) = (0:Int32) then (-1:Int32) else ((v0 * (7:Int32)) + v1)
set_option maxRecDepth 10000 in
theorem G_vertexAt_ok {v0 : Int32} {v1 : Int32} {r : Int32} (hc : call = sxE sc (d + 1)) (hf : G_vertexAt v0 v1 = r) (h : Q (some (.int r)) hp) : call 5 [.int v0, .int v1] hp Q := by
  refine ent hc rfl (fun cl hE hm => ?_)
  unfold G_vertexAt at hf
  have m1 : ∀ (m1_0 : Int32), m1_0 = (if v0 < (0:Int32) then (0:Int32) else (if (7:Int32) ≤ v0 then (0:Int32) else (if v1 < (0:Int32) then (0:Int32) else (if (7:Int32) ≤ v1 then (0:Int32) else (1:Int32))))) → sxWP sc cl Q 5 (25, [some (.int v0), some (.int v1), none], [.int m1_0], hp, 0, 0) := by
    intro m1_0 em1_0
    subst em1_0
    have m2 : ∀ (m2_0 : Int32), m2_0 = (if (if v0 < (0:Int32) then (0:Int32) else (if (7:Int32) ≤ v0 then (0:Int32) else (if v1 < (0:Int32) then (0:Int32) else (if (7:Int32) ≤ v1 then (0:Int32) else (1:Int32))))) = (0:Int32) then (-1:Int32) else ((v0 * (7:Int32)) + v1)) → sxWP sc cl Q 5 (40, [some (.int v0), some (.int v1), some (.int (if v0 < (0:Int32) then (0:Int32) else (if (7:Int32) ≤ v0 then (0:Int32) else (if v1 < (0:Int32) then (0:Int32) else (if (7:Int32) ≤ v1 then (0:Int32) else (1:Int32))))))], [.int m2_0], hp, 0, 0) := by
      intro m2_0 em2_0
      subst em2_0
      subst hf
      refine stp hm 1 ?_
      exact h
    refine stp hm 3 (bs (c := (if v0 < (0:Int32) then (0:Int32) else (if (7:Int32) ≤ v0 then (0:Int32) else (if v1 < (0:Int32) then (0:Int32) else (if (7:Int32) ≤ v1 then (0:Int32) else (1:Int32))))) = (0:Int32)) (fun c3 => ?_) (fun c3 => ?_))
    · have c3 : (if v0 < (0:Int32) then (0:Int32) else (if (7:Int32) ≤ v0 then (0:Int32) else (if v1 < (0:Int32) then (0:Int32) else (if (7:Int32) ≤ v1 then (0:Int32) else (1:Int32))))) = (0:Int32) := c3
      refine stp hm 1 (?_ : sxWP sc cl Q 5 (40, [some (.int v0), some (.int v1), some (.int (if v0 < (0:Int32) then (0:Int32) else (if (7:Int32) ≤ v0 then (0:Int32) else (if v1 < (0:Int32) then (0:Int32) else (if (7:Int32) ≤ v1 then (0:Int32) else (1:Int32))))))], [.int (-1:Int32)], hp, 0, 0))
      exact m2 _ (by rw [if_pos c3])
    · have c3 : ¬ (if v0 < (0:Int32) then (0:Int32) else (if (7:Int32) ≤ v0 then (0:Int32) else (if v1 < (0:Int32) then (0:Int32) else (if (7:Int32) ≤ v1 then (0:Int32) else (1:Int32))))) = (0:Int32) := c3
      refine stp hm 6 (?_ : sxWP sc cl Q 5 (40, [some (.int v0), some (.int v1), some (.int (if v0 < (0:Int32) then (0:Int32) else (if (7:Int32) ≤ v0 then (0:Int32) else (if v1 < (0:Int32) then (0:Int32) else (if (7:Int32) ≤ v1 then (0:Int32) else (1:Int32))))))], [.int ((v0 * (7:Int32)) + v1)], hp, 0, 0))
      exact m2 _ (by rw [if_neg c3])
  refine stp hm 2 (bs (c := v0 < (0:Int32)) (fun c4 => ?_) (fun c4 => ?_))
  · have c4 : v0 < (0:Int32) := c4
    refine stp hm 1 (?_ : sxWP sc cl Q 5 (25, [some (.int v0), some (.int v1), none], [.int (0:Int32)], hp, 0, 0))
    exact m1 _ (by rw [if_pos c4])
  · have c4 : ¬ v0 < (0:Int32) := c4
    refine stp hm 3 (bs (c := (7:Int32) ≤ v0) (fun c5 => ?_) (fun c5 => ?_))
    · have c5 : (7:Int32) ≤ v0 := c5
      refine stp hm 1 (?_ : sxWP sc cl Q 5 (25, [some (.int v0), some (.int v1), none], [.int (0:Int32)], hp, 0, 0))
      exact m1 _ (by rw [if_neg c4, if_pos c5])
    · have c5 : ¬ (7:Int32) ≤ v0 := c5
      refine stp hm 2 (bs (c := v1 < (0:Int32)) (fun c6 => ?_) (fun c6 => ?_))
      · have c6 : v1 < (0:Int32) := c6
        refine stp hm 1 (?_ : sxWP sc cl Q 5 (25, [some (.int v0), some (.int v1), none], [.int (0:Int32)], hp, 0, 0))
        exact m1 _ (by rw [if_neg c4, if_neg c5, if_pos c6])
      · have c6 : ¬ v1 < (0:Int32) := c6
        refine stp hm 3 (bs (c := (7:Int32) ≤ v1) (fun c7 => ?_) (fun c7 => ?_))
        · have c7 : (7:Int32) ≤ v1 := c7
          refine stp hm 1 (?_ : sxWP sc cl Q 5 (25, [some (.int v0), some (.int v1), none], [.int (0:Int32)], hp, 0, 0))
          exact m1 _ (by rw [if_neg c4, if_neg c5, if_neg c6, if_pos c7])
        · have c7 : ¬ (7:Int32) ≤ v1 := c7
          refine stp hm 2 (?_ : sxWP sc cl Q 5 (25, [some (.int v0), some (.int v1), none], [.int (1:Int32)], hp, 0, 0))
          exact m1 _ (by rw [if_neg c4, if_neg c5, if_neg c6, if_neg c7])

def G_isVertex (v0 : Int32)  : Int32 := if v0 < (0:Int32) then (0:Int32) else (if (49:Int32) ≤ v0 then (0:Int32) else (1:Int32))
set_option maxRecDepth 10000 in
theorem G_isVertex_ok {v0 : Int32} {r : Int32} (hc : call = sxE sc (d + 1)) (hf : G_isVertex v0 = r) (h : Q (some (.int r)) hp) : call 3 [.int v0] hp Q := by
  refine ent hc rfl (fun cl hE hm => ?_)
  unfold G_isVertex at hf
  have m1 : ∀ (m1_0 : Int32), m1_0 = (if v0 < (0:Int32) then (0:Int32) else (if (49:Int32) ≤ v0 then (0:Int32) else (1:Int32))) → sxWP sc cl Q 3 (15, [some (.int v0)], [.int m1_0], hp, 0, 0) := by
    intro m1_0 em1_0
    subst em1_0
    subst hf
    refine stp hm 1 (And.intro (by (repeat' split) <;> first | exact Or.inl rfl | exact Or.inr rfl) ?_)
    exact h
  refine stp hm 2 (bs (c := v0 < (0:Int32)) (fun c2 => ?_) (fun c2 => ?_))
  · have c2 : v0 < (0:Int32) := c2
    refine stp hm 1 (?_ : sxWP sc cl Q 3 (15, [some (.int v0)], [.int (0:Int32)], hp, 0, 0))
    exact m1 _ (by rw [if_pos c2])
  · have c2 : ¬ v0 < (0:Int32) := c2
    refine stp hm 3 (bs (c := (49:Int32) ≤ v0) (fun c3 => ?_) (fun c3 => ?_))
    · have c3 : (49:Int32) ≤ v0 := c3
      refine stp hm 1 (?_ : sxWP sc cl Q 3 (15, [some (.int v0)], [.int (0:Int32)], hp, 0, 0))
      exact m1 _ (by rw [if_neg c2, if_pos c3])
    · have c3 : ¬ (49:Int32) ≤ v0 := c3
      refine stp hm 2 (?_ : sxWP sc cl Q 3 (15, [some (.int v0)], [.int (1:Int32)], hp, 0, 0))
      exact m1 _ (by rw [if_neg c2, if_neg c3])
theorem G_isVertex_z {v0 : Int32}  : G_isVertex v0 = 0 ∨ G_isVertex v0 = 1 := by
  unfold G_isVertex
  (repeat' split) <;> first | exact Or.inl rfl | exact Or.inr rfl

def O_isOnWord (v1 : Int32) (oow : Int64) : Int32 := if (G_isVertex v1) = (0:Int32) then (0:Int32) else (if (((oow.toUInt64 >>> (v1.toInt64.toUInt64 &&& Int64.toUInt64 63)).toInt64) &&& (1:Int64)) = (0:Int64) then (0:Int32) else (1:Int32))
set_option maxRecDepth 10000 in
theorem O_isOnWord_ok {v1 : Int32} {r : Int32} (hc : call = sxE sc (d + 2)) (hf : O_isOnWord v1 ol.2.2.2.2.2.2.1 = r) (h : Q (some (.int r)) (cW nw kp im ol sn sr tp (mW mk mg mt mc T))) : call 21 [.ref 29, .int v1] (cW nw kp im ol sn sr tp (mW mk mg mt mc T)) Q := by
  refine ent hc rfl (fun cl hE hm => ?_)
  unfold O_isOnWord at hf
  refine stp hm 2 (G_isVertex_ok hE rfl ?_)
  show sxWP sc cl Q 21 (4, [some (.ref 29), some (.int v1)], [.int (G_isVertex v1)], (cW nw kp im ol sn sr tp (mW mk mg mt mc T)), 0, 0)
  have m1 : ∀ (m1_0 : Int32), m1_0 = (if (G_isVertex v1) = (0:Int32) then (0:Int32) else (if (((ol.2.2.2.2.2.2.1.toUInt64 >>> (v1.toInt64.toUInt64 &&& Int64.toUInt64 63)).toInt64) &&& (1:Int64)) = (0:Int64) then (0:Int32) else (1:Int32))) → sxWP sc cl Q 21 (25, [some (.ref 29), some (.int v1)], [.int m1_0], (cW nw kp im ol sn sr tp (mW mk mg mt mc T)), 0, 0) := by
    intro m1_0 em1_0
    subst em1_0
    subst hf
    refine stp hm 1 (And.intro (by (repeat' split) <;> first | exact Or.inl rfl | exact Or.inr rfl) ?_)
    exact h
  refine stp hm 1 (bs (c := (G_isVertex v1) = (0:Int32)) (fun c2 => ?_) (fun c2 => ?_))
  · have c2 : (G_isVertex v1) = (0:Int32) := c2
    refine stp hm 1 (?_ : sxWP sc cl Q 21 (25, [some (.ref 29), some (.int v1)], [.int (0:Int32)], (cW nw kp im ol sn sr tp (mW mk mg mt mc T)), 0, 0))
    exact m1 _ (by rw [if_pos c2])
  · have c2 : ¬ (G_isVertex v1) = (0:Int32) := c2
    refine stp hm 9 (bsI (lg_cmp_eq _ _) (fun c3 => ?_) (fun c3 => ?_))
    · have c3 : (((ol.2.2.2.2.2.2.1.toUInt64 >>> (v1.toInt64.toUInt64 &&& Int64.toUInt64 63)).toInt64) &&& (1:Int64)) = (0:Int64) := c3
      refine stp hm 1 (?_ : sxWP sc cl Q 21 (25, [some (.ref 29), some (.int v1)], [.int (0:Int32)], (cW nw kp im ol sn sr tp (mW mk mg mt mc T)), 0, 0))
      exact m1 _ (by rw [if_neg c2, if_pos c3])
    · have c3 : ¬ (((ol.2.2.2.2.2.2.1.toUInt64 >>> (v1.toInt64.toUInt64 &&& Int64.toUInt64 63)).toInt64) &&& (1:Int64)) = (0:Int64) := c3
      refine stp hm 2 (?_ : sxWP sc cl Q 21 (25, [some (.ref 29), some (.int v1)], [.int (1:Int32)], (cW nw kp im ol sn sr tp (mW mk mg mt mc T)), 0, 0))
      exact m1 _ (by rw [if_neg c2, if_neg c3])
theorem O_isOnWord_z {v1 : Int32} {oow : Int64} : O_isOnWord v1 oow = 0 ∨ O_isOnWord v1 oow = 1 := by
  unfold O_isOnWord
  (repeat' split) <;> first | exact Or.inl rfl | exact Or.inr rfl | exact G_isVertex_z

def O_isAmong (v0 : Int32) (v1 : Int32) (v2 : Int32)  : Int32 := if (((v0.toUInt32 >>> ((v1 + v2).toUInt32 &&& Int32.toUInt32 31)).toInt32) &&& (1:Int32)) = (0:Int32) then (0:Int32) else (1:Int32)
set_option maxRecDepth 10000 in
theorem O_isAmong_ok {v0 : Int32} {v1 : Int32} {v2 : Int32} {r : Int32} (hc : call = sxE sc (d + 1)) (hf : O_isAmong v0 v1 v2 = r) (h : Q (some (.int r)) hp) : call 27 [.int v0, .int v1, .int v2] hp Q := by
  refine ent hc rfl (fun cl hE hm => ?_)
  unfold O_isAmong at hf
  have m1 : ∀ (m1_0 : Int32), m1_0 = (if (((v0.toUInt32 >>> ((v1 + v2).toUInt32 &&& Int32.toUInt32 31)).toInt32) &&& (1:Int32)) = (0:Int32) then (0:Int32) else (1:Int32)) → sxWP sc cl Q 27 (15, [some (.int v0), some (.int v1), some (.int v2)], [.int m1_0], hp, 0, 0) := by
    intro m1_0 em1_0
    subst em1_0
    subst hf
    refine stp hm 1 (And.intro (by (repeat' split) <;> first | exact Or.inl rfl | exact Or.inr rfl) ?_)
    exact h
  refine stp hm 8 (bs (c := (((v0.toUInt32 >>> ((v1 + v2).toUInt32 &&& Int32.toUInt32 31)).toInt32) &&& (1:Int32)) = (0:Int32)) (fun c2 => ?_) (fun c2 => ?_))
  · have c2 : (((v0.toUInt32 >>> ((v1 + v2).toUInt32 &&& Int32.toUInt32 31)).toInt32) &&& (1:Int32)) = (0:Int32) := c2
    refine stp hm 1 (?_ : sxWP sc cl Q 27 (15, [some (.int v0), some (.int v1), some (.int v2)], [.int (0:Int32)], hp, 0, 0))
    exact m1 _ (by rw [if_pos c2])
  · have c2 : ¬ (((v0.toUInt32 >>> ((v1 + v2).toUInt32 &&& Int32.toUInt32 31)).toInt32) &&& (1:Int32)) = (0:Int32) := c2
    refine stp hm 2 (?_ : sxWP sc cl Q 27 (15, [some (.int v0), some (.int v1), some (.int v2)], [.int (1:Int32)], hp, 0, 0))
    exact m1 _ (by rw [if_neg c2])
theorem O_isAmong_z {v0 : Int32} {v1 : Int32} {v2 : Int32}  : O_isAmong v0 v1 v2 = 0 ∨ O_isAmong v0 v1 v2 = 1 := by
  unfold O_isAmong
  (repeat' split) <;> first | exact Or.inl rfl | exact Or.inr rfl

def G_stride (v0 : Int32)  : Int32 := if v0 = (0:Int32) then (1:Int32) else (if v0 = (1:Int32) then (7:Int32) else (if v0 = (2:Int32) then (-1:Int32) else (-7:Int32)))
set_option maxRecDepth 10000 in
theorem G_stride_ok {v0 : Int32} {r : Int32} (hc : call = sxE sc (d + 1)) (hf : G_stride v0 = r) (h : Q (some (.int r)) hp) : call 14 [.int v0] hp Q := by
  refine ent hc rfl (fun cl hE hm => ?_)
  unfold G_stride at hf
  have m1 : ∀ (m1_0 : Int32), m1_0 = (if v0 = (0:Int32) then (1:Int32) else (if v0 = (1:Int32) then (7:Int32) else (if v0 = (2:Int32) then (-1:Int32) else (-7:Int32)))) → sxWP sc cl Q 14 (29, [some (.int v0)], [.int m1_0], hp, 0, 0) := by
    intro m1_0 em1_0
    subst em1_0
    subst hf
    refine stp hm 1 ?_
    exact h
  refine stp hm 2 (bsn (c := v0 = (0:Int32)) (fun c2 => ?_) (fun c2 => ?_))
  · have c2 : ¬ v0 = (0:Int32) := c2
    refine stp hm 3 (bsn (c := v0 = (1:Int32)) (fun c3 => ?_) (fun c3 => ?_))
    · have c3 : ¬ v0 = (1:Int32) := c3
      refine stp hm 3 (bsn (c := v0 = (2:Int32)) (fun c4 => ?_) (fun c4 => ?_))
      · have c4 : ¬ v0 = (2:Int32) := c4
        refine stp hm 1 (?_ : sxWP sc cl Q 14 (29, [some (.int v0)], [.int (-7:Int32)], hp, 0, 0))
        exact m1 _ (by rw [if_neg c2, if_neg c3, if_neg c4])
      · have c4 : v0 = (2:Int32) := c4
        refine stp hm 2 (?_ : sxWP sc cl Q 14 (29, [some (.int v0)], [.int (-1:Int32)], hp, 0, 0))
        exact m1 _ (by rw [if_neg c2, if_neg c3, if_pos c4])
    · have c3 : v0 = (1:Int32) := c3
      refine stp hm 2 (?_ : sxWP sc cl Q 14 (29, [some (.int v0)], [.int (7:Int32)], hp, 0, 0))
      exact m1 _ (by rw [if_neg c2, if_pos c3])
  · have c2 : v0 = (0:Int32) := c2
    refine stp hm 2 (?_ : sxWP sc cl Q 14 (29, [some (.int v0)], [.int (1:Int32)], hp, 0, 0))
    exact m1 _ (by rw [if_pos c2])

def O_goRound_s54  (v2 : Int32) (ost : (Nat → Int32)) (s : Int32) : Option (Int32 ⊕ Int32) := if (3:Int32) ≤ s then (some (Sum.inr s)) else (grd (gi v2 49) (if (O_isAmong (ost v2.toNatClampNeg) s (8:Int32)) = (0:Int32) then (some (Sum.inl (s + (1:Int32)))) else (some (Sum.inr s))))
def O_goRound_s30   (ost : (Nat → Int32)) (s : (Int32 × Int32 × Int32 × Int32 × Int64 × (Nat → Int32) × (Nat → Int32) × (Nat → Int32))) : Option ((Int32 × Int32 × Int32 × Int32 × Int64 × (Nat → Int32) × (Nat → Int32) × (Nat → Int32)) ⊕ (Int32 × Int32 × Int64 × (Nat → Int32) × (Nat → Int32) × (Nat → Int32))) := if (49:Int32) ≤ s.2.1 then (some (Sum.inr (s.2.2.1, s.2.2.2.1, s.2.2.2.2.1, s.2.2.2.2.2.1, s.2.2.2.2.2.2.1, s.2.2.2.2.2.2.2))) else (if (G_isVertex s.1) = (0:Int32) then (some (Sum.inr (s.2.2.1, s.2.2.2.1, s.2.2.2.2.1, s.2.2.2.2.2.1, s.2.2.2.2.2.2.1, s.2.2.2.2.2.2.2))) else (if (O_isOnWord s.1 s.2.2.2.2.1) = (0:Int32) then (Option.bind (wh (O_goRound_s54 s.1 ost) FU (0:Int32)) (fun w4 => grd (gi s.2.1 49) (grd (gi s.1 49) (grd (gi s.2.1 49) (some (Sum.inl (s.1 + (G_stride w4), s.2.1 + (1:Int32), s.2.1 + (1:Int32), s.2.2.2.1 + (G_rise s.1 w4), s.2.2.2.2.1 ||| ((1:Int64) <<< (s.1.toInt64 &&& 63)), upd s.2.2.2.2.2.1 s.2.1.toNatClampNeg w4, upd s.2.2.2.2.2.2.1 s.2.1.toNatClampNeg s.1, upd s.2.2.2.2.2.2.2 s.1.toNatClampNeg s.2.2.2.1))))))) else (some (Sum.inr (s.2.2.1, s.2.2.2.1, s.2.2.2.2.1, s.2.2.2.2.2.1, s.2.2.2.2.2.2.1, s.2.2.2.2.2.2.2)))))
def O_goRound  (org : Int64) (ole : Int32) (oto : Int32) (oow : Int64) (ost : (Nat → Int32)) (owa : (Nat → Int32)) (owv : (Nat → Int32)) (owh : (Nat → Int32)) : Option (Int32 × Int32 × Int64 × (Nat → Int32) × (Nat → Int32) × (Nat → Int32)) := Option.bind (wh (O_goRound_s30 ost) FU (G_vertexAt ((J_Long_bitCount ((org &&& (-org)) - (1:Int64))) / (6:Int32)) ((J_Long_bitCount ((org &&& (-org)) - (1:Int64))) - (J_Long_bitCount ((org &&& (-org)) - (1:Int64))) / (6:Int32) * (6:Int32)), (0:Int32), ole, oto, oow, owa, owv, owh)) (fun w1 => some (w1.1, w1.2.1, w1.2.2.1, w1.2.2.2.1, w1.2.2.2.2.1, w1.2.2.2.2.2))
set_option maxRecDepth 10000 in
theorem O_goRound_l54 {v2 : Int32} {v3 : Int32}   (hE : cl = sxE sc (d + 2)) (hm : CallMono cl) : ∀ (n : Nat) (s : Int32) (r : Int32), wh (O_goRound_s54 v2 ol.2.2.2.2.2.2.2.2.1) n s = some r → (∀ (z1 : Option Value), sxWP sc cl Q 28 (82, [some (.ref 29), z1, some (.int v2), some (.int v3), some (.int r)], [], (cW nw kp im ol sn sr tp (mW mk mg mt mc T)), 0, 0)) → ∀ (z1 : Option Value), sxWP sc cl Q 28 (54, [some (.ref 29), z1, some (.int v2), some (.int v3), some (.int s)], [], (cW nw kp im ol sn sr tp (mW mk mg mt mc T)), 0, 0) := by
  refine wh_run (A := fun (s : Int32) => ∀ (z1 : Option Value), sxWP sc cl Q 28 (54, [some (.ref 29), z1, some (.int v2), some (.int v3), some (.int s)], [], (cW nw kp im ol sn sr tp (mW mk mg mt mc T)), 0, 0)) (B := fun (r : Int32) => ∀ (z1 : Option Value), sxWP sc cl Q 28 (82, [some (.ref 29), z1, some (.int v2), some (.int v3), some (.int r)], [], (cW nw kp im ol sn sr tp (mW mk mg mt mc T)), 0, 0)) (fun s x hf hA hB => ?_)
  intro z1
  unfold O_goRound_s54 at hf
  refine stp hm 3 (br hf (fun c1 hf => ?_) (fun c1 hf => ?_))
  · show sxWP sc cl Q 28 (82, [some (.ref 29), z1, some (.int v2), some (.int v3), some (.int s)], [], (cW nw kp im ol sn sr tp (mW mk mg mt mc T)), 0, 0)
    obtain rfl := Option.some.inj hf
    exact hB _ rfl _
  · show sxWP sc cl Q 28 (60, [some (.ref 29), z1, some (.int v2), some (.int v3), some (.int s)], [], (cW nw kp im ol sn sr tp (mW mk mg mt mc T)), 0, 0)
    obtain ⟨g2, hf⟩ := grd_e hf
    refine stp hm 4 (And.intro (gi_in g2) (?_ : sxWP sc cl Q 28 (66, [some (.ref 29), z1, some (.int v2), some (.int v3), some (.int s)], [.int (ol.2.2.2.2.2.2.2.2.1 v2.toNatClampNeg)], (cW nw kp im ol sn sr tp (mW mk mg mt mc T)), 0, 0)))
    refine stp hm 3 (O_isAmong_ok hE rfl ?_)
    show sxWP sc cl Q 28 (73, [some (.ref 29), z1, some (.int v2), some (.int v3), some (.int s)], [.int (O_isAmong (ol.2.2.2.2.2.2.2.2.1 v2.toNatClampNeg) s (8:Int32))], (cW nw kp im ol sn sr tp (mW mk mg mt mc T)), 0, 0)
    refine stp hm 1 (brn hf (fun c3 hf => ?_) (fun c3 hf => ?_))
    · show sxWP sc cl Q 28 (82, [some (.ref 29), z1, some (.int v2), some (.int v3), some (.int s)], [], (cW nw kp im ol sn sr tp (mW mk mg mt mc T)), 0, 0)
      obtain rfl := Option.some.inj hf
      exact hB _ rfl _
    · show sxWP sc cl Q 28 (76, [some (.ref 29), z1, some (.int v2), some (.int v3), some (.int s)], [], (cW nw kp im ol sn sr tp (mW mk mg mt mc T)), 0, 0)
      obtain rfl := Option.some.inj hf
      refine stp hm 2 (?_ : sxWP sc cl Q 28 (54, [some (.ref 29), z1, some (.int v2), some (.int v3), some (.int (s + (1:Int32)))], [], (cW nw kp im ol sn sr tp (mW mk mg mt mc T)), 0, 0))
      exact hA _ rfl _
set_option maxRecDepth 10000 in
theorem O_goRound_l30    (hE : cl = sxE sc (d + 2)) (hm : CallMono cl) : ∀ (n : Nat) (s : (Int32 × Int32 × Int32 × Int32 × Int64 × (Nat → Int32) × (Nat → Int32) × (Nat → Int32))) (r : (Int32 × Int32 × Int64 × (Nat → Int32) × (Nat → Int32) × (Nat → Int32))), wh (O_goRound_s30 ol.2.2.2.2.2.2.2.2.1) n s = some r → (∀ (z0 z1 z2 z3 z4 : Option Value), sxWP sc cl Q 28 (155, [z0, z1, z2, z3, z4], [], (cW nw kp im (ol.1, ol.2.1, ol.2.2.1, ol.2.2.2.1, r.1, r.2.1, r.2.2.1, ol.2.2.2.2.2.2.2.1, ol.2.2.2.2.2.2.2.2.1, r.2.2.2.1, r.2.2.2.2.1, r.2.2.2.2.2, ol.2.2.2.2.2.2.2.2.2.2.2.2.1, ol.2.2.2.2.2.2.2.2.2.2.2.2.2.1, ol.2.2.2.2.2.2.2.2.2.2.2.2.2.2.1, ol.2.2.2.2.2.2.2.2.2.2.2.2.2.2.2.1, ol.2.2.2.2.2.2.2.2.2.2.2.2.2.2.2.2) sn sr tp (mW mk mg mt mc T)), 0, 0)) → ∀ (z1 z4 : Option Value), sxWP sc cl Q 28 (30, [some (.ref 29), z1, some (.int s.1), some (.int s.2.1), z4], [], (cW nw kp im (ol.1, ol.2.1, ol.2.2.1, ol.2.2.2.1, s.2.2.1, s.2.2.2.1, s.2.2.2.2.1, ol.2.2.2.2.2.2.2.1, ol.2.2.2.2.2.2.2.2.1, s.2.2.2.2.2.1, s.2.2.2.2.2.2.1, s.2.2.2.2.2.2.2, ol.2.2.2.2.2.2.2.2.2.2.2.2.1, ol.2.2.2.2.2.2.2.2.2.2.2.2.2.1, ol.2.2.2.2.2.2.2.2.2.2.2.2.2.2.1, ol.2.2.2.2.2.2.2.2.2.2.2.2.2.2.2.1, ol.2.2.2.2.2.2.2.2.2.2.2.2.2.2.2.2) sn sr tp (mW mk mg mt mc T)), 0, 0) := by
  refine wh_run (A := fun (s : (Int32 × Int32 × Int32 × Int32 × Int64 × (Nat → Int32) × (Nat → Int32) × (Nat → Int32))) => ∀ (z1 z4 : Option Value), sxWP sc cl Q 28 (30, [some (.ref 29), z1, some (.int s.1), some (.int s.2.1), z4], [], (cW nw kp im (ol.1, ol.2.1, ol.2.2.1, ol.2.2.2.1, s.2.2.1, s.2.2.2.1, s.2.2.2.2.1, ol.2.2.2.2.2.2.2.1, ol.2.2.2.2.2.2.2.2.1, s.2.2.2.2.2.1, s.2.2.2.2.2.2.1, s.2.2.2.2.2.2.2, ol.2.2.2.2.2.2.2.2.2.2.2.2.1, ol.2.2.2.2.2.2.2.2.2.2.2.2.2.1, ol.2.2.2.2.2.2.2.2.2.2.2.2.2.2.1, ol.2.2.2.2.2.2.2.2.2.2.2.2.2.2.2.1, ol.2.2.2.2.2.2.2.2.2.2.2.2.2.2.2.2) sn sr tp (mW mk mg mt mc T)), 0, 0)) (B := fun (r : (Int32 × Int32 × Int64 × (Nat → Int32) × (Nat → Int32) × (Nat → Int32))) => ∀ (z0 z1 z2 z3 z4 : Option Value), sxWP sc cl Q 28 (155, [z0, z1, z2, z3, z4], [], (cW nw kp im (ol.1, ol.2.1, ol.2.2.1, ol.2.2.2.1, r.1, r.2.1, r.2.2.1, ol.2.2.2.2.2.2.2.1, ol.2.2.2.2.2.2.2.2.1, r.2.2.2.1, r.2.2.2.2.1, r.2.2.2.2.2, ol.2.2.2.2.2.2.2.2.2.2.2.2.1, ol.2.2.2.2.2.2.2.2.2.2.2.2.2.1, ol.2.2.2.2.2.2.2.2.2.2.2.2.2.2.1, ol.2.2.2.2.2.2.2.2.2.2.2.2.2.2.2.1, ol.2.2.2.2.2.2.2.2.2.2.2.2.2.2.2.2) sn sr tp (mW mk mg mt mc T)), 0, 0)) (fun s x hf hA hB => ?_)
  intro z1 z4
  unfold O_goRound_s30 at hf
  refine stp hm 3 (br hf (fun c1 hf => ?_) (fun c1 hf => ?_))
  · show sxWP sc cl Q 28 (155, [some (.ref 29), z1, some (.int s.1), some (.int s.2.1), z4], [], (cW nw kp im (ol.1, ol.2.1, ol.2.2.1, ol.2.2.2.1, s.2.2.1, s.2.2.2.1, s.2.2.2.2.1, ol.2.2.2.2.2.2.2.1, ol.2.2.2.2.2.2.2.2.1, s.2.2.2.2.2.1, s.2.2.2.2.2.2.1, s.2.2.2.2.2.2.2, ol.2.2.2.2.2.2.2.2.2.2.2.2.1, ol.2.2.2.2.2.2.2.2.2.2.2.2.2.1, ol.2.2.2.2.2.2.2.2.2.2.2.2.2.2.1, ol.2.2.2.2.2.2.2.2.2.2.2.2.2.2.2.1, ol.2.2.2.2.2.2.2.2.2.2.2.2.2.2.2.2) sn sr tp (mW mk mg mt mc T)), 0, 0)
    obtain rfl := Option.some.inj hf
    exact hB _ rfl _ _ _ _ _
  · show sxWP sc cl Q 28 (36, [some (.ref 29), z1, some (.int s.1), some (.int s.2.1), z4], [], (cW nw kp im (ol.1, ol.2.1, ol.2.2.1, ol.2.2.2.1, s.2.2.1, s.2.2.2.1, s.2.2.2.2.1, ol.2.2.2.2.2.2.2.1, ol.2.2.2.2.2.2.2.2.1, s.2.2.2.2.2.1, s.2.2.2.2.2.2.1, s.2.2.2.2.2.2.2, ol.2.2.2.2.2.2.2.2.2.2.2.2.1, ol.2.2.2.2.2.2.2.2.2.2.2.2.2.1, ol.2.2.2.2.2.2.2.2.2.2.2.2.2.2.1, ol.2.2.2.2.2.2.2.2.2.2.2.2.2.2.2.1, ol.2.2.2.2.2.2.2.2.2.2.2.2.2.2.2.2) sn sr tp (mW mk mg mt mc T)), 0, 0)
    refine stp hm 2 (G_isVertex_ok hE rfl ?_)
    show sxWP sc cl Q 28 (40, [some (.ref 29), z1, some (.int s.1), some (.int s.2.1), z4], [.int (G_isVertex s.1)], (cW nw kp im (ol.1, ol.2.1, ol.2.2.1, ol.2.2.2.1, s.2.2.1, s.2.2.2.1, s.2.2.2.2.1, ol.2.2.2.2.2.2.2.1, ol.2.2.2.2.2.2.2.2.1, s.2.2.2.2.2.1, s.2.2.2.2.2.2.1, s.2.2.2.2.2.2.2, ol.2.2.2.2.2.2.2.2.2.2.2.2.1, ol.2.2.2.2.2.2.2.2.2.2.2.2.2.1, ol.2.2.2.2.2.2.2.2.2.2.2.2.2.2.1, ol.2.2.2.2.2.2.2.2.2.2.2.2.2.2.2.1, ol.2.2.2.2.2.2.2.2.2.2.2.2.2.2.2.2) sn sr tp (mW mk mg mt mc T)), 0, 0)
    refine stp hm 1 (br hf (fun c2 hf => ?_) (fun c2 hf => ?_))
    · show sxWP sc cl Q 28 (155, [some (.ref 29), z1, some (.int s.1), some (.int s.2.1), z4], [], (cW nw kp im (ol.1, ol.2.1, ol.2.2.1, ol.2.2.2.1, s.2.2.1, s.2.2.2.1, s.2.2.2.2.1, ol.2.2.2.2.2.2.2.1, ol.2.2.2.2.2.2.2.2.1, s.2.2.2.2.2.1, s.2.2.2.2.2.2.1, s.2.2.2.2.2.2.2, ol.2.2.2.2.2.2.2.2.2.2.2.2.1, ol.2.2.2.2.2.2.2.2.2.2.2.2.2.1, ol.2.2.2.2.2.2.2.2.2.2.2.2.2.2.1, ol.2.2.2.2.2.2.2.2.2.2.2.2.2.2.2.1, ol.2.2.2.2.2.2.2.2.2.2.2.2.2.2.2.2) sn sr tp (mW mk mg mt mc T)), 0, 0)
      obtain rfl := Option.some.inj hf
      exact hB _ rfl _ _ _ _ _
    · show sxWP sc cl Q 28 (43, [some (.ref 29), z1, some (.int s.1), some (.int s.2.1), z4], [], (cW nw kp im (ol.1, ol.2.1, ol.2.2.1, ol.2.2.2.1, s.2.2.1, s.2.2.2.1, s.2.2.2.2.1, ol.2.2.2.2.2.2.2.1, ol.2.2.2.2.2.2.2.2.1, s.2.2.2.2.2.1, s.2.2.2.2.2.2.1, s.2.2.2.2.2.2.2, ol.2.2.2.2.2.2.2.2.2.2.2.2.1, ol.2.2.2.2.2.2.2.2.2.2.2.2.2.1, ol.2.2.2.2.2.2.2.2.2.2.2.2.2.2.1, ol.2.2.2.2.2.2.2.2.2.2.2.2.2.2.2.1, ol.2.2.2.2.2.2.2.2.2.2.2.2.2.2.2.2) sn sr tp (mW mk mg mt mc T)), 0, 0)
      refine stp hm 3 (O_isOnWord_ok hE rfl ?_)
      show sxWP sc cl Q 28 (48, [some (.ref 29), z1, some (.int s.1), some (.int s.2.1), z4], [.int (O_isOnWord s.1 s.2.2.2.2.1)], (cW nw kp im (ol.1, ol.2.1, ol.2.2.1, ol.2.2.2.1, s.2.2.1, s.2.2.2.1, s.2.2.2.2.1, ol.2.2.2.2.2.2.2.1, ol.2.2.2.2.2.2.2.2.1, s.2.2.2.2.2.1, s.2.2.2.2.2.2.1, s.2.2.2.2.2.2.2, ol.2.2.2.2.2.2.2.2.2.2.2.2.1, ol.2.2.2.2.2.2.2.2.2.2.2.2.2.1, ol.2.2.2.2.2.2.2.2.2.2.2.2.2.2.1, ol.2.2.2.2.2.2.2.2.2.2.2.2.2.2.2.1, ol.2.2.2.2.2.2.2.2.2.2.2.2.2.2.2.2) sn sr tp (mW mk mg mt mc T)), 0, 0)
      refine stp hm 1 (brn hf (fun c3 hf => ?_) (fun c3 hf => ?_))
      · show sxWP sc cl Q 28 (155, [some (.ref 29), z1, some (.int s.1), some (.int s.2.1), z4], [], (cW nw kp im (ol.1, ol.2.1, ol.2.2.1, ol.2.2.2.1, s.2.2.1, s.2.2.2.1, s.2.2.2.2.1, ol.2.2.2.2.2.2.2.1, ol.2.2.2.2.2.2.2.2.1, s.2.2.2.2.2.1, s.2.2.2.2.2.2.1, s.2.2.2.2.2.2.2, ol.2.2.2.2.2.2.2.2.2.2.2.2.1, ol.2.2.2.2.2.2.2.2.2.2.2.2.2.1, ol.2.2.2.2.2.2.2.2.2.2.2.2.2.2.1, ol.2.2.2.2.2.2.2.2.2.2.2.2.2.2.2.1, ol.2.2.2.2.2.2.2.2.2.2.2.2.2.2.2.2) sn sr tp (mW mk mg mt mc T)), 0, 0)
        obtain rfl := Option.some.inj hf
        exact hB _ rfl _ _ _ _ _
      · show sxWP sc cl Q 28 (51, [some (.ref 29), z1, some (.int s.1), some (.int s.2.1), z4], [], (cW nw kp im (ol.1, ol.2.1, ol.2.2.1, ol.2.2.2.1, s.2.2.1, s.2.2.2.1, s.2.2.2.2.1, ol.2.2.2.2.2.2.2.1, ol.2.2.2.2.2.2.2.2.1, s.2.2.2.2.2.1, s.2.2.2.2.2.2.1, s.2.2.2.2.2.2.2, ol.2.2.2.2.2.2.2.2.2.2.2.2.1, ol.2.2.2.2.2.2.2.2.2.2.2.2.2.1, ol.2.2.2.2.2.2.2.2.2.2.2.2.2.2.1, ol.2.2.2.2.2.2.2.2.2.2.2.2.2.2.2.1, ol.2.2.2.2.2.2.2.2.2.2.2.2.2.2.2.2) sn sr tp (mW mk mg mt mc T)), 0, 0)
        obtain ⟨w4, hw4, hf⟩ := bnd hf
        refine stp hm 2 (?_ : sxWP sc cl Q 28 (54, [some (.ref 29), z1, some (.int s.1), some (.int s.2.1), some (.int (0:Int32))], [], (cW nw kp im (ol.1, ol.2.1, ol.2.2.1, ol.2.2.2.1, s.2.2.1, s.2.2.2.1, s.2.2.2.2.1, ol.2.2.2.2.2.2.2.1, ol.2.2.2.2.2.2.2.2.1, s.2.2.2.2.2.1, s.2.2.2.2.2.2.1, s.2.2.2.2.2.2.2, ol.2.2.2.2.2.2.2.2.2.2.2.2.1, ol.2.2.2.2.2.2.2.2.2.2.2.2.2.1, ol.2.2.2.2.2.2.2.2.2.2.2.2.2.2.1, ol.2.2.2.2.2.2.2.2.2.2.2.2.2.2.2.1, ol.2.2.2.2.2.2.2.2.2.2.2.2.2.2.2.2) sn sr tp (mW mk mg mt mc T)), 0, 0))
        refine O_goRound_l54 hE hm _ _ _ hw4 ?_ _
        intro w4_z1
        show sxWP sc cl Q 28 (82, [some (.ref 29), w4_z1, some (.int s.1), some (.int s.2.1), some (.int w4)], [], (cW nw kp im (ol.1, ol.2.1, ol.2.2.1, ol.2.2.2.1, s.2.2.1, s.2.2.2.1, s.2.2.2.2.1, ol.2.2.2.2.2.2.2.1, ol.2.2.2.2.2.2.2.2.1, s.2.2.2.2.2.1, s.2.2.2.2.2.2.1, s.2.2.2.2.2.2.2, ol.2.2.2.2.2.2.2.2.2.2.2.2.1, ol.2.2.2.2.2.2.2.2.2.2.2.2.2.1, ol.2.2.2.2.2.2.2.2.2.2.2.2.2.2.1, ol.2.2.2.2.2.2.2.2.2.2.2.2.2.2.2.1, ol.2.2.2.2.2.2.2.2.2.2.2.2.2.2.2.2) sn sr tp (mW mk mg mt mc T)), 0, 0)
        obtain ⟨g5, hf⟩ := grd_e hf
        refine stp hm 5 (And.intro (gi_in g5) (?_ : sxWP sc cl Q 28 (89, [some (.ref 29), w4_z1, some (.int s.1), some (.int s.2.1), some (.int w4)], [], (cW nw kp im (ol.1, ol.2.1, ol.2.2.1, ol.2.2.2.1, s.2.2.1, s.2.2.2.1, s.2.2.2.2.1, ol.2.2.2.2.2.2.2.1, ol.2.2.2.2.2.2.2.2.1, s.2.2.2.2.2.1, upd s.2.2.2.2.2.2.1 s.2.1.toNatClampNeg s.1, s.2.2.2.2.2.2.2, ol.2.2.2.2.2.2.2.2.2.2.2.2.1, ol.2.2.2.2.2.2.2.2.2.2.2.2.2.1, ol.2.2.2.2.2.2.2.2.2.2.2.2.2.2.1, ol.2.2.2.2.2.2.2.2.2.2.2.2.2.2.2.1, ol.2.2.2.2.2.2.2.2.2.2.2.2.2.2.2.2) sn sr tp (mW mk mg mt mc T)), 0, 0)))
        obtain ⟨g6, hf⟩ := grd_e hf
        refine stp hm 6 (And.intro (gi_in g6) (?_ : sxWP sc cl Q 28 (99, [some (.ref 29), w4_z1, some (.int s.1), some (.int s.2.1), some (.int w4)], [], (cW nw kp im (ol.1, ol.2.1, ol.2.2.1, ol.2.2.2.1, s.2.2.1, s.2.2.2.1, s.2.2.2.2.1, ol.2.2.2.2.2.2.2.1, ol.2.2.2.2.2.2.2.2.1, s.2.2.2.2.2.1, upd s.2.2.2.2.2.2.1 s.2.1.toNatClampNeg s.1, upd s.2.2.2.2.2.2.2 s.1.toNatClampNeg s.2.2.2.1, ol.2.2.2.2.2.2.2.2.2.2.2.2.1, ol.2.2.2.2.2.2.2.2.2.2.2.2.2.1, ol.2.2.2.2.2.2.2.2.2.2.2.2.2.2.1, ol.2.2.2.2.2.2.2.2.2.2.2.2.2.2.2.1, ol.2.2.2.2.2.2.2.2.2.2.2.2.2.2.2.2) sn sr tp (mW mk mg mt mc T)), 0, 0)))
        obtain ⟨g7, hf⟩ := grd_e hf
        refine stp hm 5 (And.intro (gi_in g7) (?_ : sxWP sc cl Q 28 (107, [some (.ref 29), w4_z1, some (.int s.1), some (.int s.2.1), some (.int w4)], [], (cW nw kp im (ol.1, ol.2.1, ol.2.2.1, ol.2.2.2.1, s.2.2.1, s.2.2.2.1, s.2.2.2.2.1, ol.2.2.2.2.2.2.2.1, ol.2.2.2.2.2.2.2.2.1, upd s.2.2.2.2.2.1 s.2.1.toNatClampNeg w4, upd s.2.2.2.2.2.2.1 s.2.1.toNatClampNeg s.1, upd s.2.2.2.2.2.2.2 s.1.toNatClampNeg s.2.2.2.1, ol.2.2.2.2.2.2.2.2.2.2.2.2.1, ol.2.2.2.2.2.2.2.2.2.2.2.2.2.1, ol.2.2.2.2.2.2.2.2.2.2.2.2.2.2.1, ol.2.2.2.2.2.2.2.2.2.2.2.2.2.2.2.1, ol.2.2.2.2.2.2.2.2.2.2.2.2.2.2.2.2) sn sr tp (mW mk mg mt mc T)), 0, 0)))
        refine stp hm 19 (G_rise_ok hE rfl ?_)
        show sxWP sc cl Q 28 (137, [some (.ref 29), w4_z1, some (.int s.1), some (.int s.2.1), some (.int w4)], [.int (G_rise s.1 w4), .int s.2.2.2.1, .ref 29], (cW nw kp im (ol.1, ol.2.1, ol.2.2.1, ol.2.2.2.1, s.2.1 + (1:Int32), s.2.2.2.1, s.2.2.2.2.1 ||| ((1:Int64) <<< (s.1.toInt64 &&& 63)), ol.2.2.2.2.2.2.2.1, ol.2.2.2.2.2.2.2.2.1, upd s.2.2.2.2.2.1 s.2.1.toNatClampNeg w4, upd s.2.2.2.2.2.2.1 s.2.1.toNatClampNeg s.1, upd s.2.2.2.2.2.2.2 s.1.toNatClampNeg s.2.2.2.1, ol.2.2.2.2.2.2.2.2.2.2.2.2.1, ol.2.2.2.2.2.2.2.2.2.2.2.2.2.1, ol.2.2.2.2.2.2.2.2.2.2.2.2.2.2.1, ol.2.2.2.2.2.2.2.2.2.2.2.2.2.2.2.1, ol.2.2.2.2.2.2.2.2.2.2.2.2.2.2.2.2) sn sr tp (mW mk mg mt mc T)), 0, 0)
        refine stp hm 5 (G_stride_ok hE rfl ?_)
        show sxWP sc cl Q 28 (147, [some (.ref 29), w4_z1, some (.int s.1), some (.int s.2.1), some (.int w4)], [.int (G_stride w4), .int s.1], (cW nw kp im (ol.1, ol.2.1, ol.2.2.1, ol.2.2.2.1, s.2.1 + (1:Int32), s.2.2.2.1 + (G_rise s.1 w4), s.2.2.2.2.1 ||| ((1:Int64) <<< (s.1.toInt64 &&& 63)), ol.2.2.2.2.2.2.2.1, ol.2.2.2.2.2.2.2.2.1, upd s.2.2.2.2.2.1 s.2.1.toNatClampNeg w4, upd s.2.2.2.2.2.2.1 s.2.1.toNatClampNeg s.1, upd s.2.2.2.2.2.2.2 s.1.toNatClampNeg s.2.2.2.1, ol.2.2.2.2.2.2.2.2.2.2.2.2.1, ol.2.2.2.2.2.2.2.2.2.2.2.2.2.1, ol.2.2.2.2.2.2.2.2.2.2.2.2.2.2.1, ol.2.2.2.2.2.2.2.2.2.2.2.2.2.2.2.1, ol.2.2.2.2.2.2.2.2.2.2.2.2.2.2.2.2) sn sr tp (mW mk mg mt mc T)), 0, 0)
        obtain rfl := Option.some.inj hf
        refine stp hm 4 (?_ : sxWP sc cl Q 28 (30, [some (.ref 29), (sxc2 w4_z1), some (.int (s.1 + (G_stride w4))), some (.int (s.2.1 + (1:Int32))), some (.int w4)], [], (cW nw kp im (ol.1, ol.2.1, ol.2.2.1, ol.2.2.2.1, s.2.1 + (1:Int32), s.2.2.2.1 + (G_rise s.1 w4), s.2.2.2.2.1 ||| ((1:Int64) <<< (s.1.toInt64 &&& 63)), ol.2.2.2.2.2.2.2.1, ol.2.2.2.2.2.2.2.2.1, upd s.2.2.2.2.2.1 s.2.1.toNatClampNeg w4, upd s.2.2.2.2.2.2.1 s.2.1.toNatClampNeg s.1, upd s.2.2.2.2.2.2.2 s.1.toNatClampNeg s.2.2.2.1, ol.2.2.2.2.2.2.2.2.2.2.2.2.1, ol.2.2.2.2.2.2.2.2.2.2.2.2.2.1, ol.2.2.2.2.2.2.2.2.2.2.2.2.2.2.1, ol.2.2.2.2.2.2.2.2.2.2.2.2.2.2.2.1, ol.2.2.2.2.2.2.2.2.2.2.2.2.2.2.2.2) sn sr tp (mW mk mg mt mc T)), 0, 0))
        exact hA _ rfl _ _
set_option maxRecDepth 10000 in
theorem O_goRound_ok  {q : (Int32 × Int32 × Int64 × (Nat → Int32) × (Nat → Int32) × (Nat → Int32))} (hc : call = sxE sc (d + 3)) (hf : O_goRound ol.2.1 ol.2.2.2.2.1 ol.2.2.2.2.2.1 ol.2.2.2.2.2.2.1 ol.2.2.2.2.2.2.2.2.1 ol.2.2.2.2.2.2.2.2.2.1 ol.2.2.2.2.2.2.2.2.2.2.1 ol.2.2.2.2.2.2.2.2.2.2.2.1 = some q) (h : Q none (cW nw kp im (ol.1, ol.2.1, ol.2.2.1, ol.2.2.2.1, q.1, q.2.1, q.2.2.1, ol.2.2.2.2.2.2.2.1, ol.2.2.2.2.2.2.2.2.1, q.2.2.2.1, q.2.2.2.2.1, q.2.2.2.2.2, ol.2.2.2.2.2.2.2.2.2.2.2.2.1, ol.2.2.2.2.2.2.2.2.2.2.2.2.2.1, ol.2.2.2.2.2.2.2.2.2.2.2.2.2.2.1, ol.2.2.2.2.2.2.2.2.2.2.2.2.2.2.2.1, ol.2.2.2.2.2.2.2.2.2.2.2.2.2.2.2.2) sn sr tp (mW mk mg mt mc T))) : call 28 [.ref 29] (cW nw kp im ol sn sr tp (mW mk mg mt mc T)) Q := by
  refine ent hc rfl (fun cl hE hm => ?_)
  unfold O_goRound at hf
  refine stp hm 9 (J_Long_bitCount_ok hE rfl ?_)
  show sxWP sc cl Q 28 (15, [some (.ref 29), none, none, none, none], [.int (J_Long_bitCount ((ol.2.1 &&& (-ol.2.1)) - (1:Int64)))], (cW nw kp im ol sn sr tp (mW mk mg mt mc T)), 0, 0)
  refine stp hm 4 (And.intro (by decide) (?_ : sxWP sc cl Q 28 (20, [some (.ref 29), some (.int (J_Long_bitCount ((ol.2.1 &&& (-ol.2.1)) - (1:Int64)))), none, none, none], [.int ((J_Long_bitCount ((ol.2.1 &&& (-ol.2.1)) - (1:Int64))) / (6:Int32))], (cW nw kp im ol sn sr tp (mW mk mg mt mc T)), 0, 0)))
  refine stp hm 3 (And.intro (by decide) (?_ : sxWP sc cl Q 28 (24, [some (.ref 29), some (.int (J_Long_bitCount ((ol.2.1 &&& (-ol.2.1)) - (1:Int64)))), none, none, none], [.int ((J_Long_bitCount ((ol.2.1 &&& (-ol.2.1)) - (1:Int64))) - (J_Long_bitCount ((ol.2.1 &&& (-ol.2.1)) - (1:Int64))) / (6:Int32) * (6:Int32)), .int ((J_Long_bitCount ((ol.2.1 &&& (-ol.2.1)) - (1:Int64))) / (6:Int32))], (cW nw kp im ol sn sr tp (mW mk mg mt mc T)), 0, 0)))
  refine stp hm 1 (G_vertexAt_ok hE rfl ?_)
  show sxWP sc cl Q 28 (27, [some (.ref 29), some (.int (J_Long_bitCount ((ol.2.1 &&& (-ol.2.1)) - (1:Int64)))), none, none, none], [.int (G_vertexAt ((J_Long_bitCount ((ol.2.1 &&& (-ol.2.1)) - (1:Int64))) / (6:Int32)) ((J_Long_bitCount ((ol.2.1 &&& (-ol.2.1)) - (1:Int64))) - (J_Long_bitCount ((ol.2.1 &&& (-ol.2.1)) - (1:Int64))) / (6:Int32) * (6:Int32)))], (cW nw kp im ol sn sr tp (mW mk mg mt mc T)), 0, 0)
  obtain ⟨w1, hw1, hf⟩ := bnd hf
  refine stp hm 3 (?_ : sxWP sc cl Q 28 (30, [some (.ref 29), some (.int (J_Long_bitCount ((ol.2.1 &&& (-ol.2.1)) - (1:Int64)))), some (.int (G_vertexAt ((J_Long_bitCount ((ol.2.1 &&& (-ol.2.1)) - (1:Int64))) / (6:Int32)) ((J_Long_bitCount ((ol.2.1 &&& (-ol.2.1)) - (1:Int64))) - (J_Long_bitCount ((ol.2.1 &&& (-ol.2.1)) - (1:Int64))) / (6:Int32) * (6:Int32)))), some (.int (0:Int32)), none], [], (cW nw kp im ol sn sr tp (mW mk mg mt mc T)), 0, 0))
  refine O_goRound_l30 hE hm _ _ _ hw1 ?_ _ _
  intro w1_z0 w1_z1 w1_z2 w1_z3 w1_z4
  show sxWP sc cl Q 28 (155, [w1_z0, w1_z1, w1_z2, w1_z3, w1_z4], [], (cW nw kp im (ol.1, ol.2.1, ol.2.2.1, ol.2.2.2.1, w1.1, w1.2.1, w1.2.2.1, ol.2.2.2.2.2.2.2.1, ol.2.2.2.2.2.2.2.2.1, w1.2.2.2.1, w1.2.2.2.2.1, w1.2.2.2.2.2, ol.2.2.2.2.2.2.2.2.2.2.2.2.1, ol.2.2.2.2.2.2.2.2.2.2.2.2.2.1, ol.2.2.2.2.2.2.2.2.2.2.2.2.2.2.1, ol.2.2.2.2.2.2.2.2.2.2.2.2.2.2.2.1, ol.2.2.2.2.2.2.2.2.2.2.2.2.2.2.2.2) sn sr tp (mW mk mg mt mc T)), 0, 0)
  obtain rfl := Option.some.inj hf
  refine stp hm 1 ?_
  exact h

def J_Arrays_fillI_s5  (v1 : Int32) (v3 : Int32) (s : (Int32 × (Nat → Int32))) : Option ((Int32 × (Nat → Int32)) ⊕ (Nat → Int32)) := if v3 ≤ s.1 then (some (Sum.inr s.2)) else (grd (gi s.1 49) (some (Sum.inl (s.1 + (1:Int32), upd s.2 s.1.toNatClampNeg v1))))
def J_Arrays_fillI (v1 : Int32) (ohi : (Nat → Int32)) : Option (Nat → Int32) := Option.bind (wh (J_Arrays_fillI_s5 v1 (Int32.ofNat 49)) FU ((0:Int32), ohi)) (fun w1 => some w1)
set_option maxRecDepth 10000 in
theorem J_Arrays_fillI_l5 {v1 : Int32} {v3 : Int32}   (hE : cl = sxE sc (d + 0)) (hm : CallMono cl) : ∀ (n : Nat) (s : (Int32 × (Nat → Int32))) (r : (Nat → Int32)), wh (J_Arrays_fillI_s5 v1 v3) n s = some r → (∀ (z0 z1 z2 z3 : Option Value), sxWP sc cl Q 255 (20, [z0, z1, z2, z3], [], (cW nw kp im (ol.1, ol.2.1, ol.2.2.1, ol.2.2.2.1, ol.2.2.2.2.1, ol.2.2.2.2.2.1, ol.2.2.2.2.2.2.1, ol.2.2.2.2.2.2.2.1, ol.2.2.2.2.2.2.2.2.1, ol.2.2.2.2.2.2.2.2.2.1, ol.2.2.2.2.2.2.2.2.2.2.1, ol.2.2.2.2.2.2.2.2.2.2.2.1, ol.2.2.2.2.2.2.2.2.2.2.2.2.1, r, ol.2.2.2.2.2.2.2.2.2.2.2.2.2.2.1, ol.2.2.2.2.2.2.2.2.2.2.2.2.2.2.2.1, ol.2.2.2.2.2.2.2.2.2.2.2.2.2.2.2.2) sn sr tp (mW mk mg mt mc T)), 0, 0)) → sxWP sc cl Q 255 (5, [some (.ref 35), some (.int v1), some (.int s.1), some (.int v3)], [], (cW nw kp im (ol.1, ol.2.1, ol.2.2.1, ol.2.2.2.1, ol.2.2.2.2.1, ol.2.2.2.2.2.1, ol.2.2.2.2.2.2.1, ol.2.2.2.2.2.2.2.1, ol.2.2.2.2.2.2.2.2.1, ol.2.2.2.2.2.2.2.2.2.1, ol.2.2.2.2.2.2.2.2.2.2.1, ol.2.2.2.2.2.2.2.2.2.2.2.1, ol.2.2.2.2.2.2.2.2.2.2.2.2.1, s.2, ol.2.2.2.2.2.2.2.2.2.2.2.2.2.2.1, ol.2.2.2.2.2.2.2.2.2.2.2.2.2.2.2.1, ol.2.2.2.2.2.2.2.2.2.2.2.2.2.2.2.2) sn sr tp (mW mk mg mt mc T)), 0, 0) := by
  refine wh_run (A := fun (s : (Int32 × (Nat → Int32))) => sxWP sc cl Q 255 (5, [some (.ref 35), some (.int v1), some (.int s.1), some (.int v3)], [], (cW nw kp im (ol.1, ol.2.1, ol.2.2.1, ol.2.2.2.1, ol.2.2.2.2.1, ol.2.2.2.2.2.1, ol.2.2.2.2.2.2.1, ol.2.2.2.2.2.2.2.1, ol.2.2.2.2.2.2.2.2.1, ol.2.2.2.2.2.2.2.2.2.1, ol.2.2.2.2.2.2.2.2.2.2.1, ol.2.2.2.2.2.2.2.2.2.2.2.1, ol.2.2.2.2.2.2.2.2.2.2.2.2.1, s.2, ol.2.2.2.2.2.2.2.2.2.2.2.2.2.2.1, ol.2.2.2.2.2.2.2.2.2.2.2.2.2.2.2.1, ol.2.2.2.2.2.2.2.2.2.2.2.2.2.2.2.2) sn sr tp (mW mk mg mt mc T)), 0, 0)) (B := fun (r : (Nat → Int32)) => ∀ (z0 z1 z2 z3 : Option Value), sxWP sc cl Q 255 (20, [z0, z1, z2, z3], [], (cW nw kp im (ol.1, ol.2.1, ol.2.2.1, ol.2.2.2.1, ol.2.2.2.2.1, ol.2.2.2.2.2.1, ol.2.2.2.2.2.2.1, ol.2.2.2.2.2.2.2.1, ol.2.2.2.2.2.2.2.2.1, ol.2.2.2.2.2.2.2.2.2.1, ol.2.2.2.2.2.2.2.2.2.2.1, ol.2.2.2.2.2.2.2.2.2.2.2.1, ol.2.2.2.2.2.2.2.2.2.2.2.2.1, r, ol.2.2.2.2.2.2.2.2.2.2.2.2.2.2.1, ol.2.2.2.2.2.2.2.2.2.2.2.2.2.2.2.1, ol.2.2.2.2.2.2.2.2.2.2.2.2.2.2.2.2) sn sr tp (mW mk mg mt mc T)), 0, 0)) (fun s x hf hA hB => ?_)
  unfold J_Arrays_fillI_s5 at hf
  refine stp hm 3 (br hf (fun c1 hf => ?_) (fun c1 hf => ?_))
  · show sxWP sc cl Q 255 (20, [some (.ref 35), some (.int v1), some (.int s.1), some (.int v3)], [], (cW nw kp im (ol.1, ol.2.1, ol.2.2.1, ol.2.2.2.1, ol.2.2.2.2.1, ol.2.2.2.2.2.1, ol.2.2.2.2.2.2.1, ol.2.2.2.2.2.2.2.1, ol.2.2.2.2.2.2.2.2.1, ol.2.2.2.2.2.2.2.2.2.1, ol.2.2.2.2.2.2.2.2.2.2.1, ol.2.2.2.2.2.2.2.2.2.2.2.1, ol.2.2.2.2.2.2.2.2.2.2.2.2.1, s.2, ol.2.2.2.2.2.2.2.2.2.2.2.2.2.2.1, ol.2.2.2.2.2.2.2.2.2.2.2.2.2.2.2.1, ol.2.2.2.2.2.2.2.2.2.2.2.2.2.2.2.2) sn sr tp (mW mk mg mt mc T)), 0, 0)
    obtain rfl := Option.some.inj hf
    exact hB _ rfl _ _ _ _
  · show sxWP sc cl Q 255 (10, [some (.ref 35), some (.int v1), some (.int s.1), some (.int v3)], [], (cW nw kp im (ol.1, ol.2.1, ol.2.2.1, ol.2.2.2.1, ol.2.2.2.2.1, ol.2.2.2.2.2.1, ol.2.2.2.2.2.2.1, ol.2.2.2.2.2.2.2.1, ol.2.2.2.2.2.2.2.2.1, ol.2.2.2.2.2.2.2.2.2.1, ol.2.2.2.2.2.2.2.2.2.2.1, ol.2.2.2.2.2.2.2.2.2.2.2.1, ol.2.2.2.2.2.2.2.2.2.2.2.2.1, s.2, ol.2.2.2.2.2.2.2.2.2.2.2.2.2.2.1, ol.2.2.2.2.2.2.2.2.2.2.2.2.2.2.2.1, ol.2.2.2.2.2.2.2.2.2.2.2.2.2.2.2.2) sn sr tp (mW mk mg mt mc T)), 0, 0)
    obtain ⟨g2, hf⟩ := grd_e hf
    refine stp hm 4 (And.intro (gi_in g2) (?_ : sxWP sc cl Q 255 (14, [some (.ref 35), some (.int v1), some (.int s.1), some (.int v3)], [], (cW nw kp im (ol.1, ol.2.1, ol.2.2.1, ol.2.2.2.1, ol.2.2.2.2.1, ol.2.2.2.2.2.1, ol.2.2.2.2.2.2.1, ol.2.2.2.2.2.2.2.1, ol.2.2.2.2.2.2.2.2.1, ol.2.2.2.2.2.2.2.2.2.1, ol.2.2.2.2.2.2.2.2.2.2.1, ol.2.2.2.2.2.2.2.2.2.2.2.1, ol.2.2.2.2.2.2.2.2.2.2.2.2.1, upd s.2 s.1.toNatClampNeg v1, ol.2.2.2.2.2.2.2.2.2.2.2.2.2.2.1, ol.2.2.2.2.2.2.2.2.2.2.2.2.2.2.2.1, ol.2.2.2.2.2.2.2.2.2.2.2.2.2.2.2.2) sn sr tp (mW mk mg mt mc T)), 0, 0)))
    obtain rfl := Option.some.inj hf
    refine stp hm 2 (?_ : sxWP sc cl Q 255 (5, [some (.ref 35), some (.int v1), some (.int (s.1 + (1:Int32))), some (.int v3)], [], (cW nw kp im (ol.1, ol.2.1, ol.2.2.1, ol.2.2.2.1, ol.2.2.2.2.1, ol.2.2.2.2.2.1, ol.2.2.2.2.2.2.1, ol.2.2.2.2.2.2.2.1, ol.2.2.2.2.2.2.2.2.1, ol.2.2.2.2.2.2.2.2.2.1, ol.2.2.2.2.2.2.2.2.2.2.1, ol.2.2.2.2.2.2.2.2.2.2.2.1, ol.2.2.2.2.2.2.2.2.2.2.2.2.1, upd s.2 s.1.toNatClampNeg v1, ol.2.2.2.2.2.2.2.2.2.2.2.2.2.2.1, ol.2.2.2.2.2.2.2.2.2.2.2.2.2.2.2.1, ol.2.2.2.2.2.2.2.2.2.2.2.2.2.2.2.2) sn sr tp (mW mk mg mt mc T)), 0, 0))
    exact hA _ rfl
set_option maxRecDepth 10000 in
theorem J_Arrays_fillI_ok {v1 : Int32} {q : (Nat → Int32)} (hc : call = sxE sc (d + 1)) (hf : J_Arrays_fillI v1 ol.2.2.2.2.2.2.2.2.2.2.2.2.2.1 = some q) (h : Q none (cW nw kp im (ol.1, ol.2.1, ol.2.2.1, ol.2.2.2.1, ol.2.2.2.2.1, ol.2.2.2.2.2.1, ol.2.2.2.2.2.2.1, ol.2.2.2.2.2.2.2.1, ol.2.2.2.2.2.2.2.2.1, ol.2.2.2.2.2.2.2.2.2.1, ol.2.2.2.2.2.2.2.2.2.2.1, ol.2.2.2.2.2.2.2.2.2.2.2.1, ol.2.2.2.2.2.2.2.2.2.2.2.2.1, q, ol.2.2.2.2.2.2.2.2.2.2.2.2.2.2.1, ol.2.2.2.2.2.2.2.2.2.2.2.2.2.2.2.1, ol.2.2.2.2.2.2.2.2.2.2.2.2.2.2.2.2) sn sr tp (mW mk mg mt mc T))) : call 255 [.ref 35, .int v1] (cW nw kp im ol sn sr tp (mW mk mg mt mc T)) Q := by
  refine ent hc rfl (fun cl hE hm => ?_)
  unfold J_Arrays_fillI at hf
  obtain ⟨w1, hw1, hf⟩ := bnd hf
  refine stp hm 5 (?_ : sxWP sc cl Q 255 (5, [some (.ref 35), some (.int v1), some (.int (0:Int32)), some (.int (Int32.ofNat 49))], [], (cW nw kp im ol sn sr tp (mW mk mg mt mc T)), 0, 0))
  refine J_Arrays_fillI_l5 hE hm _ _ _ hw1 ?_
  intro w1_z0 w1_z1 w1_z2 w1_z3
  show sxWP sc cl Q 255 (20, [w1_z0, w1_z1, w1_z2, w1_z3], [], (cW nw kp im (ol.1, ol.2.1, ol.2.2.1, ol.2.2.2.1, ol.2.2.2.2.1, ol.2.2.2.2.2.1, ol.2.2.2.2.2.2.1, ol.2.2.2.2.2.2.2.1, ol.2.2.2.2.2.2.2.2.1, ol.2.2.2.2.2.2.2.2.2.1, ol.2.2.2.2.2.2.2.2.2.2.1, ol.2.2.2.2.2.2.2.2.2.2.2.1, ol.2.2.2.2.2.2.2.2.2.2.2.2.1, w1, ol.2.2.2.2.2.2.2.2.2.2.2.2.2.2.1, ol.2.2.2.2.2.2.2.2.2.2.2.2.2.2.2.1, ol.2.2.2.2.2.2.2.2.2.2.2.2.2.2.2.2) sn sr tp (mW mk mg mt mc T)), 0, 0)
  obtain rfl := Option.some.inj hf
  refine stp hm 1 ?_
  exact h

def O_level (v1 : Int32) (v2 : Int32) (owh : (Nat → Int32)) (olo : (Nat → Int32)) (ohi : (Nat → Int32)) (ora : (Nat → Int32)) : Option Int32 := if (G_isVertex v1) = (0:Int32) then (some (0:Int32)) else (if v2 = (0:Int32) then (grd (gi v1 49) (some (owh v1.toNatClampNeg))) else (if v2 = (1:Int32) then (grd (gi v1 49) (some (olo v1.toNatClampNeg))) else (if v2 = (2:Int32) then (grd (gi v1 49) (some (ohi v1.toNatClampNeg))) else (grd (gi v1 49) (some (ora v1.toNatClampNeg))))))
set_option maxRecDepth 10000 in
theorem O_level_ok {v1 : Int32} {v2 : Int32} {q : Int32} (hc : call = sxE sc (d + 2)) (hf : O_level v1 v2 ol.2.2.2.2.2.2.2.2.2.2.2.1 ol.2.2.2.2.2.2.2.2.2.2.2.2.1 ol.2.2.2.2.2.2.2.2.2.2.2.2.2.1 ol.2.2.2.2.2.2.2.2.2.2.2.2.2.2.1 = some q) (h : Q (some (.int q)) (cW nw kp im ol sn sr tp (mW mk mg mt mc T))) : call 23 [.ref 29, .int v1, .int v2] (cW nw kp im ol sn sr tp (mW mk mg mt mc T)) Q := by
  refine ent hc rfl (fun cl hE hm => ?_)
  unfold O_level at hf
  refine stp hm 2 (G_isVertex_ok hE rfl ?_)
  show sxWP sc cl Q 23 (4, [some (.ref 29), some (.int v1), some (.int v2)], [.int (G_isVertex v1)], (cW nw kp im ol sn sr tp (mW mk mg mt mc T)), 0, 0)
  refine stp hm 1 (brn hf (fun c1 hf => ?_) (fun c1 hf => ?_))
  · show sxWP sc cl Q 23 (9, [some (.ref 29), some (.int v1), some (.int v2)], [], (cW nw kp im ol sn sr tp (mW mk mg mt mc T)), 0, 0)
    refine stp hm 2 ?_
    show sxWP sc cl Q 23 ((swT (v2).toInt (0) [36, 43, 50] 57), [some (.ref 29), some (.int v1), some (.int v2)], [], (cW nw kp im ol sn sr tp (mW mk mg mt mc T)), 0, 0)
    rcases ite_or hf with ⟨c2_0, hf⟩ | ⟨c2_0, hf⟩
    · rw [show swT (v2).toInt (0) [36, 43, 50] 57 = 36 by rw [c2_0]; rfl]
      obtain ⟨g3, hf⟩ := grd_e hf
      refine stp hm 4 (And.intro (gi_in g3) (?_ : sxWP sc cl Q 23 (42, [some (.ref 29), some (.int v1), some (.int v2)], [.int (ol.2.2.2.2.2.2.2.2.2.2.2.1 v1.toNatClampNeg)], (cW nw kp im ol sn sr tp (mW mk mg mt mc T)), 0, 0)))
      obtain rfl := Option.some.inj hf
      refine stp hm 1 ?_
      exact h
    rcases ite_or hf with ⟨c2_1, hf⟩ | ⟨c2_1, hf⟩
    · rw [show swT (v2).toInt (0) [36, 43, 50] 57 = 43 by rw [c2_1]; rfl]
      obtain ⟨g4, hf⟩ := grd_e hf
      refine stp hm 4 (And.intro (gi_in g4) (?_ : sxWP sc cl Q 23 (49, [some (.ref 29), some (.int v1), some (.int v2)], [.int (ol.2.2.2.2.2.2.2.2.2.2.2.2.1 v1.toNatClampNeg)], (cW nw kp im ol sn sr tp (mW mk mg mt mc T)), 0, 0)))
      obtain rfl := Option.some.inj hf
      refine stp hm 1 ?_
      exact h
    rcases ite_or hf with ⟨c2_2, hf⟩ | ⟨c2_2, hf⟩
    · rw [show swT (v2).toInt (0) [36, 43, 50] 57 = 50 by rw [c2_2]; rfl]
      obtain ⟨g5, hf⟩ := grd_e hf
      refine stp hm 4 (And.intro (gi_in g5) (?_ : sxWP sc cl Q 23 (56, [some (.ref 29), some (.int v1), some (.int v2)], [.int (ol.2.2.2.2.2.2.2.2.2.2.2.2.2.1 v1.toNatClampNeg)], (cW nw kp im ol sn sr tp (mW mk mg mt mc T)), 0, 0)))
      obtain rfl := Option.some.inj hf
      refine stp hm 1 ?_
      exact h
    have tc2_0 : ¬ (v2).toInt = 0 := fun e => c2_0 (Int32.toInt_inj.mp e)
    have tc2_1 : ¬ (v2).toInt = 1 := fun e => c2_1 (Int32.toInt_inj.mp e)
    have tc2_2 : ¬ (v2).toInt = 2 := fun e => c2_2 (Int32.toInt_inj.mp e)
    rw [show swT (v2).toInt (0) [36, 43, 50] 57 = 57 by simp [swT, tc2_0, tc2_1, tc2_2]]
    obtain ⟨g6, hf⟩ := grd_e hf
    refine stp hm 4 (And.intro (gi_in g6) (?_ : sxWP sc cl Q 23 (63, [some (.ref 29), some (.int v1), some (.int v2)], [.int (ol.2.2.2.2.2.2.2.2.2.2.2.2.2.2.1 v1.toNatClampNeg)], (cW nw kp im ol sn sr tp (mW mk mg mt mc T)), 0, 0)))
    obtain rfl := Option.some.inj hf
    refine stp hm 1 ?_
    exact h
  · show sxWP sc cl Q 23 (7, [some (.ref 29), some (.int v1), some (.int v2)], [], (cW nw kp im ol sn sr tp (mW mk mg mt mc T)), 0, 0)
    obtain rfl := Option.some.inj hf
    refine stp hm 2 ?_
    exact h

set_option maxRecDepth 10000 in
theorem J_Arrays_fillI_2_l5 {v1 : Int32} {v3 : Int32}   (hE : cl = sxE sc (d + 0)) (hm : CallMono cl) : ∀ (n : Nat) (s : (Int32 × (Nat → Int32))) (r : (Nat → Int32)), wh (J_Arrays_fillI_s5 v1 v3) n s = some r → (∀ (z0 z1 z2 z3 : Option Value), sxWP sc cl Q 255 (20, [z0, z1, z2, z3], [], (cW nw kp im (ol.1, ol.2.1, ol.2.2.1, ol.2.2.2.1, ol.2.2.2.2.1, ol.2.2.2.2.2.1, ol.2.2.2.2.2.2.1, ol.2.2.2.2.2.2.2.1, ol.2.2.2.2.2.2.2.2.1, ol.2.2.2.2.2.2.2.2.2.1, ol.2.2.2.2.2.2.2.2.2.2.1, ol.2.2.2.2.2.2.2.2.2.2.2.1, ol.2.2.2.2.2.2.2.2.2.2.2.2.1, ol.2.2.2.2.2.2.2.2.2.2.2.2.2.1, ol.2.2.2.2.2.2.2.2.2.2.2.2.2.2.1, r, ol.2.2.2.2.2.2.2.2.2.2.2.2.2.2.2.2) sn sr tp (mW mk mg mt mc T)), 0, 0)) → sxWP sc cl Q 255 (5, [some (.ref 37), some (.int v1), some (.int s.1), some (.int v3)], [], (cW nw kp im (ol.1, ol.2.1, ol.2.2.1, ol.2.2.2.1, ol.2.2.2.2.1, ol.2.2.2.2.2.1, ol.2.2.2.2.2.2.1, ol.2.2.2.2.2.2.2.1, ol.2.2.2.2.2.2.2.2.1, ol.2.2.2.2.2.2.2.2.2.1, ol.2.2.2.2.2.2.2.2.2.2.1, ol.2.2.2.2.2.2.2.2.2.2.2.1, ol.2.2.2.2.2.2.2.2.2.2.2.2.1, ol.2.2.2.2.2.2.2.2.2.2.2.2.2.1, ol.2.2.2.2.2.2.2.2.2.2.2.2.2.2.1, s.2, ol.2.2.2.2.2.2.2.2.2.2.2.2.2.2.2.2) sn sr tp (mW mk mg mt mc T)), 0, 0) := by
  refine wh_run (A := fun (s : (Int32 × (Nat → Int32))) => sxWP sc cl Q 255 (5, [some (.ref 37), some (.int v1), some (.int s.1), some (.int v3)], [], (cW nw kp im (ol.1, ol.2.1, ol.2.2.1, ol.2.2.2.1, ol.2.2.2.2.1, ol.2.2.2.2.2.1, ol.2.2.2.2.2.2.1, ol.2.2.2.2.2.2.2.1, ol.2.2.2.2.2.2.2.2.1, ol.2.2.2.2.2.2.2.2.2.1, ol.2.2.2.2.2.2.2.2.2.2.1, ol.2.2.2.2.2.2.2.2.2.2.2.1, ol.2.2.2.2.2.2.2.2.2.2.2.2.1, ol.2.2.2.2.2.2.2.2.2.2.2.2.2.1, ol.2.2.2.2.2.2.2.2.2.2.2.2.2.2.1, s.2, ol.2.2.2.2.2.2.2.2.2.2.2.2.2.2.2.2) sn sr tp (mW mk mg mt mc T)), 0, 0)) (B := fun (r : (Nat → Int32)) => ∀ (z0 z1 z2 z3 : Option Value), sxWP sc cl Q 255 (20, [z0, z1, z2, z3], [], (cW nw kp im (ol.1, ol.2.1, ol.2.2.1, ol.2.2.2.1, ol.2.2.2.2.1, ol.2.2.2.2.2.1, ol.2.2.2.2.2.2.1, ol.2.2.2.2.2.2.2.1, ol.2.2.2.2.2.2.2.2.1, ol.2.2.2.2.2.2.2.2.2.1, ol.2.2.2.2.2.2.2.2.2.2.1, ol.2.2.2.2.2.2.2.2.2.2.2.1, ol.2.2.2.2.2.2.2.2.2.2.2.2.1, ol.2.2.2.2.2.2.2.2.2.2.2.2.2.1, ol.2.2.2.2.2.2.2.2.2.2.2.2.2.2.1, r, ol.2.2.2.2.2.2.2.2.2.2.2.2.2.2.2.2) sn sr tp (mW mk mg mt mc T)), 0, 0)) (fun s x hf hA hB => ?_)
  unfold J_Arrays_fillI_s5 at hf
  refine stp hm 3 (br hf (fun c1 hf => ?_) (fun c1 hf => ?_))
  · show sxWP sc cl Q 255 (20, [some (.ref 37), some (.int v1), some (.int s.1), some (.int v3)], [], (cW nw kp im (ol.1, ol.2.1, ol.2.2.1, ol.2.2.2.1, ol.2.2.2.2.1, ol.2.2.2.2.2.1, ol.2.2.2.2.2.2.1, ol.2.2.2.2.2.2.2.1, ol.2.2.2.2.2.2.2.2.1, ol.2.2.2.2.2.2.2.2.2.1, ol.2.2.2.2.2.2.2.2.2.2.1, ol.2.2.2.2.2.2.2.2.2.2.2.1, ol.2.2.2.2.2.2.2.2.2.2.2.2.1, ol.2.2.2.2.2.2.2.2.2.2.2.2.2.1, ol.2.2.2.2.2.2.2.2.2.2.2.2.2.2.1, s.2, ol.2.2.2.2.2.2.2.2.2.2.2.2.2.2.2.2) sn sr tp (mW mk mg mt mc T)), 0, 0)
    obtain rfl := Option.some.inj hf
    exact hB _ rfl _ _ _ _
  · show sxWP sc cl Q 255 (10, [some (.ref 37), some (.int v1), some (.int s.1), some (.int v3)], [], (cW nw kp im (ol.1, ol.2.1, ol.2.2.1, ol.2.2.2.1, ol.2.2.2.2.1, ol.2.2.2.2.2.1, ol.2.2.2.2.2.2.1, ol.2.2.2.2.2.2.2.1, ol.2.2.2.2.2.2.2.2.1, ol.2.2.2.2.2.2.2.2.2.1, ol.2.2.2.2.2.2.2.2.2.2.1, ol.2.2.2.2.2.2.2.2.2.2.2.1, ol.2.2.2.2.2.2.2.2.2.2.2.2.1, ol.2.2.2.2.2.2.2.2.2.2.2.2.2.1, ol.2.2.2.2.2.2.2.2.2.2.2.2.2.2.1, s.2, ol.2.2.2.2.2.2.2.2.2.2.2.2.2.2.2.2) sn sr tp (mW mk mg mt mc T)), 0, 0)
    obtain ⟨g2, hf⟩ := grd_e hf
    refine stp hm 4 (And.intro (gi_in g2) (?_ : sxWP sc cl Q 255 (14, [some (.ref 37), some (.int v1), some (.int s.1), some (.int v3)], [], (cW nw kp im (ol.1, ol.2.1, ol.2.2.1, ol.2.2.2.1, ol.2.2.2.2.1, ol.2.2.2.2.2.1, ol.2.2.2.2.2.2.1, ol.2.2.2.2.2.2.2.1, ol.2.2.2.2.2.2.2.2.1, ol.2.2.2.2.2.2.2.2.2.1, ol.2.2.2.2.2.2.2.2.2.2.1, ol.2.2.2.2.2.2.2.2.2.2.2.1, ol.2.2.2.2.2.2.2.2.2.2.2.2.1, ol.2.2.2.2.2.2.2.2.2.2.2.2.2.1, ol.2.2.2.2.2.2.2.2.2.2.2.2.2.2.1, upd s.2 s.1.toNatClampNeg v1, ol.2.2.2.2.2.2.2.2.2.2.2.2.2.2.2.2) sn sr tp (mW mk mg mt mc T)), 0, 0)))
    obtain rfl := Option.some.inj hf
    refine stp hm 2 (?_ : sxWP sc cl Q 255 (5, [some (.ref 37), some (.int v1), some (.int (s.1 + (1:Int32))), some (.int v3)], [], (cW nw kp im (ol.1, ol.2.1, ol.2.2.1, ol.2.2.2.1, ol.2.2.2.2.1, ol.2.2.2.2.2.1, ol.2.2.2.2.2.2.1, ol.2.2.2.2.2.2.2.1, ol.2.2.2.2.2.2.2.2.1, ol.2.2.2.2.2.2.2.2.2.1, ol.2.2.2.2.2.2.2.2.2.2.1, ol.2.2.2.2.2.2.2.2.2.2.2.1, ol.2.2.2.2.2.2.2.2.2.2.2.2.1, ol.2.2.2.2.2.2.2.2.2.2.2.2.2.1, ol.2.2.2.2.2.2.2.2.2.2.2.2.2.2.1, upd s.2 s.1.toNatClampNeg v1, ol.2.2.2.2.2.2.2.2.2.2.2.2.2.2.2.2) sn sr tp (mW mk mg mt mc T)), 0, 0))
    exact hA _ rfl
set_option maxRecDepth 10000 in
theorem J_Arrays_fillI_2_ok {v1 : Int32} {q : (Nat → Int32)} (hc : call = sxE sc (d + 1)) (hf : J_Arrays_fillI v1 ol.2.2.2.2.2.2.2.2.2.2.2.2.2.2.2.1 = some q) (h : Q none (cW nw kp im (ol.1, ol.2.1, ol.2.2.1, ol.2.2.2.1, ol.2.2.2.2.1, ol.2.2.2.2.2.1, ol.2.2.2.2.2.2.1, ol.2.2.2.2.2.2.2.1, ol.2.2.2.2.2.2.2.2.1, ol.2.2.2.2.2.2.2.2.2.1, ol.2.2.2.2.2.2.2.2.2.2.1, ol.2.2.2.2.2.2.2.2.2.2.2.1, ol.2.2.2.2.2.2.2.2.2.2.2.2.1, ol.2.2.2.2.2.2.2.2.2.2.2.2.2.1, ol.2.2.2.2.2.2.2.2.2.2.2.2.2.2.1, q, ol.2.2.2.2.2.2.2.2.2.2.2.2.2.2.2.2) sn sr tp (mW mk mg mt mc T))) : call 255 [.ref 37, .int v1] (cW nw kp im ol sn sr tp (mW mk mg mt mc T)) Q := by
  refine ent hc rfl (fun cl hE hm => ?_)
  unfold J_Arrays_fillI at hf
  obtain ⟨w1, hw1, hf⟩ := bnd hf
  refine stp hm 5 (?_ : sxWP sc cl Q 255 (5, [some (.ref 37), some (.int v1), some (.int (0:Int32)), some (.int (Int32.ofNat 49))], [], (cW nw kp im ol sn sr tp (mW mk mg mt mc T)), 0, 0))
  refine J_Arrays_fillI_2_l5 hE hm _ _ _ hw1 ?_
  intro w1_z0 w1_z1 w1_z2 w1_z3
  show sxWP sc cl Q 255 (20, [w1_z0, w1_z1, w1_z2, w1_z3], [], (cW nw kp im (ol.1, ol.2.1, ol.2.2.1, ol.2.2.2.1, ol.2.2.2.2.1, ol.2.2.2.2.2.1, ol.2.2.2.2.2.2.1, ol.2.2.2.2.2.2.2.1, ol.2.2.2.2.2.2.2.2.1, ol.2.2.2.2.2.2.2.2.2.1, ol.2.2.2.2.2.2.2.2.2.2.1, ol.2.2.2.2.2.2.2.2.2.2.2.1, ol.2.2.2.2.2.2.2.2.2.2.2.2.1, ol.2.2.2.2.2.2.2.2.2.2.2.2.2.1, ol.2.2.2.2.2.2.2.2.2.2.2.2.2.2.1, w1, ol.2.2.2.2.2.2.2.2.2.2.2.2.2.2.2.2) sn sr tp (mW mk mg mt mc T)), 0, 0)
  obtain rfl := Option.some.inj hf
  refine stp hm 1 ?_
  exact h
end PT
