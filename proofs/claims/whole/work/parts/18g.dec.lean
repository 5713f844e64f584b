/-! methods as functions (printed by wip/whole/dec) -/
section PT
variable {sc : sxS} {d : Nat} {Q : sxR} {hp : sxH} {call cl : sxX} {nw kp : tSt} {im : Int32} {ol : tOl} {sn : tSn} {sr : tSc} {tp : Nat → tTp} {mk : tMk} {mg : tMg} {mt : tMt} {mc : tMc} {T : sxH}

def M_bounds_j128  (v2 : Int32) (v3 : Int32) (glo_j : (Nat → Int32)) (ghi_j : (Nat → Int32)) : Option ((Int32 × Int32 × (Nat → Int32) × (Nat → Int32)) ⊕ ((Nat → Int32) × (Nat → Int32))) := some (Sum.inl (v2, v3 + (1:Int32), glo_j, ghi_j))
def M_bounds_j125  (v3 : Int32) (k1 : Int32) (k2 : Int32) (glo_j : (Nat → Int32)) (ghi_j : (Nat → Int32)) : Option ((Int32 × Int32 × (Nat → Int32) × (Nat → Int32)) ⊕ ((Nat → Int32) × (Nat → Int32))) := grd (gi k1 49) (M_bounds_j128 (0:Int32) v3 glo_j (upd ghi_j k1.toNatClampNeg k2))
def M_bounds_j114  (v3 : Int32) (v5 : Int32) (k1 : Int32) (glo_j : (Nat → Int32)) (ghi_j : (Nat → Int32)) : Option ((Int32 × Int32 × (Nat → Int32) × (Nat → Int32)) ⊕ ((Nat → Int32) × (Nat → Int32))) := M_bounds_j125 v3 k1 v5 glo_j ghi_j
def M_bounds_j93  (v1 : Int32) (v2 : Int32) (v3 : Int32) (v5 : Int32) (k1 : Int32) (k2 : Int32) (glo_j : (Nat → Int32)) (ghi_j : (Nat → Int32)) : Option ((Int32 × Int32 × (Nat → Int32) × (Nat → Int32)) ⊕ ((Nat → Int32) × (Nat → Int32))) := grd (gi k1 49) (if v2 = (0:Int32) then (grd (gi v1 49) (if (ghi_j v1.toNatClampNeg) ≤ v5 then (grd (gi v1 49) (M_bounds_j125 v3 v1 (ghi_j v1.toNatClampNeg) (upd glo_j k1.toNatClampNeg k2) ghi_j)) else (M_bounds_j114 v3 v5 v1 (upd glo_j k1.toNatClampNeg k2) ghi_j))) else (M_bounds_j114 v3 v5 v1 (upd glo_j k1.toNatClampNeg k2) ghi_j))
def M_bounds_j82  (v1 : Int32) (v2 : Int32) (v3 : Int32) (v4 : Int32) (v5 : Int32) (k1 : Int32) (glo_j : (Nat → Int32)) (ghi_j : (Nat → Int32)) : Option ((Int32 × Int32 × (Nat → Int32) × (Nat → Int32)) ⊕ ((Nat → Int32) × (Nat → Int32))) := M_bounds_j93 v1 v2 v3 v5 k1 v4 glo_j ghi_j
def M_bounds_s4  (v1 : Int32) (ghe : (Nat → Int32)) (gow : (Nat → Int32)) (gfa : (Nat → Int32)) (s : (Int32 × Int32 × (Nat → Int32) × (Nat → Int32))) : Option ((Int32 × Int32 × (Nat → Int32) × (Nat → Int32)) ⊕ ((Nat → Int32) × (Nat → Int32))) := if (49:Int32) ≤ s.2.1 then (some (Sum.inr (s.2.2.1, s.2.2.2))) else (grd (gi s.2.1 49) (if (gow s.2.1.toNatClampNeg) = (0:Int32) then (M_bounds_j128 s.1 s.2.1 s.2.2.1 s.2.2.2) else (grd (gi s.2.1 49) (grd (gi (((49:Int32) * v1) + s.2.1) 2401) (grd (gi s.2.1 49) (grd (gi (((49:Int32) * s.2.1) + v1) 2401) (if s.1 = (0:Int32) then (grd (gi v1 49) (if ((ghe s.2.1.toNatClampNeg) - (gfa (((49:Int32) * v1) + s.2.1).toNatClampNeg)) ≤ (s.2.2.1 v1.toNatClampNeg) then (grd (gi v1 49) (M_bounds_j93 v1 s.1 s.2.1 ((ghe s.2.1.toNatClampNeg) + (gfa (((49:Int32) * s.2.1) + v1).toNatClampNeg)) v1 (s.2.2.1 v1.toNatClampNeg) s.2.2.1 s.2.2.2)) else (M_bounds_j82 v1 s.1 s.2.1 ((ghe s.2.1.toNatClampNeg) - (gfa (((49:Int32) * v1) + s.2.1).toNatClampNeg)) ((ghe s.2.1.toNatClampNeg) + (gfa (((49:Int32) * s.2.1) + v1).toNatClampNeg)) v1 s.2.2.1 s.2.2.2))) else (M_bounds_j82 v1 s.1 s.2.1 ((ghe s.2.1.toNatClampNeg) - (gfa (((49:Int32) * v1) + s.2.1).toNatClampNeg)) ((ghe s.2.1.toNatClampNeg) + (gfa (((49:Int32) * s.2.1) + v1).toNatClampNeg)) v1 s.2.2.1 s.2.2.2))))))))
def M_bounds (v1 : Int32) (ghe : (Nat → Int32)) (gow : (Nat → Int32)) (gfa : (Nat → Int32)) (glo : (Nat → Int32)) (ghi : (Nat → Int32)) : Option ((Nat → Int32) × (Nat → Int32)) := Option.bind (wh (M_bounds_s4 v1 ghe gow gfa) FU ((1:Int32), (0:Int32), glo, ghi)) (fun w1 => some (w1.1, w1.2))
set_option maxRecDepth 10000 in
theorem M_bounds_l4 {v1 : Int32}   (hE : cl = sxE sc (d + 0)) (hm : CallMono cl) : ∀ (n : Nat) (s : (Int32 × Int32 × (Nat → Int32) × (Nat → Int32))) (r : ((Nat → Int32) × (Nat → Int32))), wh (M_bounds_s4 v1 mg.2.2.2.2.2.1 mg.2.2.2.2.2.2.1 mg.2.2.2.2.2.2.2.1) n s = some r → (∀ (z0 z1 z2 z3 z4 z5 : Option Value), sxWP sc cl Q 170 (134, [z0, z1, z2, z3, z4, z5], [], (cW nw kp im ol sn sr tp (mW mk (mg.1, mg.2.1, mg.2.2.1, mg.2.2.2.1, mg.2.2.2.2.1, mg.2.2.2.2.2.1, mg.2.2.2.2.2.2.1, mg.2.2.2.2.2.2.2.1, mg.2.2.2.2.2.2.2.2.1, r.1, r.2, mg.2.2.2.2.2.2.2.2.2.2.2.1, mg.2.2.2.2.2.2.2.2.2.2.2.2) mt mc T)), 0, 0)) → ∀ (z4 z5 : Option Value), sxWP sc cl Q 170 (4, [some (.ref 59), some (.int v1), some (.int s.1), some (.int s.2.1), z4, z5], [], (cW nw kp im ol sn sr tp (mW mk (mg.1, mg.2.1, mg.2.2.1, mg.2.2.2.1, mg.2.2.2.2.1, mg.2.2.2.2.2.1, mg.2.2.2.2.2.2.1, mg.2.2.2.2.2.2.2.1, mg.2.2.2.2.2.2.2.2.1, s.2.2.1, s.2.2.2, mg.2.2.2.2.2.2.2.2.2.2.2.1, mg.2.2.2.2.2.2.2.2.2.2.2.2) mt mc T)), 0, 0) := by
  refine wh_run (A := fun (s : (Int32 × Int32 × (Nat → Int32) × (Nat → Int32))) => ∀ (z4 z5 : Option Value), sxWP sc cl Q 170 (4, [some (.ref 59), some (.int v1), some (.int s.1), some (.int s.2.1), z4, z5], [], (cW nw kp im ol sn sr tp (mW mk (mg.1, mg.2.1, mg.2.2.1, mg.2.2.2.1, mg.2.2.2.2.1, mg.2.2.2.2.2.1, mg.2.2.2.2.2.2.1, mg.2.2.2.2.2.2.2.1, mg.2.2.2.2.2.2.2.2.1, s.2.2.1, s.2.2.2, mg.2.2.2.2.2.2.2.2.2.2.2.1, mg.2.2.2.2.2.2.2.2.2.2.2.2) mt mc T)), 0, 0)) (B := fun (r : ((Nat → Int32) × (Nat → Int32))) => ∀ (z0 z1 z2 z3 z4 z5 : Option Value), sxWP sc cl Q 170 (134, [z0, z1, z2, z3, z4, z5], [], (cW nw kp im ol sn sr tp (mW mk (mg.1, mg.2.1, mg.2.2.1, mg.2.2.2.1, mg.2.2.2.2.1, mg.2.2.2.2.2.1, mg.2.2.2.2.2.2.1, mg.2.2.2.2.2.2.2.1, mg.2.2.2.2.2.2.2.2.1, r.1, r.2, mg.2.2.2.2.2.2.2.2.2.2.2.1, mg.2.2.2.2.2.2.2.2.2.2.2.2) mt mc T)), 0, 0)) (fun s x hf hA hB => ?_)
  intro z4 z5
  have J128 : ∀ (v2 : Int32) (v3 : Int32) (glo_j : (Nat → Int32)) (ghi_j : (Nat → Int32)) (z4 : Option Value) (z5 : Option Value), M_bounds_j128 v2 v3 glo_j ghi_j = some x → sxWP sc cl Q 170 (128, [some (.ref 59), some (.int v1), some (.int v2), some (.int v3), z4, z5], [], (cW nw kp im ol sn sr tp (mW mk (mg.1, mg.2.1, mg.2.2.1, mg.2.2.2.1, mg.2.2.2.2.1, mg.2.2.2.2.2.1, mg.2.2.2.2.2.2.1, mg.2.2.2.2.2.2.2.1, mg.2.2.2.2.2.2.2.2.1, glo_j, ghi_j, mg.2.2.2.2.2.2.2.2.2.2.2.1, mg.2.2.2.2.2.2.2.2.2.2.2.2) mt mc T)), 0, 0) := by
    intro v2 v3 glo_j ghi_j z4 z5 hf
    unfold M_bounds_j128 at hf
    obtain rfl := Option.some.inj hf
    refine stp hm 2 (?_ : sxWP sc cl Q 170 (4, [some (.ref 59), some (.int v1), some (.int v2), some (.int (v3 + (1:Int32))), z4, z5], [], (cW nw kp im ol sn sr tp (mW mk (mg.1, mg.2.1, mg.2.2.1, mg.2.2.2.1, mg.2.2.2.2.1, mg.2.2.2.2.2.1, mg.2.2.2.2.2.2.1, mg.2.2.2.2.2.2.2.1, mg.2.2.2.2.2.2.2.2.1, glo_j, ghi_j, mg.2.2.2.2.2.2.2.2.2.2.2.1, mg.2.2.2.2.2.2.2.2.2.2.2.2) mt mc T)), 0, 0))
    exact hA _ rfl _ _
  have J125 : ∀ (v3 : Int32) (k1 : Int32) (k2 : Int32) (glo_j : (Nat → Int32)) (ghi_j : (Nat → Int32)) (z2 : Option Value) (z4 : Option Value) (z5 : Option Value), M_bounds_j125 v3 k1 k2 glo_j ghi_j = some x → sxWP sc cl Q 170 (125, [some (.ref 59), some (.int v1), z2, some (.int v3), z4, z5], [.int k2, .int k1, .ref 74], (cW nw kp im ol sn sr tp (mW mk (mg.1, mg.2.1, mg.2.2.1, mg.2.2.2.1, mg.2.2.2.2.1, mg.2.2.2.2.2.1, mg.2.2.2.2.2.2.1, mg.2.2.2.2.2.2.2.1, mg.2.2.2.2.2.2.2.2.1, glo_j, ghi_j, mg.2.2.2.2.2.2.2.2.2.2.2.1, mg.2.2.2.2.2.2.2.2.2.2.2.2) mt mc T)), 0, 0) := by
    intro v3 k1 k2 glo_j ghi_j z2 z4 z5 hf
    unfold M_bounds_j125 at hf
    obtain ⟨g1, hf⟩ := grd_e hf
    refine stp hm 1 (And.intro (gi_in g1) (?_ : sxWP sc cl Q 170 (126, [some (.ref 59), some (.int v1), z2, some (.int v3), z4, z5], [], (cW nw kp im ol sn sr tp (mW mk (mg.1, mg.2.1, mg.2.2.1, mg.2.2.2.1, mg.2.2.2.2.1, mg.2.2.2.2.2.1, mg.2.2.2.2.2.2.1, mg.2.2.2.2.2.2.2.1, mg.2.2.2.2.2.2.2.2.1, glo_j, upd ghi_j k1.toNatClampNeg k2, mg.2.2.2.2.2.2.2.2.2.2.2.1, mg.2.2.2.2.2.2.2.2.2.2.2.2) mt mc T)), 0, 0)))
    refine stp hm 2 (?_ : sxWP sc cl Q 170 (128, [some (.ref 59), some (.int v1), some (.int (0:Int32)), some (.int v3), z4, z5], [], (cW nw kp im ol sn sr tp (mW mk (mg.1, mg.2.1, mg.2.2.1, mg.2.2.2.1, mg.2.2.2.2.1, mg.2.2.2.2.2.1, mg.2.2.2.2.2.2.1, mg.2.2.2.2.2.2.2.1, mg.2.2.2.2.2.2.2.2.1, glo_j, upd ghi_j k1.toNatClampNeg k2, mg.2.2.2.2.2.2.2.2.2.2.2.1, mg.2.2.2.2.2.2.2.2.2.2.2.2) mt mc T)), 0, 0))
    exact J128 _ _ _ _ _ _ hf
  have J114 : ∀ (v3 : Int32) (v5 : Int32) (k1 : Int32) (glo_j : (Nat → Int32)) (ghi_j : (Nat → Int32)) (z2 : Option Value) (z4 : Option Value), M_bounds_j114 v3 v5 k1 glo_j ghi_j = some x → sxWP sc cl Q 170 (114, [some (.ref 59), some (.int v1), z2, some (.int v3), z4, some (.int v5)], [.int k1, .ref 74], (cW nw kp im ol sn sr tp (mW mk (mg.1, mg.2.1, mg.2.2.1, mg.2.2.2.1, mg.2.2.2.2.1, mg.2.2.2.2.2.1, mg.2.2.2.2.2.2.1, mg.2.2.2.2.2.2.2.1, mg.2.2.2.2.2.2.2.2.1, glo_j, ghi_j, mg.2.2.2.2.2.2.2.2.2.2.2.1, mg.2.2.2.2.2.2.2.2.2.2.2.2) mt mc T)), 0, 0) := by
    intro v3 v5 k1 glo_j ghi_j z2 z4 hf
    unfold M_bounds_j114 at hf
    refine stp hm 2 (?_ : sxWP sc cl Q 170 (125, [some (.ref 59), some (.int v1), z2, some (.int v3), z4, some (.int v5)], [.int v5, .int k1, .ref 74], (cW nw kp im ol sn sr tp (mW mk (mg.1, mg.2.1, mg.2.2.1, mg.2.2.2.1, mg.2.2.2.2.1, mg.2.2.2.2.2.1, mg.2.2.2.2.2.2.1, mg.2.2.2.2.2.2.2.1, mg.2.2.2.2.2.2.2.2.1, glo_j, ghi_j, mg.2.2.2.2.2.2.2.2.2.2.2.1, mg.2.2.2.2.2.2.2.2.2.2.2.2) mt mc T)), 0, 0))
    exact J125 _ _ _ _ _ _ _ _ hf
  have J93 : ∀ (v2 : Int32) (v3 : Int32) (v5 : Int32) (k1 : Int32) (k2 : Int32) (glo_j : (Nat → Int32)) (ghi_j : (Nat → Int32)) (z4 : Option Value), M_bounds_j93 v1 v2 v3 v5 k1 k2 glo_j ghi_j = some x → sxWP sc cl Q 170 (93, [some (.ref 59), some (.int v1), some (.int v2), some (.int v3), z4, some (.int v5)], [.int k2, .int k1, .ref 73], (cW nw kp im ol sn sr tp (mW mk (mg.1, mg.2.1, mg.2.2.1, mg.2.2.2.1, mg.2.2.2.2.1, mg.2.2.2.2.2.1, mg.2.2.2.2.2.2.1, mg.2.2.2.2.2.2.2.1, mg.2.2.2.2.2.2.2.2.1, glo_j, ghi_j, mg.2.2.2.2.2.2.2.2.2.2.2.1, mg.2.2.2.2.2.2.2.2.2.2.2.2) mt mc T)), 0, 0) := by
    intro v2 v3 v5 k1 k2 glo_j ghi_j z4 hf
    unfold M_bounds_j93 at hf
    obtain ⟨g2, hf⟩ := grd_e hf
    refine stp hm 1 (And.intro (gi_in g2) (?_ : sxWP sc cl Q 170 (94, [some (.ref 59), some (.int v1), some (.int v2), some (.int v3), z4, some (.int v5)], [], (cW nw kp im ol sn sr tp (mW mk (mg.1, mg.2.1, mg.2.2.1, mg.2.2.2.1, mg.2.2.2.2.1, mg.2.2.2.2.2.1, mg.2.2.2.2.2.2.1, mg.2.2.2.2.2.2.2.1, mg.2.2.2.2.2.2.2.2.1, upd glo_j k1.toNatClampNeg k2, ghi_j, mg.2.2.2.2.2.2.2.2.2.2.2.1, mg.2.2.2.2.2.2.2.2.2.2.2.2) mt mc T)), 0, 0)))
    refine stp hm 5 (brn hf (fun c3 hf => ?_) (fun c3 hf => ?_))
    · show sxWP sc cl Q 170 (114, [some (.ref 59), some (.int v1), some (.int v2), some (.int v3), z4, some (.int v5)], [.int v1, .ref 74], (cW nw kp im ol sn sr tp (mW mk (mg.1, mg.2.1, mg.2.2.1, mg.2.2.2.1, mg.2.2.2.2.1, mg.2.2.2.2.2.1, mg.2.2.2.2.2.2.1, mg.2.2.2.2.2.2.2.1, mg.2.2.2.2.2.2.2.2.1, upd glo_j k1.toNatClampNeg k2, ghi_j, mg.2.2.2.2.2.2.2.2.2.2.2.1, mg.2.2.2.2.2.2.2.2.2.2.2.2) mt mc T)), 0, 0)
      exact J114 _ _ _ _ _ _ _ hf
    · show sxWP sc cl Q 170 (103, [some (.ref 59), some (.int v1), some (.int v2), some (.int v3), z4, some (.int v5)], [.int v1, .ref 74], (cW nw kp im ol sn sr tp (mW mk (mg.1, mg.2.1, mg.2.2.1, mg.2.2.2.1, mg.2.2.2.2.1, mg.2.2.2.2.2.1, mg.2.2.2.2.2.2.1, mg.2.2.2.2.2.2.2.1, mg.2.2.2.2.2.2.2.2.1, upd glo_j k1.toNatClampNeg k2, ghi_j, mg.2.2.2.2.2.2.2.2.2.2.2.1, mg.2.2.2.2.2.2.2.2.2.2.2.2) mt mc T)), 0, 0)
      obtain ⟨g4, hf⟩ := grd_e hf
      refine stp hm 5 (And.intro (gi_in g4) (?_ : sxWP sc cl Q 170 (111, [some (.ref 59), some (.int v1), some (.int v2), some (.int v3), z4, some (.int v5)], [.int (ghi_j v1.toNatClampNeg), .int v5, .int v1, .ref 74], (cW nw kp im ol sn sr tp (mW mk (mg.1, mg.2.1, mg.2.2.1, mg.2.2.2.1, mg.2.2.2.2.1, mg.2.2.2.2.2.1, mg.2.2.2.2.2.2.1, mg.2.2.2.2.2.2.2.1, mg.2.2.2.2.2.2.2.2.1, upd glo_j k1.toNatClampNeg k2, ghi_j, mg.2.2.2.2.2.2.2.2.2.2.2.1, mg.2.2.2.2.2.2.2.2.2.2.2.2) mt mc T)), 0, 0)))
      refine stp hm 1 (br hf (fun c5 hf => ?_) (fun c5 hf => ?_))
      · show sxWP sc cl Q 170 (119, [some (.ref 59), some (.int v1), some (.int v2), some (.int v3), z4, some (.int v5)], [.int v1, .ref 74], (cW nw kp im ol sn sr tp (mW mk (mg.1, mg.2.1, mg.2.2.1, mg.2.2.2.1, mg.2.2.2.2.1, mg.2.2.2.2.2.1, mg.2.2.2.2.2.2.1, mg.2.2.2.2.2.2.2.1, mg.2.2.2.2.2.2.2.2.1, upd glo_j k1.toNatClampNeg k2, ghi_j, mg.2.2.2.2.2.2.2.2.2.2.2.1, mg.2.2.2.2.2.2.2.2.2.2.2.2) mt mc T)), 0, 0)
        obtain ⟨g6, hf⟩ := grd_e hf
        refine stp hm 4 (And.intro (gi_in g6) (?_ : sxWP sc cl Q 170 (125, [some (.ref 59), some (.int v1), some (.int v2), some (.int v3), z4, some (.int v5)], [.int (ghi_j v1.toNatClampNeg), .int v1, .ref 74], (cW nw kp im ol sn sr tp (mW mk (mg.1, mg.2.1, mg.2.2.1, mg.2.2.2.1, mg.2.2.2.2.1, mg.2.2.2.2.2.1, mg.2.2.2.2.2.2.1, mg.2.2.2.2.2.2.2.1, mg.2.2.2.2.2.2.2.2.1, upd glo_j k1.toNatClampNeg k2, ghi_j, mg.2.2.2.2.2.2.2.2.2.2.2.1, mg.2.2.2.2.2.2.2.2.2.2.2.2) mt mc T)), 0, 0)))
        exact J125 _ _ _ _ _ _ _ _ hf
      · show sxWP sc cl Q 170 (114, [some (.ref 59), some (.int v1), some (.int v2), some (.int v3), z4, some (.int v5)], [.int v1, .ref 74], (cW nw kp im ol sn sr tp (mW mk (mg.1, mg.2.1, mg.2.2.1, mg.2.2.2.1, mg.2.2.2.2.1, mg.2.2.2.2.2.1, mg.2.2.2.2.2.2.1, mg.2.2.2.2.2.2.2.1, mg.2.2.2.2.2.2.2.2.1, upd glo_j k1.toNatClampNeg k2, ghi_j, mg.2.2.2.2.2.2.2.2.2.2.2.1, mg.2.2.2.2.2.2.2.2.2.2.2.2) mt mc T)), 0, 0)
        exact J114 _ _ _ _ _ _ _ hf
  have J82 : ∀ (v2 : Int32) (v3 : Int32) (v4 : Int32) (v5 : Int32) (k1 : Int32) (glo_j : (Nat → Int32)) (ghi_j : (Nat → Int32)), M_bounds_j82 v1 v2 v3 v4 v5 k1 glo_j ghi_j = some x → sxWP sc cl Q 170 (82, [some (.ref 59), some (.int v1), some (.int v2), some (.int v3), some (.int v4), some (.int v5)], [.int k1, .ref 73], (cW nw kp im ol sn sr tp (mW mk (mg.1, mg.2.1, mg.2.2.1, mg.2.2.2.1, mg.2.2.2.2.1, mg.2.2.2.2.2.1, mg.2.2.2.2.2.2.1, mg.2.2.2.2.2.2.2.1, mg.2.2.2.2.2.2.2.2.1, glo_j, ghi_j, mg.2.2.2.2.2.2.2.2.2.2.2.1, mg.2.2.2.2.2.2.2.2.2.2.2.2) mt mc T)), 0, 0) := by
    intro v2 v3 v4 v5 k1 glo_j ghi_j hf
    unfold M_bounds_j82 at hf
    refine stp hm 2 (?_ : sxWP sc cl Q 170 (93, [some (.ref 59), some (.int v1), some (.int v2), some (.int v3), some (.int v4), some (.int v5)], [.int v4, .int k1, .ref 73], (cW nw kp im ol sn sr tp (mW mk (mg.1, mg.2.1, mg.2.2.1, mg.2.2.2.1, mg.2.2.2.2.1, mg.2.2.2.2.2.1, mg.2.2.2.2.2.2.1, mg.2.2.2.2.2.2.2.1, mg.2.2.2.2.2.2.2.2.1, glo_j, ghi_j, mg.2.2.2.2.2.2.2.2.2.2.2.1, mg.2.2.2.2.2.2.2.2.2.2.2.2) mt mc T)), 0, 0))
    exact J93 _ _ _ _ _ _ _ _ hf
  unfold M_bounds_s4 at hf
  refine stp hm 3 (br hf (fun c7 hf => ?_) (fun c7 hf => ?_))
  · show sxWP sc cl Q 170 (134, [some (.ref 59), some (.int v1), some (.int s.1), some (.int s.2.1), z4, z5], [], (cW nw kp im ol sn sr tp (mW mk (mg.1, mg.2.1, mg.2.2.1, mg.2.2.2.1, mg.2.2.2.2.1, mg.2.2.2.2.2.1, mg.2.2.2.2.2.2.1, mg.2.2.2.2.2.2.2.1, mg.2.2.2.2.2.2.2.2.1, s.2.2.1, s.2.2.2, mg.2.2.2.2.2.2.2.2.2.2.2.1, mg.2.2.2.2.2.2.2.2.2.2.2.2) mt mc T)), 0, 0)
    obtain rfl := Option.some.inj hf
    exact hB _ rfl _ _ _ _ _ _
  · show sxWP sc cl Q 170 (10, [some (.ref 59), some (.int v1), some (.int s.1), some (.int s.2.1), z4, z5], [], (cW nw kp im ol sn sr tp (mW mk (mg.1, mg.2.1, mg.2.2.1, mg.2.2.2.1, mg.2.2.2.2.1, mg.2.2.2.2.2.1, mg.2.2.2.2.2.2.1, mg.2.2.2.2.2.2.2.1, mg.2.2.2.2.2.2.2.2.1, s.2.2.1, s.2.2.2, mg.2.2.2.2.2.2.2.2.2.2.2.1, mg.2.2.2.2.2.2.2.2.2.2.2.2) mt mc T)), 0, 0)
    obtain ⟨g8, hf⟩ := grd_e hf
    refine stp hm 4 (And.intro (gi_in g8) (?_ : sxWP sc cl Q 170 (16, [some (.ref 59), some (.int v1), some (.int s.1), some (.int s.2.1), z4, z5], [.int (mg.2.2.2.2.2.2.1 s.2.1.toNatClampNeg)], (cW nw kp im ol sn sr tp (mW mk (mg.1, mg.2.1, mg.2.2.1, mg.2.2.2.1, mg.2.2.2.2.1, mg.2.2.2.2.2.1, mg.2.2.2.2.2.2.1, mg.2.2.2.2.2.2.2.1, mg.2.2.2.2.2.2.2.2.1, s.2.2.1, s.2.2.2, mg.2.2.2.2.2.2.2.2.2.2.2.1, mg.2.2.2.2.2.2.2.2.2.2.2.2) mt mc T)), 0, 0)))
    refine stp hm 1 (brn hf (fun c9 hf => ?_) (fun c9 hf => ?_))
    · show sxWP sc cl Q 170 (22, [some (.ref 59), some (.int v1), some (.int s.1), some (.int s.2.1), z4, z5], [], (cW nw kp im ol sn sr tp (mW mk (mg.1, mg.2.1, mg.2.2.1, mg.2.2.2.1, mg.2.2.2.2.1, mg.2.2.2.2.2.1, mg.2.2.2.2.2.2.1, mg.2.2.2.2.2.2.2.1, mg.2.2.2.2.2.2.2.2.1, s.2.2.1, s.2.2.2, mg.2.2.2.2.2.2.2.2.2.2.2.1, mg.2.2.2.2.2.2.2.2.2.2.2.2) mt mc T)), 0, 0)
      obtain ⟨g10, hf⟩ := grd_e hf
      refine stp hm 4 (And.intro (gi_in g10) (?_ : sxWP sc cl Q 170 (28, [some (.ref 59), some (.int v1), some (.int s.1), some (.int s.2.1), z4, z5], [.int (mg.2.2.2.2.2.1 s.2.1.toNatClampNeg)], (cW nw kp im ol sn sr tp (mW mk (mg.1, mg.2.1, mg.2.2.1, mg.2.2.2.1, mg.2.2.2.2.1, mg.2.2.2.2.2.1, mg.2.2.2.2.2.2.1, mg.2.2.2.2.2.2.2.1, mg.2.2.2.2.2.2.2.2.1, s.2.2.1, s.2.2.2, mg.2.2.2.2.2.2.2.2.2.2.2.1, mg.2.2.2.2.2.2.2.2.2.2.2.2) mt mc T)), 0, 0)))
      obtain ⟨g11, hf⟩ := grd_e hf
      refine stp hm 8 (And.intro (gi_in g11) (?_ : sxWP sc cl Q 170 (39, [some (.ref 59), some (.int v1), some (.int s.1), some (.int s.2.1), z4, z5], [.int (mg.2.2.2.2.2.2.2.1 (((49:Int32) * v1) + s.2.1).toNatClampNeg), .int (mg.2.2.2.2.2.1 s.2.1.toNatClampNeg)], (cW nw kp im ol sn sr tp (mW mk (mg.1, mg.2.1, mg.2.2.1, mg.2.2.2.1, mg.2.2.2.2.1, mg.2.2.2.2.2.1, mg.2.2.2.2.2.2.1, mg.2.2.2.2.2.2.2.1, mg.2.2.2.2.2.2.2.2.1, s.2.2.1, s.2.2.2, mg.2.2.2.2.2.2.2.2.2.2.2.1, mg.2.2.2.2.2.2.2.2.2.2.2.2) mt mc T)), 0, 0)))
      obtain ⟨g12, hf⟩ := grd_e hf
      refine stp hm 6 (And.intro (gi_in g12) (?_ : sxWP sc cl Q 170 (48, [some (.ref 59), some (.int v1), some (.int s.1), some (.int s.2.1), some (.int ((mg.2.2.2.2.2.1 s.2.1.toNatClampNeg) - (mg.2.2.2.2.2.2.2.1 (((49:Int32) * v1) + s.2.1).toNatClampNeg))), z5], [.int (mg.2.2.2.2.2.1 s.2.1.toNatClampNeg)], (cW nw kp im ol sn sr tp (mW mk (mg.1, mg.2.1, mg.2.2.1, mg.2.2.2.1, mg.2.2.2.2.1, mg.2.2.2.2.2.1, mg.2.2.2.2.2.2.1, mg.2.2.2.2.2.2.2.1, mg.2.2.2.2.2.2.2.2.1, s.2.2.1, s.2.2.2, mg.2.2.2.2.2.2.2.2.2.2.2.1, mg.2.2.2.2.2.2.2.2.2.2.2.2) mt mc T)), 0, 0)))
      obtain ⟨g13, hf⟩ := grd_e hf
      refine stp hm 8 (And.intro (gi_in g13) (?_ : sxWP sc cl Q 170 (59, [some (.ref 59), some (.int v1), some (.int s.1), some (.int s.2.1), some (.int ((mg.2.2.2.2.2.1 s.2.1.toNatClampNeg) - (mg.2.2.2.2.2.2.2.1 (((49:Int32) * v1) + s.2.1).toNatClampNeg))), z5], [.int (mg.2.2.2.2.2.2.2.1 (((49:Int32) * s.2.1) + v1).toNatClampNeg), .int (mg.2.2.2.2.2.1 s.2.1.toNatClampNeg)], (cW nw kp im ol sn sr tp (mW mk (mg.1, mg.2.1, mg.2.2.1, mg.2.2.2.1, mg.2.2.2.2.1, mg.2.2.2.2.2.1, mg.2.2.2.2.2.2.1, mg.2.2.2.2.2.2.2.1, mg.2.2.2.2.2.2.2.2.1, s.2.2.1, s.2.2.2, mg.2.2.2.2.2.2.2.2.2.2.2.1, mg.2.2.2.2.2.2.2.2.2.2.2.2) mt mc T)), 0, 0)))
      refine stp hm 7 (brn hf (fun c14 hf => ?_) (fun c14 hf => ?_))
      · show sxWP sc cl Q 170 (82, [some (.ref 59), some (.int v1), some (.int s.1), some (.int s.2.1), some (.int ((mg.2.2.2.2.2.1 s.2.1.toNatClampNeg) - (mg.2.2.2.2.2.2.2.1 (((49:Int32) * v1) + s.2.1).toNatClampNeg))), some (.int ((mg.2.2.2.2.2.1 s.2.1.toNatClampNeg) + (mg.2.2.2.2.2.2.2.1 (((49:Int32) * s.2.1) + v1).toNatClampNeg)))], [.int v1, .ref 73], (cW nw kp im ol sn sr tp (mW mk (mg.1, mg.2.1, mg.2.2.1, mg.2.2.2.1, mg.2.2.2.2.1, mg.2.2.2.2.2.1, mg.2.2.2.2.2.2.1, mg.2.2.2.2.2.2.2.1, mg.2.2.2.2.2.2.2.2.1, s.2.2.1, s.2.2.2, mg.2.2.2.2.2.2.2.2.2.2.2.1, mg.2.2.2.2.2.2.2.2.2.2.2.2) mt mc T)), 0, 0)
        exact J82 _ _ _ _ _ _ _ hf
      · show sxWP sc cl Q 170 (71, [some (.ref 59), some (.int v1), some (.int s.1), some (.int s.2.1), some (.int ((mg.2.2.2.2.2.1 s.2.1.toNatClampNeg) - (mg.2.2.2.2.2.2.2.1 (((49:Int32) * v1) + s.2.1).toNatClampNeg))), some (.int ((mg.2.2.2.2.2.1 s.2.1.toNatClampNeg) + (mg.2.2.2.2.2.2.2.1 (((49:Int32) * s.2.1) + v1).toNatClampNeg)))], [.int v1, .ref 73], (cW nw kp im ol sn sr tp (mW mk (mg.1, mg.2.1, mg.2.2.1, mg.2.2.2.1, mg.2.2.2.2.1, mg.2.2.2.2.2.1, mg.2.2.2.2.2.2.1, mg.2.2.2.2.2.2.2.1, mg.2.2.2.2.2.2.2.2.1, s.2.2.1, s.2.2.2, mg.2.2.2.2.2.2.2.2.2.2.2.1, mg.2.2.2.2.2.2.2.2.2.2.2.2) mt mc T)), 0, 0)
        obtain ⟨g15, hf⟩ := grd_e hf
        refine stp hm 5 (And.intro (gi_in g15) (?_ : sxWP sc cl Q 170 (79, [some (.ref 59), some (.int v1), some (.int s.1), some (.int s.2.1), some (.int ((mg.2.2.2.2.2.1 s.2.1.toNatClampNeg) - (mg.2.2.2.2.2.2.2.1 (((49:Int32) * v1) + s.2.1).toNatClampNeg))), some (.int ((mg.2.2.2.2.2.1 s.2.1.toNatClampNeg) + (mg.2.2.2.2.2.2.2.1 (((49:Int32) * s.2.1) + v1).toNatClampNeg)))], [.int (s.2.2.1 v1.toNatClampNeg), .int ((mg.2.2.2.2.2.1 s.2.1.toNatClampNeg) - (mg.2.2.2.2.2.2.2.1 (((49:Int32) * v1) + s.2.1).toNatClampNeg)), .int v1, .ref 73], (cW nw kp im ol sn sr tp (mW mk (mg.1, mg.2.1, mg.2.2.1, mg.2.2.2.1, mg.2.2.2.2.1, mg.2.2.2.2.2.1, mg.2.2.2.2.2.2.1, mg.2.2.2.2.2.2.2.1, mg.2.2.2.2.2.2.2.2.1, s.2.2.1, s.2.2.2, mg.2.2.2.2.2.2.2.2.2.2.2.1, mg.2.2.2.2.2.2.2.2.2.2.2.2) mt mc T)), 0, 0)))
        refine stp hm 1 (br hf (fun c16 hf => ?_) (fun c16 hf => ?_))
        · show sxWP sc cl Q 170 (87, [some (.ref 59), some (.int v1), some (.int s.1), some (.int s.2.1), some (.int ((mg.2.2.2.2.2.1 s.2.1.toNatClampNeg) - (mg.2.2.2.2.2.2.2.1 (((49:Int32) * v1) + s.2.1).toNatClampNeg))), some (.int ((mg.2.2.2.2.2.1 s.2.1.toNatClampNeg) + (mg.2.2.2.2.2.2.2.1 (((49:Int32) * s.2.1) + v1).toNatClampNeg)))], [.int v1, .ref 73], (cW nw kp im ol sn sr tp (mW mk (mg.1, mg.2.1, mg.2.2.1, mg.2.2.2.1, mg.2.2.2.2.1, mg.2.2.2.2.2.1, mg.2.2.2.2.2.2.1, mg.2.2.2.2.2.2.2.1, mg.2.2.2.2.2.2.2.2.1, s.2.2.1, s.2.2.2, mg.2.2.2.2.2.2.2.2.2.2.2.1, mg.2.2.2.2.2.2.2.2.2.2.2.2) mt mc T)), 0, 0)
          obtain ⟨g17, hf⟩ := grd_e hf
          refine stp hm 4 (And.intro (gi_in g17) (?_ : sxWP sc cl Q 170 (93, [some (.ref 59), some (.int v1), some (.int s.1), some (.int s.2.1), some (.int ((mg.2.2.2.2.2.1 s.2.1.toNatClampNeg) - (mg.2.2.2.2.2.2.2.1 (((49:Int32) * v1) + s.2.1).toNatClampNeg))), some (.int ((mg.2.2.2.2.2.1 s.2.1.toNatClampNeg) + (mg.2.2.2.2.2.2.2.1 (((49:Int32) * s.2.1) + v1).toNatClampNeg)))], [.int (s.2.2.1 v1.toNatClampNeg), .int v1, .ref 73], (cW nw kp im ol sn sr tp (mW mk (mg.1, mg.2.1, mg.2.2.1, mg.2.2.2.1, mg.2.2.2.2.1, mg.2.2.2.2.2.1, mg.2.2.2.2.2.2.1, mg.2.2.2.2.2.2.2.1, mg.2.2.2.2.2.2.2.2.1, s.2.2.1, s.2.2.2, mg.2.2.2.2.2.2.2.2.2.2.2.1, mg.2.2.2.2.2.2.2.2.2.2.2.2) mt mc T)), 0, 0)))
          exact J93 _ _ _ _ _ _ _ _ hf
        · show sxWP sc cl Q 170 (82, [some (.ref 59), some (.int v1), some (.int s.1), some (.int s.2.1), some (.int ((mg.2.2.2.2.2.1 s.2.1.toNatClampNeg) - (mg.2.2.2.2.2.2.2.1 (((49:Int32) * v1) + s.2.1).toNatClampNeg))), some (.int ((mg.2.2.2.2.2.1 s.2.1.toNatClampNeg) + (mg.2.2.2.2.2.2.2.1 (((49:Int32) * s.2.1) + v1).toNatClampNeg)))], [.int v1, .ref 73], (cW nw kp im ol sn sr tp (mW mk (mg.1, mg.2.1, mg.2.2.1, mg.2.2.2.1, mg.2.2.2.2.1, mg.2.2.2.2.2.1, mg.2.2.2.2.2.2.1, mg.2.2.2.2.2.2.2.1, mg.2.2.2.2.2.2.2.2.1, s.2.2.1, s.2.2.2, mg.2.2.2.2.2.2.2.2.2.2.2.1, mg.2.2.2.2.2.2.2.2.2.2.2.2) mt mc T)), 0, 0)
          exact J82 _ _ _ _ _ _ _ hf
    · show sxWP sc cl Q 170 (19, [some (.ref 59), some (.int v1), some (.int s.1), some (.int s.2.1), z4, z5], [], (cW nw kp im ol sn sr tp (mW mk (mg.1, mg.2.1, mg.2.2.1, mg.2.2.2.1, mg.2.2.2.2.1, mg.2.2.2.2.2.1, mg.2.2.2.2.2.2.1, mg.2.2.2.2.2.2.2.1, mg.2.2.2.2.2.2.2.2.1, s.2.2.1, s.2.2.2, mg.2.2.2.2.2.2.2.2.2.2.2.1, mg.2.2.2.2.2.2.2.2.2.2.2.2) mt mc T)), 0, 0)
      refine stp hm 1 (?_ : sxWP sc cl Q 170 (128, [some (.ref 59), some (.int v1), some (.int s.1), some (.int s.2.1), z4, z5], [], (cW nw kp im ol sn sr tp (mW mk (mg.1, mg.2.1, mg.2.2.1, mg.2.2.2.1, mg.2.2.2.2.1, mg.2.2.2.2.2.1, mg.2.2.2.2.2.2.1, mg.2.2.2.2.2.2.2.1, mg.2.2.2.2.2.2.2.2.1, s.2.2.1, s.2.2.2, mg.2.2.2.2.2.2.2.2.2.2.2.1, mg.2.2.2.2.2.2.2.2.2.2.2.2) mt mc T)), 0, 0))
      exact J128 _ _ _ _ _ _ hf
set_option maxRecDepth 10000 in
theorem M_bounds_ok {v1 : Int32} {q : ((Nat → Int32) × (Nat → Int32))} (hc : call = sxE sc (d + 1)) (hf : M_bounds v1 mg.2.2.2.2.2.1 mg.2.2.2.2.2.2.1 mg.2.2.2.2.2.2.2.1 mg.2.2.2.2.2.2.2.2.2.1 mg.2.2.2.2.2.2.2.2.2.2.1 = some q) (h : Q none (cW nw kp im ol sn sr tp (mW mk (mg.1, mg.2.1, mg.2.2.1, mg.2.2.2.1, mg.2.2.2.2.1, mg.2.2.2.2.2.1, mg.2.2.2.2.2.2.1, mg.2.2.2.2.2.2.2.1, mg.2.2.2.2.2.2.2.2.1, q.1, q.2, mg.2.2.2.2.2.2.2.2.2.2.2.1, mg.2.2.2.2.2.2.2.2.2.2.2.2) mt mc T))) : call 170 [.ref 59, .int v1] (cW nw kp im ol sn sr tp (mW mk mg mt mc T)) Q := by
  refine ent hc rfl (fun cl hE hm => ?_)
  unfold M_bounds at hf
  obtain ⟨w1, hw1, hf⟩ := bnd hf
  refine stp hm 4 (?_ : sxWP sc cl Q 170 (4, [some (.ref 59), some (.int v1), some (.int (1:Int32)), some (.int (0:Int32)), none, none], [], (cW nw kp im ol sn sr tp (mW mk mg mt mc T)), 0, 0))
  refine M_bounds_l4 hE hm _ _ _ hw1 ?_ _ _
  intro w1_z0 w1_z1 w1_z2 w1_z3 w1_z4 w1_z5
  show sxWP sc cl Q 170 (134, [w1_z0, w1_z1, w1_z2, w1_z3, w1_z4, w1_z5], [], (cW nw kp im ol sn sr tp (mW mk (mg.1, mg.2.1, mg.2.2.1, mg.2.2.2.1, mg.2.2.2.2.1, mg.2.2.2.2.2.1, mg.2.2.2.2.2.2.1, mg.2.2.2.2.2.2.2.1, mg.2.2.2.2.2.2.2.2.1, w1.1, w1.2, mg.2.2.2.2.2.2.2.2.2.2.2.1, mg.2.2.2.2.2.2.2.2.2.2.2.2) mt mc T)), 0, 0)
  obtain rfl := Option.some.inj hf
  refine stp hm 1 ?_
  exact h

def M_isTilable_s24   (mrg : Int64) (s : (Int32 × (Nat → Int32) × (Nat → Int32))) : Option ((Int32 × (Nat → Int32) × (Nat → Int32)) ⊕ ((Nat → Int32) × (Nat → Int32))) := if (49:Int32) ≤ s.1 then (some (Sum.inr (s.2.1, s.2.2))) else (Option.bind (M_goesFrom s.1 mrg s.2.1 s.2.2) (fun q2 => some (Sum.inl (s.1 + (1:Int32), q2.1, q2.2))))
def M_isTilable_j71  (v1 : Int32) (glo_j : (Nat → Int32)) (ghi_j : (Nat → Int32)) : Option ((Int32 × (Nat → Int32) × (Nat → Int32)) ⊕ ((Nat → Int32) × (Nat → Int32))) := some (Sum.inl (v1 + (1:Int32), glo_j, ghi_j))
def M_isTilable_s52   (mrg : Int64) (ghe : (Nat → Int32)) (gow : (Nat → Int32)) (gfa : (Nat → Int32)) (s : (Int32 × (Nat → Int32) × (Nat → Int32))) : Option ((Int32 × (Nat → Int32) × (Nat → Int32)) ⊕ ((Nat → Int32) × (Nat → Int32))) := if (49:Int32) ≤ s.1 then (some (Sum.inr (s.2.1, s.2.2))) else (if (M_isOf s.1 mrg) = (0:Int32) then (M_isTilable_j71 s.1 s.2.1 s.2.2) else (Option.bind (M_bounds s.1 ghe gow gfa s.2.1 s.2.2) (fun q3 => M_isTilable_j71 s.1 q3.1 q3.2)))
def M_isTilable  (mrg : Int64) (gle : Int32) (gsu : Int32) (gma : (Nat → Int32)) (gpi : (Nat → Int32)) (gst : (Nat → Int32)) (ghe : (Nat → Int32)) (gow : (Nat → Int32)) (gfa : (Nat → Int32)) (gqu : (Nat → Int32)) (glo : (Nat → Int32)) (ghi : (Nat → Int32)) : Option (Int32 × Int32 × Int32 × (Nat → Int32) × (Nat → Int32) × (Nat → Int32) × (Nat → Int32) × (Nat → Int32) × (Nat → Int32) × (Nat → Int32) × (Nat → Int32) × (Nat → Int32)) := Option.bind (M_isSimple mrg gma gpi) (fun q1 => if q1.1 = (0:Int32) then (some ((0:Int32), gle, gsu, q1.2.1, q1.2.2, gst, ghe, gow, gfa, gqu, glo, ghi)) else (Option.bind (M_writesWord mrg gst ghe gow) (fun q3 => if q3.2.1 = (0:Int32) then (Option.bind (wh (M_isTilable_s24 mrg) FU ((0:Int32), gfa, gqu)) (fun w5 => Option.bind (M_isLower q3.2.2.2.1 q3.2.2.2.2 w5.1) (fun q6 => if q6 = (0:Int32) then (some ((0:Int32), q3.1, q3.2.1, q1.2.1, q1.2.2, q3.2.2.1, q3.2.2.2.1, q3.2.2.2.2, w5.1, w5.2, glo, ghi)) else (Option.bind (wh (M_isTilable_s52 mrg q3.2.2.2.1 q3.2.2.2.2 w5.1) FU ((0:Int32), glo, ghi)) (fun w8 => some ((1:Int32), q3.1, q3.2.1, q1.2.1, q1.2.2, q3.2.2.1, q3.2.2.2.1, q3.2.2.2.2, w5.1, w5.2, w8.1, w8.2)))))) else (some ((0:Int32), q3.1, q3.2.1, q1.2.1, q1.2.2, q3.2.2.1, q3.2.2.2.1, q3.2.2.2.2, gfa, gqu, glo, ghi)))))
set_option maxRecDepth 10000 in
theorem M_isTilable_l24    (hE : cl = sxE sc (d + 5)) (hm : CallMono cl) : ∀ (n : Nat) (s : (Int32 × (Nat → Int32) × (Nat → Int32))) (r : ((Nat → Int32) × (Nat → Int32))), wh (M_isTilable_s24 mk.1) n s = some r → (∀ (z1 : Option Value), sxWP sc cl Q 171 (41, [some (.ref 59), z1], [], (cW nw kp im ol sn sr tp (mW mk (mg.1, mg.2.1, mg.2.2.1, mg.2.2.2.1, mg.2.2.2.2.1, mg.2.2.2.2.2.1, mg.2.2.2.2.2.2.1, r.1, r.2, mg.2.2.2.2.2.2.2.2.2.1, mg.2.2.2.2.2.2.2.2.2.2.1, mg.2.2.2.2.2.2.2.2.2.2.2.1, mg.2.2.2.2.2.2.2.2.2.2.2.2) mt mc T)), 0, 0)) → sxWP sc cl Q 171 (24, [some (.ref 59), some (.int s.1)], [], (cW nw kp im ol sn sr tp (mW mk (mg.1, mg.2.1, mg.2.2.1, mg.2.2.2.1, mg.2.2.2.2.1, mg.2.2.2.2.2.1, mg.2.2.2.2.2.2.1, s.2.1, s.2.2, mg.2.2.2.2.2.2.2.2.2.1, mg.2.2.2.2.2.2.2.2.2.2.1, mg.2.2.2.2.2.2.2.2.2.2.2.1, mg.2.2.2.2.2.2.2.2.2.2.2.2) mt mc T)), 0, 0) := by
  refine wh_run (A := fun (s : (Int32 × (Nat → Int32) × (Nat → Int32))) => sxWP sc cl Q 171 (24, [some (.ref 59), some (.int s.1)], [], (cW nw kp im ol sn sr tp (mW mk (mg.1, mg.2.1, mg.2.2.1, mg.2.2.2.1, mg.2.2.2.2.1, mg.2.2.2.2.2.1, mg.2.2.2.2.2.2.1, s.2.1, s.2.2, mg.2.2.2.2.2.2.2.2.2.1, mg.2.2.2.2.2.2.2.2.2.2.1, mg.2.2.2.2.2.2.2.2.2.2.2.1, mg.2.2.2.2.2.2.2.2.2.2.2.2) mt mc T)), 0, 0)) (B := fun (r : ((Nat → Int32) × (Nat → Int32))) => ∀ (z1 : Option Value), sxWP sc cl Q 171 (41, [some (.ref 59), z1], [], (cW nw kp im ol sn sr tp (mW mk (mg.1, mg.2.1, mg.2.2.1, mg.2.2.2.1, mg.2.2.2.2.1, mg.2.2.2.2.2.1, mg.2.2.2.2.2.2.1, r.1, r.2, mg.2.2.2.2.2.2.2.2.2.1, mg.2.2.2.2.2.2.2.2.2.2.1, mg.2.2.2.2.2.2.2.2.2.2.2.1, mg.2.2.2.2.2.2.2.2.2.2.2.2) mt mc T)), 0, 0)) (fun s x hf hA hB => ?_)
  unfold M_isTilable_s24 at hf
  refine stp hm 3 (br hf (fun c1 hf => ?_) (fun c1 hf => ?_))
  · show sxWP sc cl Q 171 (41, [some (.ref 59), some (.int s.1)], [], (cW nw kp im ol sn sr tp (mW mk (mg.1, mg.2.1, mg.2.2.1, mg.2.2.2.1, mg.2.2.2.2.1, mg.2.2.2.2.2.1, mg.2.2.2.2.2.2.1, s.2.1, s.2.2, mg.2.2.2.2.2.2.2.2.2.1, mg.2.2.2.2.2.2.2.2.2.2.1, mg.2.2.2.2.2.2.2.2.2.2.2.1, mg.2.2.2.2.2.2.2.2.2.2.2.2) mt mc T)), 0, 0)
    obtain rfl := Option.some.inj hf
    exact hB _ rfl _
  · show sxWP sc cl Q 171 (30, [some (.ref 59), some (.int s.1)], [], (cW nw kp im ol sn sr tp (mW mk (mg.1, mg.2.1, mg.2.2.1, mg.2.2.2.1, mg.2.2.2.2.1, mg.2.2.2.2.2.1, mg.2.2.2.2.2.2.1, s.2.1, s.2.2, mg.2.2.2.2.2.2.2.2.2.1, mg.2.2.2.2.2.2.2.2.2.2.1, mg.2.2.2.2.2.2.2.2.2.2.2.1, mg.2.2.2.2.2.2.2.2.2.2.2.2) mt mc T)), 0, 0)
    obtain ⟨q2, hq2, hf⟩ := bnd hf
    refine stp hm 3 (M_goesFrom_ok hE hq2 ?_)
    show sxWP sc cl Q 171 (35, [some (.ref 59), some (.int s.1)], [], (cW nw kp im ol sn sr tp (mW mk (mg.1, mg.2.1, mg.2.2.1, mg.2.2.2.1, mg.2.2.2.2.1, mg.2.2.2.2.2.1, mg.2.2.2.2.2.2.1, q2.1, q2.2, mg.2.2.2.2.2.2.2.2.2.1, mg.2.2.2.2.2.2.2.2.2.2.1, mg.2.2.2.2.2.2.2.2.2.2.2.1, mg.2.2.2.2.2.2.2.2.2.2.2.2) mt mc T)), 0, 0)
    obtain rfl := Option.some.inj hf
    refine stp hm 2 (?_ : sxWP sc cl Q 171 (24, [some (.ref 59), some (.int (s.1 + (1:Int32)))], [], (cW nw kp im ol sn sr tp (mW mk (mg.1, mg.2.1, mg.2.2.1, mg.2.2.2.1, mg.2.2.2.2.1, mg.2.2.2.2.2.1, mg.2.2.2.2.2.2.1, q2.1, q2.2, mg.2.2.2.2.2.2.2.2.2.1, mg.2.2.2.2.2.2.2.2.2.2.1, mg.2.2.2.2.2.2.2.2.2.2.2.1, mg.2.2.2.2.2.2.2.2.2.2.2.2) mt mc T)), 0, 0))
    exact hA _ rfl
set_option maxRecDepth 10000 in
theorem M_isTilable_l52    (hE : cl = sxE sc (d + 5)) (hm : CallMono cl) : ∀ (n : Nat) (s : (Int32 × (Nat → Int32) × (Nat → Int32))) (r : ((Nat → Int32) × (Nat → Int32))), wh (M_isTilable_s52 mk.1 mg.2.2.2.2.2.1 mg.2.2.2.2.2.2.1 mg.2.2.2.2.2.2.2.1) n s = some r → (∀ (z0 z1 : Option Value), sxWP sc cl Q 171 (77, [z0, z1], [], (cW nw kp im ol sn sr tp (mW mk (mg.1, mg.2.1, mg.2.2.1, mg.2.2.2.1, mg.2.2.2.2.1, mg.2.2.2.2.2.1, mg.2.2.2.2.2.2.1, mg.2.2.2.2.2.2.2.1, mg.2.2.2.2.2.2.2.2.1, r.1, r.2, mg.2.2.2.2.2.2.2.2.2.2.2.1, mg.2.2.2.2.2.2.2.2.2.2.2.2) mt mc T)), 0, 0)) → sxWP sc cl Q 171 (52, [some (.ref 59), some (.int s.1)], [], (cW nw kp im ol sn sr tp (mW mk (mg.1, mg.2.1, mg.2.2.1, mg.2.2.2.1, mg.2.2.2.2.1, mg.2.2.2.2.2.1, mg.2.2.2.2.2.2.1, mg.2.2.2.2.2.2.2.1, mg.2.2.2.2.2.2.2.2.1, s.2.1, s.2.2, mg.2.2.2.2.2.2.2.2.2.2.2.1, mg.2.2.2.2.2.2.2.2.2.2.2.2) mt mc T)), 0, 0) := by
  refine wh_run (A := fun (s : (Int32 × (Nat → Int32) × (Nat → Int32))) => sxWP sc cl Q 171 (52, [some (.ref 59), some (.int s.1)], [], (cW nw kp im ol sn sr tp (mW mk (mg.1, mg.2.1, mg.2.2.1, mg.2.2.2.1, mg.2.2.2.2.1, mg.2.2.2.2.2.1, mg.2.2.2.2.2.2.1, mg.2.2.2.2.2.2.2.1, mg.2.2.2.2.2.2.2.2.1, s.2.1, s.2.2, mg.2.2.2.2.2.2.2.2.2.2.2.1, mg.2.2.2.2.2.2.2.2.2.2.2.2) mt mc T)), 0, 0)) (B := fun (r : ((Nat → Int32) × (Nat → Int32))) => ∀ (z0 z1 : Option Value), sxWP sc cl Q 171 (77, [z0, z1], [], (cW nw kp im ol sn sr tp (mW mk (mg.1, mg.2.1, mg.2.2.1, mg.2.2.2.1, mg.2.2.2.2.1, mg.2.2.2.2.2.1, mg.2.2.2.2.2.2.1, mg.2.2.2.2.2.2.2.1, mg.2.2.2.2.2.2.2.2.1, r.1, r.2, mg.2.2.2.2.2.2.2.2.2.2.2.1, mg.2.2.2.2.2.2.2.2.2.2.2.2) mt mc T)), 0, 0)) (fun s x hf hA hB => ?_)
  have J71 : ∀ (v1 : Int32) (glo_j : (Nat → Int32)) (ghi_j : (Nat → Int32)), M_isTilable_j71 v1 glo_j ghi_j = some x → sxWP sc cl Q 171 (71, [some (.ref 59), some (.int v1)], [], (cW nw kp im ol sn sr tp (mW mk (mg.1, mg.2.1, mg.2.2.1, mg.2.2.2.1, mg.2.2.2.2.1, mg.2.2.2.2.2.1, mg.2.2.2.2.2.2.1, mg.2.2.2.2.2.2.2.1, mg.2.2.2.2.2.2.2.2.1, glo_j, ghi_j, mg.2.2.2.2.2.2.2.2.2.2.2.1, mg.2.2.2.2.2.2.2.2.2.2.2.2) mt mc T)), 0, 0) := by
    intro v1 glo_j ghi_j hf
    unfold M_isTilable_j71 at hf
    obtain rfl := Option.some.inj hf
    refine stp hm 2 (?_ : sxWP sc cl Q 171 (52, [some (.ref 59), some (.int (v1 + (1:Int32)))], [], (cW nw kp im ol sn sr tp (mW mk (mg.1, mg.2.1, mg.2.2.1, mg.2.2.2.1, mg.2.2.2.2.1, mg.2.2.2.2.2.1, mg.2.2.2.2.2.2.1, mg.2.2.2.2.2.2.2.1, mg.2.2.2.2.2.2.2.2.1, glo_j, ghi_j, mg.2.2.2.2.2.2.2.2.2.2.2.1, mg.2.2.2.2.2.2.2.2.2.2.2.2) mt mc T)), 0, 0))
    exact hA _ rfl
  unfold M_isTilable_s52 at hf
  refine stp hm 3 (br hf (fun c1 hf => ?_) (fun c1 hf => ?_))
  · show sxWP sc cl Q 171 (77, [some (.ref 59), some (.int s.1)], [], (cW nw kp im ol sn sr tp (mW mk (mg.1, mg.2.1, mg.2.2.1, mg.2.2.2.1, mg.2.2.2.2.1, mg.2.2.2.2.2.1, mg.2.2.2.2.2.2.1, mg.2.2.2.2.2.2.2.1, mg.2.2.2.2.2.2.2.2.1, s.2.1, s.2.2, mg.2.2.2.2.2.2.2.2.2.2.2.1, mg.2.2.2.2.2.2.2.2.2.2.2.2) mt mc T)), 0, 0)
    obtain rfl := Option.some.inj hf
    exact hB _ rfl _ _
  · show sxWP sc cl Q 171 (58, [some (.ref 59), some (.int s.1)], [], (cW nw kp im ol sn sr tp (mW mk (mg.1, mg.2.1, mg.2.2.1, mg.2.2.2.1, mg.2.2.2.2.1, mg.2.2.2.2.2.1, mg.2.2.2.2.2.2.1, mg.2.2.2.2.2.2.2.1, mg.2.2.2.2.2.2.2.2.1, s.2.1, s.2.2, mg.2.2.2.2.2.2.2.2.2.2.2.1, mg.2.2.2.2.2.2.2.2.2.2.2.2) mt mc T)), 0, 0)
    refine stp hm 3 (M_isOf_ok hE rfl ?_)
    show sxWP sc cl Q 171 (63, [some (.ref 59), some (.int s.1)], [.int (M_isOf s.1 mk.1)], (cW nw kp im ol sn sr tp (mW mk (mg.1, mg.2.1, mg.2.2.1, mg.2.2.2.1, mg.2.2.2.2.1, mg.2.2.2.2.2.1, mg.2.2.2.2.2.2.1, mg.2.2.2.2.2.2.2.1, mg.2.2.2.2.2.2.2.2.1, s.2.1, s.2.2, mg.2.2.2.2.2.2.2.2.2.2.2.1, mg.2.2.2.2.2.2.2.2.2.2.2.2) mt mc T)), 0, 0)
    refine stp hm 1 (br hf (fun c2 hf => ?_) (fun c2 hf => ?_))
    · show sxWP sc cl Q 171 (71, [some (.ref 59), some (.int s.1)], [], (cW nw kp im ol sn sr tp (mW mk (mg.1, mg.2.1, mg.2.2.1, mg.2.2.2.1, mg.2.2.2.2.1, mg.2.2.2.2.2.1, mg.2.2.2.2.2.2.1, mg.2.2.2.2.2.2.2.1, mg.2.2.2.2.2.2.2.2.1, s.2.1, s.2.2, mg.2.2.2.2.2.2.2.2.2.2.2.1, mg.2.2.2.2.2.2.2.2.2.2.2.2) mt mc T)), 0, 0)
      exact J71 _ _ _ hf
    · show sxWP sc cl Q 171 (66, [some (.ref 59), some (.int s.1)], [], (cW nw kp im ol sn sr tp (mW mk (mg.1, mg.2.1, mg.2.2.1, mg.2.2.2.1, mg.2.2.2.2.1, mg.2.2.2.2.2.1, mg.2.2.2.2.2.2.1, mg.2.2.2.2.2.2.2.1, mg.2.2.2.2.2.2.2.2.1, s.2.1, s.2.2, mg.2.2.2.2.2.2.2.2.2.2.2.1, mg.2.2.2.2.2.2.2.2.2.2.2.2) mt mc T)), 0, 0)
      obtain ⟨q3, hq3, hf⟩ := bnd hf
      refine stp hm 3 (M_bounds_ok hE hq3 ?_)
      show sxWP sc cl Q 171 (71, [some (.ref 59), some (.int s.1)], [], (cW nw kp im ol sn sr tp (mW mk (mg.1, mg.2.1, mg.2.2.1, mg.2.2.2.1, mg.2.2.2.2.1, mg.2.2.2.2.2.1, mg.2.2.2.2.2.2.1, mg.2.2.2.2.2.2.2.1, mg.2.2.2.2.2.2.2.2.1, q3.1, q3.2, mg.2.2.2.2.2.2.2.2.2.2.2.1, mg.2.2.2.2.2.2.2.2.2.2.2.2) mt mc T)), 0, 0)
      exact J71 _ _ _ hf
set_option maxRecDepth 10000 in
theorem M_isTilable_ok  {q : (Int32 × Int32 × Int32 × (Nat → Int32) × (Nat → Int32) × (Nat → Int32) × (Nat → Int32) × (Nat → Int32) × (Nat → Int32) × (Nat → Int32) × (Nat → Int32) × (Nat → Int32))} (hc : call = sxE sc (d + 6)) (hf : M_isTilable mk.1 mg.2.2.1 mg.2.2.2.1 mg.1 mg.2.1 mg.2.2.2.2.1 mg.2.2.2.2.2.1 mg.2.2.2.2.2.2.1 mg.2.2.2.2.2.2.2.1 mg.2.2.2.2.2.2.2.2.1 mg.2.2.2.2.2.2.2.2.2.1 mg.2.2.2.2.2.2.2.2.2.2.1 = some q) (h : Q (some (.int q.1)) (cW nw kp im ol sn sr tp (mW mk (q.2.2.2.1, q.2.2.2.2.1, q.2.1, q.2.2.1, q.2.2.2.2.2.1, q.2.2.2.2.2.2.1, q.2.2.2.2.2.2.2.1, q.2.2.2.2.2.2.2.2.1, q.2.2.2.2.2.2.2.2.2.1, q.2.2.2.2.2.2.2.2.2.2.1, q.2.2.2.2.2.2.2.2.2.2.2, mg.2.2.2.2.2.2.2.2.2.2.2.1, mg.2.2.2.2.2.2.2.2.2.2.2.2) mt mc T))) : call 171 [.ref 59] (cW nw kp im ol sn sr tp (mW mk mg mt mc T)) Q := by
  refine ent hc rfl (fun cl hE hm => ?_)
  unfold M_isTilable at hf
  obtain ⟨q1, hq1, hf⟩ := bnd hf
  refine stp hm 2 (M_isSimple_ok hE hq1 ?_)
  show sxWP sc cl Q 171 (4, [some (.ref 59), none], [.int q1.1], (cW nw kp im ol sn sr tp (mW mk (q1.2.1, q1.2.2, mg.2.2.1, mg.2.2.2.1, mg.2.2.2.2.1, mg.2.2.2.2.2.1, mg.2.2.2.2.2.2.1, mg.2.2.2.2.2.2.2.1, mg.2.2.2.2.2.2.2.2.1, mg.2.2.2.2.2.2.2.2.2.1, mg.2.2.2.2.2.2.2.2.2.2.1, mg.2.2.2.2.2.2.2.2.2.2.2.1, mg.2.2.2.2.2.2.2.2.2.2.2.2) mt mc T)), 0, 0)
  refine stp hm 1 (brn hf (fun c2 hf => ?_) (fun c2 hf => ?_))
  · show sxWP sc cl Q 171 (9, [some (.ref 59), none], [], (cW nw kp im ol sn sr tp (mW mk (q1.2.1, q1.2.2, mg.2.2.1, mg.2.2.2.1, mg.2.2.2.2.1, mg.2.2.2.2.2.1, mg.2.2.2.2.2.2.1, mg.2.2.2.2.2.2.2.1, mg.2.2.2.2.2.2.2.2.1, mg.2.2.2.2.2.2.2.2.2.1, mg.2.2.2.2.2.2.2.2.2.2.1, mg.2.2.2.2.2.2.2.2.2.2.2.1, mg.2.2.2.2.2.2.2.2.2.2.2.2) mt mc T)), 0, 0)
    obtain ⟨q3, hq3, hf⟩ := bnd hf
    refine stp hm 2 (M_writesWord_ok hE hq3 ?_)
    show sxWP sc cl Q 171 (13, [some (.ref 59), none], [], (cW nw kp im ol sn sr tp (mW mk (q1.2.1, q1.2.2, q3.1, q3.2.1, q3.2.2.1, q3.2.2.2.1, q3.2.2.2.2, mg.2.2.2.2.2.2.2.1, mg.2.2.2.2.2.2.2.2.1, mg.2.2.2.2.2.2.2.2.2.1, mg.2.2.2.2.2.2.2.2.2.2.1, mg.2.2.2.2.2.2.2.2.2.2.2.1, mg.2.2.2.2.2.2.2.2.2.2.2.2) mt mc T)), 0, 0)
    refine stp hm 3 (br hf (fun c4 hf => ?_) (fun c4 hf => ?_))
    · show sxWP sc cl Q 171 (22, [some (.ref 59), none], [], (cW nw kp im ol sn sr tp (mW mk (q1.2.1, q1.2.2, q3.1, q3.2.1, q3.2.2.1, q3.2.2.2.1, q3.2.2.2.2, mg.2.2.2.2.2.2.2.1, mg.2.2.2.2.2.2.2.2.1, mg.2.2.2.2.2.2.2.2.2.1, mg.2.2.2.2.2.2.2.2.2.2.1, mg.2.2.2.2.2.2.2.2.2.2.2.1, mg.2.2.2.2.2.2.2.2.2.2.2.2) mt mc T)), 0, 0)
      obtain ⟨w5, hw5, hf⟩ := bnd hf
      refine stp hm 2 (?_ : sxWP sc cl Q 171 (24, [some (.ref 59), some (.int (0:Int32))], [], (cW nw kp im ol sn sr tp (mW mk (q1.2.1, q1.2.2, q3.1, q3.2.1, q3.2.2.1, q3.2.2.2.1, q3.2.2.2.2, mg.2.2.2.2.2.2.2.1, mg.2.2.2.2.2.2.2.2.1, mg.2.2.2.2.2.2.2.2.2.1, mg.2.2.2.2.2.2.2.2.2.2.1, mg.2.2.2.2.2.2.2.2.2.2.2.1, mg.2.2.2.2.2.2.2.2.2.2.2.2) mt mc T)), 0, 0))
      refine M_isTilable_l24 hE hm _ _ _ hw5 ?_
      intro w5_z1
      show sxWP sc cl Q 171 (41, [some (.ref 59), w5_z1], [], (cW nw kp im ol sn sr tp (mW mk (q1.2.1, q1.2.2, q3.1, q3.2.1, q3.2.2.1, q3.2.2.2.1, q3.2.2.2.2, w5.1, w5.2, mg.2.2.2.2.2.2.2.2.2.1, mg.2.2.2.2.2.2.2.2.2.2.1, mg.2.2.2.2.2.2.2.2.2.2.2.1, mg.2.2.2.2.2.2.2.2.2.2.2.2) mt mc T)), 0, 0)
      obtain ⟨q6, hq6, hf⟩ := bnd hf
      refine stp hm 2 (M_isLower_ok hE hq6 ?_)
      show sxWP sc cl Q 171 (45, [some (.ref 59), w5_z1], [.int q6], (cW nw kp im ol sn sr tp (mW mk (q1.2.1, q1.2.2, q3.1, q3.2.1, q3.2.2.1, q3.2.2.2.1, q3.2.2.2.2, w5.1, w5.2, mg.2.2.2.2.2.2.2.2.2.1, mg.2.2.2.2.2.2.2.2.2.2.1, mg.2.2.2.2.2.2.2.2.2.2.2.1, mg.2.2.2.2.2.2.2.2.2.2.2.2) mt mc T)), 0, 0)
      refine stp hm 1 (brn hf (fun c7 hf => ?_) (fun c7 hf => ?_))
      · show sxWP sc cl Q 171 (50, [some (.ref 59), w5_z1], [], (cW nw kp im ol sn sr tp (mW mk (q1.2.1, q1.2.2, q3.1, q3.2.1, q3.2.2.1, q3.2.2.2.1, q3.2.2.2.2, w5.1, w5.2, mg.2.2.2.2.2.2.2.2.2.1, mg.2.2.2.2.2.2.2.2.2.2.1, mg.2.2.2.2.2.2.2.2.2.2.2.1, mg.2.2.2.2.2.2.2.2.2.2.2.2) mt mc T)), 0, 0)
        obtain ⟨w8, hw8, hf⟩ := bnd hf
        refine stp hm 2 (?_ : sxWP sc cl Q 171 (52, [some (.ref 59), some (.int (0:Int32))], [], (cW nw kp im ol sn sr tp (mW mk (q1.2.1, q1.2.2, q3.1, q3.2.1, q3.2.2.1, q3.2.2.2.1, q3.2.2.2.2, w5.1, w5.2, mg.2.2.2.2.2.2.2.2.2.1, mg.2.2.2.2.2.2.2.2.2.2.1, mg.2.2.2.2.2.2.2.2.2.2.2.1, mg.2.2.2.2.2.2.2.2.2.2.2.2) mt mc T)), 0, 0))
        refine M_isTilable_l52 hE hm _ _ _ hw8 ?_
        intro w8_z0 w8_z1
        show sxWP sc cl Q 171 (77, [w8_z0, w8_z1], [], (cW nw kp im ol sn sr tp (mW mk (q1.2.1, q1.2.2, q3.1, q3.2.1, q3.2.2.1, q3.2.2.2.1, q3.2.2.2.2, w5.1, w5.2, w8.1, w8.2, mg.2.2.2.2.2.2.2.2.2.2.2.1, mg.2.2.2.2.2.2.2.2.2.2.2.2) mt mc T)), 0, 0)
        obtain rfl := Option.some.inj hf
        refine stp hm 2 (And.intro (Or.inr rfl) ?_)
        exact h
      · show sxWP sc cl Q 171 (48, [some (.ref 59), w5_z1], [], (cW nw kp im ol sn sr tp (mW mk (q1.2.1, q1.2.2, q3.1, q3.2.1, q3.2.2.1, q3.2.2.2.1, q3.2.2.2.2, w5.1, w5.2, mg.2.2.2.2.2.2.2.2.2.1, mg.2.2.2.2.2.2.2.2.2.2.1, mg.2.2.2.2.2.2.2.2.2.2.2.1, mg.2.2.2.2.2.2.2.2.2.2.2.2) mt mc T)), 0, 0)
        obtain rfl := Option.some.inj hf
        refine stp hm 2 (And.intro (Or.inl rfl) ?_)
        exact h
    · show sxWP sc cl Q 171 (20, [some (.ref 59), none], [], (cW nw kp im ol sn sr tp (mW mk (q1.2.1, q1.2.2, q3.1, q3.2.1, q3.2.2.1, q3.2.2.2.1, q3.2.2.2.2, mg.2.2.2.2.2.2.2.1, mg.2.2.2.2.2.2.2.2.1, mg.2.2.2.2.2.2.2.2.2.1, mg.2.2.2.2.2.2.2.2.2.2.1, mg.2.2.2.2.2.2.2.2.2.2.2.1, mg.2.2.2.2.2.2.2.2.2.2.2.2) mt mc T)), 0, 0)
      obtain rfl := Option.some.inj hf
      refine stp hm 2 (And.intro (Or.inl rfl) ?_)
      exact h
  · show sxWP sc cl Q 171 (7, [some (.ref 59), none], [], (cW nw kp im ol sn sr tp (mW mk (q1.2.1, q1.2.2, mg.2.2.1, mg.2.2.2.1, mg.2.2.2.2.1, mg.2.2.2.2.2.1, mg.2.2.2.2.2.2.1, mg.2.2.2.2.2.2.2.1, mg.2.2.2.2.2.2.2.2.1, mg.2.2.2.2.2.2.2.2.2.1, mg.2.2.2.2.2.2.2.2.2.2.1, mg.2.2.2.2.2.2.2.2.2.2.2.1, mg.2.2.2.2.2.2.2.2.2.2.2.2) mt mc T)), 0, 0)
    obtain rfl := Option.some.inj hf
    refine stp hm 2 (And.intro (Or.inl rfl) ?_)
    exact h

def M_isTwo_j90  (k0 : Int32) : Option Int32 := some (if k0 = (3:Int32) then (1:Int32) else (if k0 = (-3:Int32) then (1:Int32) else (0:Int32)))
def M_isTwo_j16   : Option Int32 := some (0:Int32)
def M_isTwo (v1 : Int32) (v2 : Int32) (v3 : Int32) (mrg : Int64) (glo : (Nat → Int32)) (ghi : (Nat → Int32)) : Option Int32 := if (M_has v1 mrg) = (0:Int32) then M_isTwo_j16 else (if (M_has v2 mrg) = (0:Int32) then M_isTwo_j16 else (if v3 = (0:Int32) then (grd (gi (((7:Int32) * (v2 / (6:Int32))) + (v2 - v2 / (6:Int32) * (6:Int32))) 49) (grd (gi (if v2 = (v1 + (1:Int32)) then ((((7:Int32) * (v2 / (6:Int32))) + (v2 - v2 / (6:Int32) * (6:Int32))) + (7:Int32)) else ((((7:Int32) * (v2 / (6:Int32))) + (v2 - v2 / (6:Int32) * (6:Int32))) + (1:Int32))) 49) (M_isTwo_j90 ((glo (((7:Int32) * (v2 / (6:Int32))) + (v2 - v2 / (6:Int32) * (6:Int32))).toNatClampNeg) - (glo (if v2 = (v1 + (1:Int32)) then ((((7:Int32) * (v2 / (6:Int32))) + (v2 - v2 / (6:Int32) * (6:Int32))) + (7:Int32)) else ((((7:Int32) * (v2 / (6:Int32))) + (v2 - v2 / (6:Int32) * (6:Int32))) + (1:Int32))).toNatClampNeg))))) else (grd (gi (((7:Int32) * (v2 / (6:Int32))) + (v2 - v2 / (6:Int32) * (6:Int32))) 49) (grd (gi (if v2 = (v1 + (1:Int32)) then ((((7:Int32) * (v2 / (6:Int32))) + (v2 - v2 / (6:Int32) * (6:Int32))) + (7:Int32)) else ((((7:Int32) * (v2 / (6:Int32))) + (v2 - v2 / (6:Int32) * (6:Int32))) + (1:Int32))) 49) (M_isTwo_j90 ((ghi (((7:Int32) * (v2 / (6:Int32))) + (v2 - v2 / (6:Int32) * (6:Int32))).toNatClampNeg) - (ghi (if v2 = (v1 + (1:Int32)) then ((((7:Int32) * (v2 / (6:Int32))) + (v2 - v2 / (6:Int32) * (6:Int32))) + (7:Int32)) else ((((7:Int32) * (v2 / (6:Int32))) + (v2 - v2 / (6:Int32) * (6:Int32))) + (1:Int32))).toNatClampNeg)))))))
set_option maxRecDepth 10000 in
theorem M_isTwo_ok {v1 : Int32} {v2 : Int32} {v3 : Int32} {q : Int32} (hc : call = sxE sc (d + 2)) (hf : M_isTwo v1 v2 v3 mk.1 mg.2.2.2.2.2.2.2.2.2.1 mg.2.2.2.2.2.2.2.2.2.2.1 = some q) (h : Q (some (.int q)) (cW nw kp im ol sn sr tp (mW mk mg mt mc T))) : call 172 [.ref 59, .int v1, .int v2, .int v3] (cW nw kp im ol sn sr tp (mW mk mg mt mc T)) Q := by
  refine ent hc rfl (fun cl hE hm => ?_)
  have J90 : ∀ (k0 : Int32) (z0 : Option Value) (z1 : Option Value) (z2 : Option Value) (z3 : Option Value) (z4 : Option Value) (z5 : Option Value) (z6 : Option Value), M_isTwo_j90 k0 = some q → sxWP sc cl Q 172 (90, [z0, z1, z2, z3, z4, z5, z6], [.int k0], (cW nw kp im ol sn sr tp (mW mk mg mt mc T)), 0, 0) := by
    intro k0 z0 z1 z2 z3 z4 z5 z6 hf
    unfold M_isTwo_j90 at hf
    have m1 : ∀ (m1_0 : Int32), m1_0 = (if k0 = (3:Int32) then (1:Int32) else (if k0 = (-3:Int32) then (1:Int32) else (0:Int32))) → sxWP sc cl Q 172 (110, [z0, z1, z2, z3, z4, (sxc2 z5), some (.int k0)], [.int m1_0], (cW nw kp im ol sn sr tp (mW mk mg mt mc T)), 0, 0) := by
      intro m1_0 em1_0
      subst em1_0
      obtain rfl := Option.some.inj hf
      refine stp hm 1 (And.intro (by (repeat' split) <;> first | exact Or.inl rfl | exact Or.inr rfl) ?_)
      exact h
    refine stp hm 4 (bs (c := k0 = (3:Int32)) (fun c2 => ?_) (fun c2 => ?_))
    · have c2 : k0 = (3:Int32) := c2
      refine stp hm 2 (?_ : sxWP sc cl Q 172 (110, [z0, z1, z2, z3, z4, (sxc2 z5), some (.int k0)], [.int (1:Int32)], (cW nw kp im ol sn sr tp (mW mk mg mt mc T)), 0, 0))
      exact m1 _ (by rw [if_pos c2])
    · have c2 : ¬ k0 = (3:Int32) := c2
      refine stp hm 3 (bsn (c := k0 = (-3:Int32)) (fun c3 => ?_) (fun c3 => ?_))
      · have c3 : ¬ k0 = (-3:Int32) := c3
        refine stp hm 1 (?_ : sxWP sc cl Q 172 (110, [z0, z1, z2, z3, z4, (sxc2 z5), some (.int k0)], [.int (0:Int32)], (cW nw kp im ol sn sr tp (mW mk mg mt mc T)), 0, 0))
        exact m1 _ (by rw [if_neg c2, if_neg c3])
      · have c3 : k0 = (-3:Int32) := c3
        refine stp hm 2 (?_ : sxWP sc cl Q 172 (110, [z0, z1, z2, z3, z4, (sxc2 z5), some (.int k0)], [.int (1:Int32)], (cW nw kp im ol sn sr tp (mW mk mg mt mc T)), 0, 0))
        exact m1 _ (by rw [if_neg c2, if_pos c3])
  have J16 : ∀  (z0 : Option Value) (z1 : Option Value) (z2 : Option Value) (z3 : Option Value) (z4 : Option Value) (z5 : Option Value) (z6 : Option Value), M_isTwo_j16 = some q → sxWP sc cl Q 172 (16, [z0, z1, z2, z3, z4, z5, z6], [], (cW nw kp im ol sn sr tp (mW mk mg mt mc T)), 0, 0) := by
    intro z0 z1 z2 z3 z4 z5 z6 hf
    unfold M_isTwo_j16 at hf
    obtain rfl := Option.some.inj hf
    refine stp hm 2 (And.intro (Or.inl rfl) ?_)
    exact h
  unfold M_isTwo at hf
  refine stp hm 3 (M_has_ok hE rfl ?_)
  show sxWP sc cl Q 172 (5, [some (.ref 59), some (.int v1), some (.int v2), some (.int v3), none, none, none], [.int (M_has v1 mk.1)], (cW nw kp im ol sn sr tp (mW mk mg mt mc T)), 0, 0)
  refine stp hm 1 (br hf (fun c4 hf => ?_) (fun c4 hf => ?_))
  · show sxWP sc cl Q 172 (16, [some (.ref 59), some (.int v1), some (.int v2), some (.int v3), none, none, none], [], (cW nw kp im ol sn sr tp (mW mk mg mt mc T)), 0, 0)
    exact J16 _ _ _ _ _ _ _ hf
  · show sxWP sc cl Q 172 (8, [some (.ref 59), some (.int v1), some (.int v2), some (.int v3), none, none, none], [], (cW nw kp im ol sn sr tp (mW mk mg mt mc T)), 0, 0)
    refine stp hm 3 (M_has_ok hE rfl ?_)
    show sxWP sc cl Q 172 (13, [some (.ref 59), some (.int v1), some (.int v2), some (.int v3), none, none, none], [.int (M_has v2 mk.1)], (cW nw kp im ol sn sr tp (mW mk mg mt mc T)), 0, 0)
    refine stp hm 1 (brn hf (fun c5 hf => ?_) (fun c5 hf => ?_))
    · show sxWP sc cl Q 172 (18, [some (.ref 59), some (.int v1), some (.int v2), some (.int v3), none, none, none], [], (cW nw kp im ol sn sr tp (mW mk mg mt mc T)), 0, 0)
      refine stp hm 4 (And.intro (by decide) (?_ : sxWP sc cl Q 172 (24, [some (.ref 59), some (.int v1), some (.int v2), some (.int v3), none, none, none], [.int (v2 / (6:Int32)), .int (7:Int32)], (cW nw kp im ol sn sr tp (mW mk mg mt mc T)), 0, 0)))
      refine stp hm 4 (And.intro (by decide) (?_ : sxWP sc cl Q 172 (29, [some (.ref 59), some (.int v1), some (.int v2), some (.int v3), none, none, none], [.int (v2 - v2 / (6:Int32) * (6:Int32)), .int ((7:Int32) * (v2 / (6:Int32)))], (cW nw kp im ol sn sr tp (mW mk mg mt mc T)), 0, 0)))
      have m6 : ∀ (m6_0 : Int32), m6_0 = (if v2 = (v1 + (1:Int32)) then ((((7:Int32) * (v2 / (6:Int32))) + (v2 - v2 / (6:Int32) * (6:Int32))) + (7:Int32)) else ((((7:Int32) * (v2 / (6:Int32))) + (v2 - v2 / (6:Int32) * (6:Int32))) + (1:Int32))) → sxWP sc cl Q 172 (51, [some (.ref 59), some (.int v1), some (.int v2), some (.int v3), some (.int (((7:Int32) * (v2 / (6:Int32))) + (v2 - v2 / (6:Int32) * (6:Int32)))), none, none], [.int m6_0], (cW nw kp im ol sn sr tp (mW mk mg mt mc T)), 0, 0) := by
        intro m6_0 em6_0
        subst em6_0
        refine stp hm 3 (brn hf (fun c7 hf => ?_) (fun c7 hf => ?_))
        · show sxWP sc cl Q 172 (75, [some (.ref 59), some (.int v1), some (.int v2), some (.int v3), some (.int (((7:Int32) * (v2 / (6:Int32))) + (v2 - v2 / (6:Int32) * (6:Int32)))), some (.int (if v2 = (v1 + (1:Int32)) then ((((7:Int32) * (v2 / (6:Int32))) + (v2 - v2 / (6:Int32) * (6:Int32))) + (7:Int32)) else ((((7:Int32) * (v2 / (6:Int32))) + (v2 - v2 / (6:Int32) * (6:Int32))) + (1:Int32)))), none], [], (cW nw kp im ol sn sr tp (mW mk mg mt mc T)), 0, 0)
          obtain ⟨g8, hf⟩ := grd_e hf
          refine stp hm 4 (And.intro (gi_in g8) (?_ : sxWP sc cl Q 172 (82, [some (.ref 59), some (.int v1), some (.int v2), some (.int v3), some (.int (((7:Int32) * (v2 / (6:Int32))) + (v2 - v2 / (6:Int32) * (6:Int32)))), some (.int (if v2 = (v1 + (1:Int32)) then ((((7:Int32) * (v2 / (6:Int32))) + (v2 - v2 / (6:Int32) * (6:Int32))) + (7:Int32)) else ((((7:Int32) * (v2 / (6:Int32))) + (v2 - v2 / (6:Int32) * (6:Int32))) + (1:Int32)))), none], [.int (mg.2.2.2.2.2.2.2.2.2.2.1 (((7:Int32) * (v2 / (6:Int32))) + (v2 - v2 / (6:Int32) * (6:Int32))).toNatClampNeg)], (cW nw kp im ol sn sr tp (mW mk mg mt mc T)), 0, 0)))
          obtain ⟨g9, hf⟩ := grd_e hf
          refine stp hm 4 (And.intro (gi_in g9) (?_ : sxWP sc cl Q 172 (89, [some (.ref 59), some (.int v1), some (.int v2), some (.int v3), some (.int (((7:Int32) * (v2 / (6:Int32))) + (v2 - v2 / (6:Int32) * (6:Int32)))), some (.int (if v2 = (v1 + (1:Int32)) then ((((7:Int32) * (v2 / (6:Int32))) + (v2 - v2 / (6:Int32) * (6:Int32))) + (7:Int32)) else ((((7:Int32) * (v2 / (6:Int32))) + (v2 - v2 / (6:Int32) * (6:Int32))) + (1:Int32)))), none], [.int (mg.2.2.2.2.2.2.2.2.2.2.1 (if v2 = (v1 + (1:Int32)) then ((((7:Int32) * (v2 / (6:Int32))) + (v2 - v2 / (6:Int32) * (6:Int32))) + (7:Int32)) else ((((7:Int32) * (v2 / (6:Int32))) + (v2 - v2 / (6:Int32) * (6:Int32))) + (1:Int32))).toNatClampNeg), .int (mg.2.2.2.2.2.2.2.2.2.2.1 (((7:Int32) * (v2 / (6:Int32))) + (v2 - v2 / (6:Int32) * (6:Int32))).toNatClampNeg)], (cW nw kp im ol sn sr tp (mW mk mg mt mc T)), 0, 0)))
          refine stp hm 1 (?_ : sxWP sc cl Q 172 (90, [some (.ref 59), some (.int v1), some (.int v2), some (.int v3), some (.int (((7:Int32) * (v2 / (6:Int32))) + (v2 - v2 / (6:Int32) * (6:Int32)))), some (.int (if v2 = (v1 + (1:Int32)) then ((((7:Int32) * (v2 / (6:Int32))) + (v2 - v2 / (6:Int32) * (6:Int32))) + (7:Int32)) else ((((7:Int32) * (v2 / (6:Int32))) + (v2 - v2 / (6:Int32) * (6:Int32))) + (1:Int32)))), none], [.int ((mg.2.2.2.2.2.2.2.2.2.2.1 (((7:Int32) * (v2 / (6:Int32))) + (v2 - v2 / (6:Int32) * (6:Int32))).toNatClampNeg) - (mg.2.2.2.2.2.2.2.2.2.2.1 (if v2 = (v1 + (1:Int32)) then ((((7:Int32) * (v2 / (6:Int32))) + (v2 - v2 / (6:Int32) * (6:Int32))) + (7:Int32)) else ((((7:Int32) * (v2 / (6:Int32))) + (v2 - v2 / (6:Int32) * (6:Int32))) + (1:Int32))).toNatClampNeg))], (cW nw kp im ol sn sr tp (mW mk mg mt mc T)), 0, 0))
          exact J90 _ _ _ _ _ _ _ _ hf
        · show sxWP sc cl Q 172 (57, [some (.ref 59), some (.int v1), some (.int v2), some (.int v3), some (.int (((7:Int32) * (v2 / (6:Int32))) + (v2 - v2 / (6:Int32) * (6:Int32)))), some (.int (if v2 = (v1 + (1:Int32)) then ((((7:Int32) * (v2 / (6:Int32))) + (v2 - v2 / (6:Int32) * (6:Int32))) + (7:Int32)) else ((((7:Int32) * (v2 / (6:Int32))) + (v2 - v2 / (6:Int32) * (6:Int32))) + (1:Int32)))), none], [], (cW nw kp im ol sn sr tp (mW mk mg mt mc T)), 0, 0)
          obtain ⟨g10, hf⟩ := grd_e hf
          refine stp hm 4 (And.intro (gi_in g10) (?_ : sxWP sc cl Q 172 (64, [some (.ref 59), some (.int v1), some (.int v2), some (.int v3), some (.int (((7:Int32) * (v2 / (6:Int32))) + (v2 - v2 / (6:Int32) * (6:Int32)))), some (.int (if v2 = (v1 + (1:Int32)) then ((((7:Int32) * (v2 / (6:Int32))) + (v2 - v2 / (6:Int32) * (6:Int32))) + (7:Int32)) else ((((7:Int32) * (v2 / (6:Int32))) + (v2 - v2 / (6:Int32) * (6:Int32))) + (1:Int32)))), none], [.int (mg.2.2.2.2.2.2.2.2.2.1 (((7:Int32) * (v2 / (6:Int32))) + (v2 - v2 / (6:Int32) * (6:Int32))).toNatClampNeg)], (cW nw kp im ol sn sr tp (mW mk mg mt mc T)), 0, 0)))
          obtain ⟨g11, hf⟩ := grd_e hf
          refine stp hm 4 (And.intro (gi_in g11) (?_ : sxWP sc cl Q 172 (71, [some (.ref 59), some (.int v1), some (.int v2), some (.int v3), some (.int (((7:Int32) * (v2 / (6:Int32))) + (v2 - v2 / (6:Int32) * (6:Int32)))), some (.int (if v2 = (v1 + (1:Int32)) then ((((7:Int32) * (v2 / (6:Int32))) + (v2 - v2 / (6:Int32) * (6:Int32))) + (7:Int32)) else ((((7:Int32) * (v2 / (6:Int32))) + (v2 - v2 / (6:Int32) * (6:Int32))) + (1:Int32)))), none], [.int (mg.2.2.2.2.2.2.2.2.2.1 (if v2 = (v1 + (1:Int32)) then ((((7:Int32) * (v2 / (6:Int32))) + (v2 - v2 / (6:Int32) * (6:Int32))) + (7:Int32)) else ((((7:Int32) * (v2 / (6:Int32))) + (v2 - v2 / (6:Int32) * (6:Int32))) + (1:Int32))).toNatClampNeg), .int (mg.2.2.2.2.2.2.2.2.2.1 (((7:Int32) * (v2 / (6:Int32))) + (v2 - v2 / (6:Int32) * (6:Int32))).toNatClampNeg)], (cW nw kp im ol sn sr tp (mW mk mg mt mc T)), 0, 0)))
          refine stp hm 2 (?_ : sxWP sc cl Q 172 (90, [some (.ref 59), some (.int v1), some (.int v2), some (.int v3), some (.int (((7:Int32) * (v2 / (6:Int32))) + (v2 - v2 / (6:Int32) * (6:Int32)))), some (.int (if v2 = (v1 + (1:Int32)) then ((((7:Int32) * (v2 / (6:Int32))) + (v2 - v2 / (6:Int32) * (6:Int32))) + (7:Int32)) else ((((7:Int32) * (v2 / (6:Int32))) + (v2 - v2 / (6:Int32) * (6:Int32))) + (1:Int32)))), none], [.int ((mg.2.2.2.2.2.2.2.2.2.1 (((7:Int32) * (v2 / (6:Int32))) + (v2 - v2 / (6:Int32) * (6:Int32))).toNatClampNeg) - (mg.2.2.2.2.2.2.2.2.2.1 (if v2 = (v1 + (1:Int32)) then ((((7:Int32) * (v2 / (6:Int32))) + (v2 - v2 / (6:Int32) * (6:Int32))) + (7:Int32)) else ((((7:Int32) * (v2 / (6:Int32))) + (v2 - v2 / (6:Int32) * (6:Int32))) + (1:Int32))).toNatClampNeg))], (cW nw kp im ol sn sr tp (mW mk mg mt mc T)), 0, 0))
          exact J90 _ _ _ _ _ _ _ _ hf
      refine stp hm 7 (bsn (c := v2 = (v1 + (1:Int32))) (fun c12 => ?_) (fun c12 => ?_))
      · have c12 : ¬ v2 = (v1 + (1:Int32)) := c12
        refine stp hm 3 (?_ : sxWP sc cl Q 172 (51, [some (.ref 59), some (.int v1), some (.int v2), some (.int v3), some (.int (((7:Int32) * (v2 / (6:Int32))) + (v2 - v2 / (6:Int32) * (6:Int32)))), none, none], [.int ((((7:Int32) * (v2 / (6:Int32))) + (v2 - v2 / (6:Int32) * (6:Int32))) + (1:Int32))], (cW nw kp im ol sn sr tp (mW mk mg mt mc T)), 0, 0))
        exact m6 _ (by rw [if_neg c12])
      · have c12 : v2 = (v1 + (1:Int32)) := c12
        refine stp hm 4 (?_ : sxWP sc cl Q 172 (51, [some (.ref 59), some (.int v1), some (.int v2), some (.int v3), some (.int (((7:Int32) * (v2 / (6:Int32))) + (v2 - v2 / (6:Int32) * (6:Int32)))), none, none], [.int ((((7:Int32) * (v2 / (6:Int32))) + (v2 - v2 / (6:Int32) * (6:Int32))) + (7:Int32))], (cW nw kp im ol sn sr tp (mW mk mg mt mc T)), 0, 0))
        exact m6 _ (by rw [if_pos c12])
    · show sxWP sc cl Q 172 (16, [some (.ref 59), some (.int v1), some (.int v2), some (.int v3), none, none, none], [], (cW nw kp im ol sn sr tp (mW mk mg mt mc T)), 0, 0)
      exact J16 _ _ _ _ _ _ _ hf

def M_lays_j101  (v2 : Int32) (ms_j : (Nat → Int32)) : Option ((Int32 × (Nat → Int32)) ⊕ (Nat → Int32)) := some (Sum.inl (v2 + (1:Int32), ms_j))
def M_lays_j72  (v2 : Int32) (k0 : Int32) (ms_j : (Nat → Int32)) : Option ((Int32 × (Nat → Int32)) ⊕ (Nat → Int32)) := if k0 = (-1:Int32) then (M_lays_j101 v2 ms_j) else (grd (gi ((6:Int32) + v2) 122) (grd (gi ((6:Int32) + k0) 122) (M_lays_j101 v2 (upd (upd ms_j ((6:Int32) + v2).toNatClampNeg k0) ((6:Int32) + k0).toNatClampNeg v2))))
def M_lays_j71  (v2 : Int32) (ms_j : (Nat → Int32)) : Option ((Int32 × (Nat → Int32)) ⊕ (Nat → Int32)) := M_lays_j72 v2 (-1:Int32) ms_j
def M_lays_j45  (v1 : Int32) (v2 : Int32) (ms_j : (Nat → Int32)) (mrg : Int64) (glo : (Nat → Int32)) (ghi : (Nat → Int32)) : Option ((Int32 × (Nat → Int32)) ⊕ (Nat → Int32)) := if (30:Int32) ≤ v2 then (M_lays_j71 v2 ms_j) else (Option.bind (M_isTwo v2 (v2 + (6:Int32)) v1 mrg glo ghi) (fun q5 => M_lays_j72 v2 (if q5 = (0:Int32) then (-1:Int32) else (v2 + (6:Int32))) ms_j))
def M_lays_s13  (v1 : Int32) (mrg : Int64) (glo : (Nat → Int32)) (ghi : (Nat → Int32)) (s : (Int32 × (Nat → Int32))) : Option ((Int32 × (Nat → Int32)) ⊕ (Nat → Int32)) := if (36:Int32) ≤ s.1 then (some (Sum.inr s.2)) else (if (5:Int32) ≤ (s.1 - s.1 / (6:Int32) * (6:Int32)) then (M_lays_j45 v1 s.1 s.2 mrg glo ghi) else (Option.bind (M_isTwo s.1 (s.1 + (1:Int32)) v1 mrg glo ghi) (fun q10 => if q10 = (0:Int32) then (M_lays_j45 v1 s.1 s.2 mrg glo ghi) else (M_lays_j72 s.1 (s.1 + (1:Int32)) s.2))))
def M_lays (v1 : Int32) (mrg : Int64) (ms : (Nat → Int32)) (glo : (Nat → Int32)) (ghi : (Nat → Int32)) : Option (Nat → Int32) := Option.bind (M_clears ms) (fun q1 => grd (gi (0:Int32) 122) (Option.bind (wh (M_lays_s13 v1 mrg glo ghi) FU ((0:Int32), upd q1 (0:Int32).toNatClampNeg (1:Int32))) (fun w3 => some w3)))
set_option maxRecDepth 10000 in
theorem M_lays_l13 {v1 : Int32}   (hE : cl = sxE sc (d + 2)) (hm : CallMono cl) : ∀ (n : Nat) (s : (Int32 × (Nat → Int32))) (r : (Nat → Int32)), wh (M_lays_s13 v1 mk.1 mg.2.2.2.2.2.2.2.2.2.1 mg.2.2.2.2.2.2.2.2.2.2.1) n s = some r → (∀ (z0 z1 z2 z3 : Option Value), sxWP sc cl Q 173 (107, [z0, z1, z2, z3], [], (cW nw kp im ol sn sr tp (mW (mk.1, mk.2.1, r, mk.2.2.2.1, mk.2.2.2.2.1, mk.2.2.2.2.2.1, mk.2.2.2.2.2.2.1, mk.2.2.2.2.2.2.2.1, mk.2.2.2.2.2.2.2.2.1, mk.2.2.2.2.2.2.2.2.2) mg mt mc T)), 0, 0)) → ∀ (z3 : Option Value), sxWP sc cl Q 173 (13, [some (.ref 59), some (.int v1), some (.int s.1), z3], [], (cW nw kp im ol sn sr tp (mW (mk.1, mk.2.1, s.2, mk.2.2.2.1, mk.2.2.2.2.1, mk.2.2.2.2.2.1, mk.2.2.2.2.2.2.1, mk.2.2.2.2.2.2.2.1, mk.2.2.2.2.2.2.2.2.1, mk.2.2.2.2.2.2.2.2.2) mg mt mc T)), 0, 0) := by
  refine wh_run (A := fun (s : (Int32 × (Nat → Int32))) => ∀ (z3 : Option Value), sxWP sc cl Q 173 (13, [some (.ref 59), some (.int v1), some (.int s.1), z3], [], (cW nw kp im ol sn sr tp (mW (mk.1, mk.2.1, s.2, mk.2.2.2.1, mk.2.2.2.2.1, mk.2.2.2.2.2.1, mk.2.2.2.2.2.2.1, mk.2.2.2.2.2.2.2.1, mk.2.2.2.2.2.2.2.2.1, mk.2.2.2.2.2.2.2.2.2) mg mt mc T)), 0, 0)) (B := fun (r : (Nat → Int32)) => ∀ (z0 z1 z2 z3 : Option Value), sxWP sc cl Q 173 (107, [z0, z1, z2, z3], [], (cW nw kp im ol sn sr tp (mW (mk.1, mk.2.1, r, mk.2.2.2.1, mk.2.2.2.2.1, mk.2.2.2.2.2.1, mk.2.2.2.2.2.2.1, mk.2.2.2.2.2.2.2.1, mk.2.2.2.2.2.2.2.2.1, mk.2.2.2.2.2.2.2.2.2) mg mt mc T)), 0, 0)) (fun s x hf hA hB => ?_)
  intro z3
  have J101 : ∀ (v2 : Int32) (ms_j : (Nat → Int32)) (z3 : Option Value), M_lays_j101 v2 ms_j = some x → sxWP sc cl Q 173 (101, [some (.ref 59), some (.int v1), some (.int v2), z3], [], (cW nw kp im ol sn sr tp (mW (mk.1, mk.2.1, ms_j, mk.2.2.2.1, mk.2.2.2.2.1, mk.2.2.2.2.2.1, mk.2.2.2.2.2.2.1, mk.2.2.2.2.2.2.2.1, mk.2.2.2.2.2.2.2.2.1, mk.2.2.2.2.2.2.2.2.2) mg mt mc T)), 0, 0) := by
    intro v2 ms_j z3 hf
    unfold M_lays_j101 at hf
    obtain rfl := Option.some.inj hf
    refine stp hm 2 (?_ : sxWP sc cl Q 173 (13, [some (.ref 59), some (.int v1), some (.int (v2 + (1:Int32))), z3], [], (cW nw kp im ol sn sr tp (mW (mk.1, mk.2.1, ms_j, mk.2.2.2.1, mk.2.2.2.2.1, mk.2.2.2.2.2.1, mk.2.2.2.2.2.2.1, mk.2.2.2.2.2.2.2.1, mk.2.2.2.2.2.2.2.2.1, mk.2.2.2.2.2.2.2.2.2) mg mt mc T)), 0, 0))
    exact hA _ rfl _
  have J72 : ∀ (v2 : Int32) (k0 : Int32) (ms_j : (Nat → Int32)) (z3 : Option Value), M_lays_j72 v2 k0 ms_j = some x → sxWP sc cl Q 173 (72, [some (.ref 59), some (.int v1), some (.int v2), z3], [.int k0], (cW nw kp im ol sn sr tp (mW (mk.1, mk.2.1, ms_j, mk.2.2.2.1, mk.2.2.2.2.1, mk.2.2.2.2.2.1, mk.2.2.2.2.2.2.1, mk.2.2.2.2.2.2.2.1, mk.2.2.2.2.2.2.2.2.1, mk.2.2.2.2.2.2.2.2.2) mg mt mc T)), 0, 0) := by
    intro v2 k0 ms_j z3 hf
    unfold M_lays_j72 at hf
    refine stp hm 4 (brn hf (fun c1 hf => ?_) (fun c1 hf => ?_))
    · show sxWP sc cl Q 173 (81, [some (.ref 59), some (.int v1), some (.int v2), some (.int k0)], [], (cW nw kp im ol sn sr tp (mW (mk.1, mk.2.1, ms_j, mk.2.2.2.1, mk.2.2.2.2.1, mk.2.2.2.2.2.1, mk.2.2.2.2.2.2.1, mk.2.2.2.2.2.2.2.1, mk.2.2.2.2.2.2.2.2.1, mk.2.2.2.2.2.2.2.2.2) mg mt mc T)), 0, 0)
      obtain ⟨g2, hf⟩ := grd_e hf
      refine stp hm 7 (And.intro (gi_in g2) (?_ : sxWP sc cl Q 173 (91, [some (.ref 59), some (.int v1), some (.int v2), some (.int k0)], [], (cW nw kp im ol sn sr tp (mW (mk.1, mk.2.1, upd ms_j ((6:Int32) + v2).toNatClampNeg k0, mk.2.2.2.1, mk.2.2.2.2.1, mk.2.2.2.2.2.1, mk.2.2.2.2.2.2.1, mk.2.2.2.2.2.2.2.1, mk.2.2.2.2.2.2.2.2.1, mk.2.2.2.2.2.2.2.2.2) mg mt mc T)), 0, 0)))
      obtain ⟨g3, hf⟩ := grd_e hf
      refine stp hm 7 (And.intro (gi_in g3) (?_ : sxWP sc cl Q 173 (101, [some (.ref 59), some (.int v1), some (.int v2), some (.int k0)], [], (cW nw kp im ol sn sr tp (mW (mk.1, mk.2.1, upd (upd ms_j ((6:Int32) + v2).toNatClampNeg k0) ((6:Int32) + k0).toNatClampNeg v2, mk.2.2.2.1, mk.2.2.2.2.1, mk.2.2.2.2.2.1, mk.2.2.2.2.2.2.1, mk.2.2.2.2.2.2.2.1, mk.2.2.2.2.2.2.2.2.1, mk.2.2.2.2.2.2.2.2.2) mg mt mc T)), 0, 0)))
      exact J101 _ _ _ hf
    · show sxWP sc cl Q 173 (78, [some (.ref 59), some (.int v1), some (.int v2), some (.int k0)], [], (cW nw kp im ol sn sr tp (mW (mk.1, mk.2.1, ms_j, mk.2.2.2.1, mk.2.2.2.2.1, mk.2.2.2.2.2.1, mk.2.2.2.2.2.2.1, mk.2.2.2.2.2.2.2.1, mk.2.2.2.2.2.2.2.2.1, mk.2.2.2.2.2.2.2.2.2) mg mt mc T)), 0, 0)
      refine stp hm 1 (?_ : sxWP sc cl Q 173 (101, [some (.ref 59), some (.int v1), some (.int v2), some (.int k0)], [], (cW nw kp im ol sn sr tp (mW (mk.1, mk.2.1, ms_j, mk.2.2.2.1, mk.2.2.2.2.1, mk.2.2.2.2.2.1, mk.2.2.2.2.2.2.1, mk.2.2.2.2.2.2.2.1, mk.2.2.2.2.2.2.2.2.1, mk.2.2.2.2.2.2.2.2.2) mg mt mc T)), 0, 0))
      exact J101 _ _ _ hf
  have J71 : ∀ (v2 : Int32) (ms_j : (Nat → Int32)) (z3 : Option Value), M_lays_j71 v2 ms_j = some x → sxWP sc cl Q 173 (71, [some (.ref 59), some (.int v1), some (.int v2), z3], [], (cW nw kp im ol sn sr tp (mW (mk.1, mk.2.1, ms_j, mk.2.2.2.1, mk.2.2.2.2.1, mk.2.2.2.2.2.1, mk.2.2.2.2.2.2.1, mk.2.2.2.2.2.2.2.1, mk.2.2.2.2.2.2.2.2.1, mk.2.2.2.2.2.2.2.2.2) mg mt mc T)), 0, 0) := by
    intro v2 ms_j z3 hf
    unfold M_lays_j71 at hf
    refine stp hm 1 (?_ : sxWP sc cl Q 173 (72, [some (.ref 59), some (.int v1), some (.int v2), z3], [.int (-1:Int32)], (cW nw kp im ol sn sr tp (mW (mk.1, mk.2.1, ms_j, mk.2.2.2.1, mk.2.2.2.2.1, mk.2.2.2.2.2.1, mk.2.2.2.2.2.2.1, mk.2.2.2.2.2.2.2.1, mk.2.2.2.2.2.2.2.2.1, mk.2.2.2.2.2.2.2.2.2) mg mt mc T)), 0, 0))
    exact J72 _ _ _ _ hf
  have J45 : ∀ (v2 : Int32) (ms_j : (Nat → Int32)) (z3 : Option Value), M_lays_j45 v1 v2 ms_j mk.1 mg.2.2.2.2.2.2.2.2.2.1 mg.2.2.2.2.2.2.2.2.2.2.1 = some x → sxWP sc cl Q 173 (45, [some (.ref 59), some (.int v1), some (.int v2), z3], [], (cW nw kp im ol sn sr tp (mW (mk.1, mk.2.1, ms_j, mk.2.2.2.1, mk.2.2.2.2.1, mk.2.2.2.2.2.1, mk.2.2.2.2.2.2.1, mk.2.2.2.2.2.2.2.1, mk.2.2.2.2.2.2.2.2.1, mk.2.2.2.2.2.2.2.2.2) mg mt mc T)), 0, 0) := by
    intro v2 ms_j z3 hf
    unfold M_lays_j45 at hf
    refine stp hm 3 (br hf (fun c4 hf => ?_) (fun c4 hf => ?_))
    · show sxWP sc cl Q 173 (71, [some (.ref 59), some (.int v1), some (.int v2), z3], [], (cW nw kp im ol sn sr tp (mW (mk.1, mk.2.1, ms_j, mk.2.2.2.1, mk.2.2.2.2.1, mk.2.2.2.2.2.1, mk.2.2.2.2.2.2.1, mk.2.2.2.2.2.2.2.1, mk.2.2.2.2.2.2.2.2.1, mk.2.2.2.2.2.2.2.2.2) mg mt mc T)), 0, 0)
      exact J71 _ _ _ hf
    · show sxWP sc cl Q 173 (51, [some (.ref 59), some (.int v1), some (.int v2), z3], [], (cW nw kp im ol sn sr tp (mW (mk.1, mk.2.1, ms_j, mk.2.2.2.1, mk.2.2.2.2.1, mk.2.2.2.2.2.1, mk.2.2.2.2.2.2.1, mk.2.2.2.2.2.2.2.1, mk.2.2.2.2.2.2.2.2.1, mk.2.2.2.2.2.2.2.2.2) mg mt mc T)), 0, 0)
      obtain ⟨q5, hq5, hf⟩ := bnd hf
      refine stp hm 7 (M_isTwo_ok hE hq5 ?_)
      show sxWP sc cl Q 173 (61, [some (.ref 59), some (.int v1), some (.int v2), z3], [.int q5], (cW nw kp im ol sn sr tp (mW (mk.1, mk.2.1, ms_j, mk.2.2.2.1, mk.2.2.2.2.1, mk.2.2.2.2.2.1, mk.2.2.2.2.2.2.1, mk.2.2.2.2.2.2.2.1, mk.2.2.2.2.2.2.2.2.1, mk.2.2.2.2.2.2.2.2.2) mg mt mc T)), 0, 0)
      have m6 : ∀ (m6_0 : Int32), m6_0 = (if q5 = (0:Int32) then (-1:Int32) else (v2 + (6:Int32))) → sxWP sc cl Q 173 (72, [some (.ref 59), some (.int v1), some (.int v2), z3], [.int m6_0], (cW nw kp im ol sn sr tp (mW (mk.1, mk.2.1, ms_j, mk.2.2.2.1, mk.2.2.2.2.1, mk.2.2.2.2.2.1, mk.2.2.2.2.2.2.1, mk.2.2.2.2.2.2.2.1, mk.2.2.2.2.2.2.2.2.1, mk.2.2.2.2.2.2.2.2.2) mg mt mc T)), 0, 0) := by
        intro m6_0 em6_0
        subst em6_0
        exact J72 _ _ _ _ hf
      refine stp hm 1 (bs (c := q5 = (0:Int32)) (fun c7 => ?_) (fun c7 => ?_))
      · have c7 : q5 = (0:Int32) := c7
        refine stp hm 1 (?_ : sxWP sc cl Q 173 (72, [some (.ref 59), some (.int v1), some (.int v2), z3], [.int (-1:Int32)], (cW nw kp im ol sn sr tp (mW (mk.1, mk.2.1, ms_j, mk.2.2.2.1, mk.2.2.2.2.1, mk.2.2.2.2.2.1, mk.2.2.2.2.2.2.1, mk.2.2.2.2.2.2.2.1, mk.2.2.2.2.2.2.2.2.1, mk.2.2.2.2.2.2.2.2.2) mg mt mc T)), 0, 0))
        exact m6 _ (by rw [if_pos c7])
      · have c7 : ¬ q5 = (0:Int32) := c7
        refine stp hm 4 (?_ : sxWP sc cl Q 173 (72, [some (.ref 59), some (.int v1), some (.int v2), z3], [.int (v2 + (6:Int32))], (cW nw kp im ol sn sr tp (mW (mk.1, mk.2.1, ms_j, mk.2.2.2.1, mk.2.2.2.2.1, mk.2.2.2.2.2.1, mk.2.2.2.2.2.2.1, mk.2.2.2.2.2.2.2.1, mk.2.2.2.2.2.2.2.2.1, mk.2.2.2.2.2.2.2.2.2) mg mt mc T)), 0, 0))
        exact m6 _ (by rw [if_neg c7])
  unfold M_lays_s13 at hf
  refine stp hm 3 (br hf (fun c8 hf => ?_) (fun c8 hf => ?_))
  · show sxWP sc cl Q 173 (107, [some (.ref 59), some (.int v1), some (.int s.1), z3], [], (cW nw kp im ol sn sr tp (mW (mk.1, mk.2.1, s.2, mk.2.2.2.1, mk.2.2.2.2.1, mk.2.2.2.2.2.1, mk.2.2.2.2.2.2.1, mk.2.2.2.2.2.2.2.1, mk.2.2.2.2.2.2.2.2.1, mk.2.2.2.2.2.2.2.2.2) mg mt mc T)), 0, 0)
    obtain rfl := Option.some.inj hf
    exact hB _ rfl _ _ _ _
  · show sxWP sc cl Q 173 (19, [some (.ref 59), some (.int v1), some (.int s.1), z3], [], (cW nw kp im ol sn sr tp (mW (mk.1, mk.2.1, s.2, mk.2.2.2.1, mk.2.2.2.2.1, mk.2.2.2.2.2.1, mk.2.2.2.2.2.2.1, mk.2.2.2.2.2.2.2.1, mk.2.2.2.2.2.2.2.2.1, mk.2.2.2.2.2.2.2.2.2) mg mt mc T)), 0, 0)
    refine stp hm 3 (And.intro (by decide) (?_ : sxWP sc cl Q 173 (23, [some (.ref 59), some (.int v1), some (.int s.1), z3], [.int (s.1 - s.1 / (6:Int32) * (6:Int32))], (cW nw kp im ol sn sr tp (mW (mk.1, mk.2.1, s.2, mk.2.2.2.1, mk.2.2.2.2.1, mk.2.2.2.2.2.1, mk.2.2.2.2.2.2.1, mk.2.2.2.2.2.2.2.1, mk.2.2.2.2.2.2.2.2.1, mk.2.2.2.2.2.2.2.2.2) mg mt mc T)), 0, 0)))
    refine stp hm 2 (br hf (fun c9 hf => ?_) (fun c9 hf => ?_))
    · show sxWP sc cl Q 173 (45, [some (.ref 59), some (.int v1), some (.int s.1), z3], [], (cW nw kp im ol sn sr tp (mW (mk.1, mk.2.1, s.2, mk.2.2.2.1, mk.2.2.2.2.1, mk.2.2.2.2.2.1, mk.2.2.2.2.2.2.1, mk.2.2.2.2.2.2.2.1, mk.2.2.2.2.2.2.2.2.1, mk.2.2.2.2.2.2.2.2.2) mg mt mc T)), 0, 0)
      exact J45 _ _ _ hf
    · show sxWP sc cl Q 173 (27, [some (.ref 59), some (.int v1), some (.int s.1), z3], [], (cW nw kp im ol sn sr tp (mW (mk.1, mk.2.1, s.2, mk.2.2.2.1, mk.2.2.2.2.1, mk.2.2.2.2.2.1, mk.2.2.2.2.2.2.1, mk.2.2.2.2.2.2.2.1, mk.2.2.2.2.2.2.2.2.1, mk.2.2.2.2.2.2.2.2.2) mg mt mc T)), 0, 0)
      obtain ⟨q10, hq10, hf⟩ := bnd hf
      refine stp hm 7 (M_isTwo_ok hE hq10 ?_)
      show sxWP sc cl Q 173 (36, [some (.ref 59), some (.int v1), some (.int s.1), z3], [.int q10], (cW nw kp im ol sn sr tp (mW (mk.1, mk.2.1, s.2, mk.2.2.2.1, mk.2.2.2.2.1, mk.2.2.2.2.2.1, mk.2.2.2.2.2.2.1, mk.2.2.2.2.2.2.2.1, mk.2.2.2.2.2.2.2.2.1, mk.2.2.2.2.2.2.2.2.2) mg mt mc T)), 0, 0)
      refine stp hm 1 (br hf (fun c11 hf => ?_) (fun c11 hf => ?_))
      · show sxWP sc cl Q 173 (45, [some (.ref 59), some (.int v1), some (.int s.1), z3], [], (cW nw kp im ol sn sr tp (mW (mk.1, mk.2.1, s.2, mk.2.2.2.1, mk.2.2.2.2.1, mk.2.2.2.2.2.1, mk.2.2.2.2.2.2.1, mk.2.2.2.2.2.2.2.1, mk.2.2.2.2.2.2.2.2.1, mk.2.2.2.2.2.2.2.2.2) mg mt mc T)), 0, 0)
        exact J45 _ _ _ hf
      · show sxWP sc cl Q 173 (39, [some (.ref 59), some (.int v1), some (.int s.1), z3], [], (cW nw kp im ol sn sr tp (mW (mk.1, mk.2.1, s.2, mk.2.2.2.1, mk.2.2.2.2.1, mk.2.2.2.2.2.1, mk.2.2.2.2.2.2.1, mk.2.2.2.2.2.2.2.1, mk.2.2.2.2.2.2.2.2.1, mk.2.2.2.2.2.2.2.2.2) mg mt mc T)), 0, 0)
        refine stp hm 4 (?_ : sxWP sc cl Q 173 (72, [some (.ref 59), some (.int v1), some (.int s.1), z3], [.int (s.1 + (1:Int32))], (cW nw kp im ol sn sr tp (mW (mk.1, mk.2.1, s.2, mk.2.2.2.1, mk.2.2.2.2.1, mk.2.2.2.2.2.1, mk.2.2.2.2.2.2.1, mk.2.2.2.2.2.2.2.1, mk.2.2.2.2.2.2.2.2.1, mk.2.2.2.2.2.2.2.2.2) mg mt mc T)), 0, 0))
        exact J72 _ _ _ _ hf
set_option maxRecDepth 10000 in
theorem M_lays_ok {v1 : Int32} {q : (Nat → Int32)} (hc : call = sxE sc (d + 3)) (hf : M_lays v1 mk.1 mk.2.2.1 mg.2.2.2.2.2.2.2.2.2.1 mg.2.2.2.2.2.2.2.2.2.2.1 = some q) (h : Q none (cW nw kp im ol sn sr tp (mW (mk.1, mk.2.1, q, mk.2.2.2.1, mk.2.2.2.2.1, mk.2.2.2.2.2.1, mk.2.2.2.2.2.2.1, mk.2.2.2.2.2.2.2.1, mk.2.2.2.2.2.2.2.2.1, mk.2.2.2.2.2.2.2.2.2) mg mt mc T))) : call 173 [.ref 59, .int v1] (cW nw kp im ol sn sr tp (mW mk mg mt mc T)) Q := by
  refine ent hc rfl (fun cl hE hm => ?_)
  unfold M_lays at hf
  obtain ⟨q1, hq1, hf⟩ := bnd hf
  refine stp hm 2 (M_clears_ok hE hq1 ?_)
  show sxWP sc cl Q 173 (4, [some (.ref 59), some (.int v1), none, none], [], (cW nw kp im ol sn sr tp (mW (mk.1, mk.2.1, q1, mk.2.2.2.1, mk.2.2.2.2.1, mk.2.2.2.2.2.1, mk.2.2.2.2.2.2.1, mk.2.2.2.2.2.2.2.1, mk.2.2.2.2.2.2.2.2.1, mk.2.2.2.2.2.2.2.2.2) mg mt mc T)), 0, 0)
  obtain ⟨g2, hf⟩ := grd_e hf
  refine stp hm 5 (And.intro (gi_in g2) (?_ : sxWP sc cl Q 173 (11, [some (.ref 59), some (.int v1), none, none], [], (cW nw kp im ol sn sr tp (mW (mk.1, mk.2.1, upd q1 (0:Int32).toNatClampNeg (1:Int32), mk.2.2.2.1, mk.2.2.2.2.1, mk.2.2.2.2.2.1, mk.2.2.2.2.2.2.1, mk.2.2.2.2.2.2.2.1, mk.2.2.2.2.2.2.2.2.1, mk.2.2.2.2.2.2.2.2.2) mg mt mc T)), 0, 0)))
  obtain ⟨w3, hw3, hf⟩ := bnd hf
  refine stp hm 2 (?_ : sxWP sc cl Q 173 (13, [some (.ref 59), some (.int v1), some (.int (0:Int32)), none], [], (cW nw kp im ol sn sr tp (mW (mk.1, mk.2.1, upd q1 (0:Int32).toNatClampNeg (1:Int32), mk.2.2.2.1, mk.2.2.2.2.1, mk.2.2.2.2.2.1, mk.2.2.2.2.2.2.1, mk.2.2.2.2.2.2.2.1, mk.2.2.2.2.2.2.2.2.1, mk.2.2.2.2.2.2.2.2.2) mg mt mc T)), 0, 0))
  refine M_lays_l13 hE hm _ _ _ hw3 ?_ _
  intro w3_z0 w3_z1 w3_z2 w3_z3
  show sxWP sc cl Q 173 (107, [w3_z0, w3_z1, w3_z2, w3_z3], [], (cW nw kp im ol sn sr tp (mW (mk.1, mk.2.1, w3, mk.2.2.2.1, mk.2.2.2.2.1, mk.2.2.2.2.2.1, mk.2.2.2.2.2.2.1, mk.2.2.2.2.2.2.2.1, mk.2.2.2.2.2.2.2.2.1, mk.2.2.2.2.2.2.2.2.2) mg mt mc T)), 0, 0)
  obtain rfl := Option.some.inj hf
  refine stp hm 1 ?_
  exact h

def M_rise_j18   : Option Int32 := some (1:Int32)
def M_rise (v1 : Int32) (v2 : Int32) (mrg : Int64) (ms : (Nat → Int32)) : Option Int32 := if (M_hasLeft v1 v2 mrg) = (0:Int32) then M_rise_j18 else (if (M_hasRight v1 v2 mrg) = (0:Int32) then M_rise_j18 else (grd (gi ((6:Int32) + (((6:Int32) * (M_leftRow v1 v2)) + (M_leftColumn v1 v2))) 122) (some (if (ms ((6:Int32) + (((6:Int32) * (M_leftRow v1 v2)) + (M_leftColumn v1 v2))).toNatClampNeg) = (((6:Int32) * (M_rightRow v1 v2)) + (M_rightColumn v1 v2)) then (-3:Int32) else (1:Int32)))))
set_option maxRecDepth 10000 in
theorem M_rise_ok {v1 : Int32} {v2 : Int32} {q : Int32} (hc : call = sxE sc (d + 4)) (hf : M_rise v1 v2 mk.1 mk.2.2.1 = some q) (h : Q (some (.int q)) (cW nw kp im ol sn sr tp (mW mk mg mt mc T))) : call 174 [.ref 59, .int v1, .int v2] (cW nw kp im ol sn sr tp (mW mk mg mt mc T)) Q := by
  refine ent hc rfl (fun cl hE hm => ?_)
  have J18 : ∀  (z0 : Option Value) (z1 : Option Value) (z2 : Option Value) (z3 : Option Value), M_rise_j18 = some q → sxWP sc cl Q 174 (18, [z0, z1, z2, z3], [], (cW nw kp im ol sn sr tp (mW mk mg mt mc T)), 0, 0) := by
    intro z0 z1 z2 z3 hf
    unfold M_rise_j18 at hf
    obtain rfl := Option.some.inj hf
    refine stp hm 2 ?_
    exact h
  unfold M_rise at hf
  refine stp hm 4 (M_hasLeft_ok hE rfl ?_)
  show sxWP sc cl Q 174 (6, [some (.ref 59), some (.int v1), some (.int v2), none], [.int (M_hasLeft v1 v2 mk.1)], (cW nw kp im ol sn sr tp (mW mk mg mt mc T)), 0, 0)
  refine stp hm 1 (br hf (fun c1 hf => ?_) (fun c1 hf => ?_))
  · show sxWP sc cl Q 174 (18, [some (.ref 59), some (.int v1), some (.int v2), none], [], (cW nw kp im ol sn sr tp (mW mk mg mt mc T)), 0, 0)
    exact J18 _ _ _ _ hf
  · show sxWP sc cl Q 174 (9, [some (.ref 59), some (.int v1), some (.int v2), none], [], (cW nw kp im ol sn sr tp (mW mk mg mt mc T)), 0, 0)
    refine stp hm 4 (M_hasRight_ok hE rfl ?_)
    show sxWP sc cl Q 174 (15, [some (.ref 59), some (.int v1), some (.int v2), none], [.int (M_hasRight v1 v2 mk.1)], (cW nw kp im ol sn sr tp (mW mk mg mt mc T)), 0, 0)
    refine stp hm 1 (brn hf (fun c2 hf => ?_) (fun c2 hf => ?_))
    · show sxWP sc cl Q 174 (20, [some (.ref 59), some (.int v1), some (.int v2), none], [], (cW nw kp im ol sn sr tp (mW mk mg mt mc T)), 0, 0)
      refine stp hm 4 (M_leftRow_ok hE rfl ?_)
      show sxWP sc cl Q 174 (27, [some (.ref 59), some (.int v1), some (.int v2), none], [.int (M_leftRow v1 v2), .int (6:Int32)], (cW nw kp im ol sn sr tp (mW mk mg mt mc T)), 0, 0)
      refine stp hm 4 (M_leftColumn_ok hE rfl ?_)
      show sxWP sc cl Q 174 (33, [some (.ref 59), some (.int v1), some (.int v2), none], [.int (M_leftColumn v1 v2), .int ((6:Int32) * (M_leftRow v1 v2))], (cW nw kp im ol sn sr tp (mW mk mg mt mc T)), 0, 0)
      obtain ⟨g3, hf⟩ := grd_e hf
      refine stp hm 8 (And.intro (gi_in g3) (?_ : sxWP sc cl Q 174 (44, [some (.ref 59), some (.int v1), some (.int v2), some (.int (((6:Int32) * (M_leftRow v1 v2)) + (M_leftColumn v1 v2)))], [.int (mk.2.2.1 ((6:Int32) + (((6:Int32) * (M_leftRow v1 v2)) + (M_leftColumn v1 v2))).toNatClampNeg)], (cW nw kp im ol sn sr tp (mW mk mg mt mc T)), 0, 0)))
      refine stp hm 4 (M_rightRow_ok hE rfl ?_)
      show sxWP sc cl Q 174 (51, [some (.ref 59), some (.int v1), some (.int v2), some (.int (((6:Int32) * (M_leftRow v1 v2)) + (M_leftColumn v1 v2)))], [.int (M_rightRow v1 v2), .int (6:Int32), .int (mk.2.2.1 ((6:Int32) + (((6:Int32) * (M_leftRow v1 v2)) + (M_leftColumn v1 v2))).toNatClampNeg)], (cW nw kp im ol sn sr tp (mW mk mg mt mc T)), 0, 0)
      refine stp hm 4 (M_rightColumn_ok hE rfl ?_)
      show sxWP sc cl Q 174 (57, [some (.ref 59), some (.int v1), some (.int v2), some (.int (((6:Int32) * (M_leftRow v1 v2)) + (M_leftColumn v1 v2)))], [.int (M_rightColumn v1 v2), .int ((6:Int32) * (M_rightRow v1 v2)), .int (mk.2.2.1 ((6:Int32) + (((6:Int32) * (M_leftRow v1 v2)) + (M_leftColumn v1 v2))).toNatClampNeg)], (cW nw kp im ol sn sr tp (mW mk mg mt mc T)), 0, 0)
      have m4 : ∀ (m4_0 : Int32), m4_0 = (if (mk.2.2.1 ((6:Int32) + (((6:Int32) * (M_leftRow v1 v2)) + (M_leftColumn v1 v2))).toNatClampNeg) = (((6:Int32) * (M_rightRow v1 v2)) + (M_rightColumn v1 v2)) then (-3:Int32) else (1:Int32)) → sxWP sc cl Q 174 (67, [some (.ref 59), some (.int v1), some (.int v2), some (.int (((6:Int32) * (M_leftRow v1 v2)) + (M_leftColumn v1 v2)))], [.int m4_0], (cW nw kp im ol sn sr tp (mW mk mg mt mc T)), 0, 0) := by
        intro m4_0 em4_0
        subst em4_0
        obtain rfl := Option.some.inj hf
        refine stp hm 1 ?_
        exact h
      refine stp hm 2 (bsn (c := (mk.2.2.1 ((6:Int32) + (((6:Int32) * (M_leftRow v1 v2)) + (M_leftColumn v1 v2))).toNatClampNeg) = (((6:Int32) * (M_rightRow v1 v2)) + (M_rightColumn v1 v2))) (fun c5 => ?_) (fun c5 => ?_))
      · have c5 : ¬ (mk.2.2.1 ((6:Int32) + (((6:Int32) * (M_leftRow v1 v2)) + (M_leftColumn v1 v2))).toNatClampNeg) = (((6:Int32) * (M_rightRow v1 v2)) + (M_rightColumn v1 v2)) := c5
        refine stp hm 1 (?_ : sxWP sc cl Q 174 (67, [some (.ref 59), some (.int v1), some (.int v2), some (.int (((6:Int32) * (M_leftRow v1 v2)) + (M_leftColumn v1 v2)))], [.int (1:Int32)], (cW nw kp im ol sn sr tp (mW mk mg mt mc T)), 0, 0))
        exact m4 _ (by rw [if_neg c5])
      · have c5 : (mk.2.2.1 ((6:Int32) + (((6:Int32) * (M_leftRow v1 v2)) + (M_leftColumn v1 v2))).toNatClampNeg) = (((6:Int32) * (M_rightRow v1 v2)) + (M_rightColumn v1 v2)) := c5
        refine stp hm 2 (?_ : sxWP sc cl Q 174 (67, [some (.ref 59), some (.int v1), some (.int v2), some (.int (((6:Int32) * (M_leftRow v1 v2)) + (M_leftColumn v1 v2)))], [.int (-3:Int32)], (cW nw kp im ol sn sr tp (mW mk mg mt mc T)), 0, 0))
        exact m4 _ (by rw [if_pos c5])
    · show sxWP sc cl Q 174 (18, [some (.ref 59), some (.int v1), some (.int v2), none], [], (cW nw kp im ol sn sr tp (mW mk mg mt mc T)), 0, 0)
      exact J18 _ _ _ _ hf
end PT
