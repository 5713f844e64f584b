/-! methods as functions (printed by wip/whole/dec) -/
section PT
variable {sc : sxS} {d : Nat} {Q : sxR} {hp : sxH} {call cl : sxX} {nw kp : tSt} {im : Int32} {ol : tOl} {sn : tSn} {sr : tSc} {tp : Nat → tTp} {mk : tMk} {mg : tMg} {mt : tMt} {mc : tMc} {T : sxH}

def M_walkedHeight_s11   (ms : (Nat → Int32)) (s : (Int32 × Int32 × Int32)) : Option ((Int32 × Int32 × Int32) ⊕ Int32) := grd (gi (2:Int32) 122) (if (ms (2:Int32).toNatClampNeg) ≤ s.2.2 then (some (Sum.inr s.2.1)) else (grd (gi ((42:Int32) + s.2.2) 122) (grd (gi ((42:Int32) + s.2.2) 122) (some (Sum.inl (M_onBy s.1 (ms ((42:Int32) + s.2.2).toNatClampNeg), s.2.1 + (M_heightOf s.1 (ms ((42:Int32) + s.2.2).toNatClampNeg)), s.2.2 + (1:Int32)))))))
def M_walkedHeight  (ms : (Nat → Int32)) : Option Int32 := grd (gi (1:Int32) 122) (Option.bind (wh (M_walkedHeight_s11 ms) FU (ms (1:Int32).toNatClampNeg, (0:Int32), (0:Int32))) (fun w2 => some w2))
set_option maxRecDepth 10000 in
theorem M_walkedHeight_l11    (hE : cl = sxE sc (d + 2)) (hm : CallMono cl) : ∀ (n : Nat) (s : (Int32 × Int32 × Int32)) (r : Int32), wh (M_walkedHeight_s11 mk.2.2.1) n s = some r → (∀ (z0 z1 z3 : Option Value), sxWP sc cl Q 184 (57, [z0, z1, some (.int r), z3], [], (cW nw kp im ol sn sr tp (mW mk mg mt mc T)), 0, 0)) → sxWP sc cl Q 184 (11, [some (.ref 59), some (.int s.1), some (.int s.2.1), some (.int s.2.2)], [], (cW nw kp im ol sn sr tp (mW mk mg mt mc T)), 0, 0) := by
  refine wh_run (A := fun (s : (Int32 × Int32 × Int32)) => sxWP sc cl Q 184 (11, [some (.ref 59), some (.int s.1), some (.int s.2.1), some (.int s.2.2)], [], (cW nw kp im ol sn sr tp (mW mk mg mt mc T)), 0, 0)) (B := fun (r : Int32) => ∀ (z0 z1 z3 : Option Value), sxWP sc cl Q 184 (57, [z0, z1, some (.int r), z3], [], (cW nw kp im ol sn sr tp (mW mk mg mt mc T)), 0, 0)) (fun s x hf hA hB => ?_)
  unfold M_walkedHeight_s11 at hf
  obtain ⟨g1, hf⟩ := grd_e hf
  refine stp hm 5 (And.intro (gi_in g1) (?_ : sxWP sc cl Q 184 (18, [some (.ref 59), some (.int s.1), some (.int s.2.1), some (.int s.2.2)], [.int (mk.2.2.1 (2:Int32).toNatClampNeg), .int s.2.2], (cW nw kp im ol sn sr tp (mW mk mg mt mc T)), 0, 0)))
  refine stp hm 1 (br hf (fun c2 hf => ?_) (fun c2 hf => ?_))
  · show sxWP sc cl Q 184 (57, [some (.ref 59), some (.int s.1), some (.int s.2.1), some (.int s.2.2)], [], (cW nw kp im ol sn sr tp (mW mk mg mt mc T)), 0, 0)
    obtain rfl := Option.some.inj hf
    exact hB _ rfl _ _ _
  · show sxWP sc cl Q 184 (21, [some (.ref 59), some (.int s.1), some (.int s.2.1), some (.int s.2.2)], [], (cW nw kp im ol sn sr tp (mW mk mg mt mc T)), 0, 0)
    obtain ⟨g3, hf⟩ := grd_e hf
    refine stp hm 8 (And.intro (gi_in g3) (?_ : sxWP sc cl Q 184 (32, [some (.ref 59), some (.int s.1), some (.int s.2.1), some (.int s.2.2)], [.int (mk.2.2.1 ((42:Int32) + s.2.2).toNatClampNeg), .int s.1, .int s.2.1], (cW nw kp im ol sn sr tp (mW mk mg mt mc T)), 0, 0)))
    refine stp hm 1 (M_heightOf_ok hE rfl ?_)
    show sxWP sc cl Q 184 (35, [some (.ref 59), some (.int s.1), some (.int s.2.1), some (.int s.2.2)], [.int (M_heightOf s.1 (mk.2.2.1 ((42:Int32) + s.2.2).toNatClampNeg)), .int s.2.1], (cW nw kp im ol sn sr tp (mW mk mg mt mc T)), 0, 0)
    obtain ⟨g4, hf⟩ := grd_e hf
    refine stp hm 9 (And.intro (gi_in g4) (?_ : sxWP sc cl Q 184 (47, [some (.ref 59), some (.int s.1), some (.int (s.2.1 + (M_heightOf s.1 (mk.2.2.1 ((42:Int32) + s.2.2).toNatClampNeg)))), some (.int s.2.2)], [.int (mk.2.2.1 ((42:Int32) + s.2.2).toNatClampNeg), .int s.1], (cW nw kp im ol sn sr tp (mW mk mg mt mc T)), 0, 0)))
    refine stp hm 1 (M_onBy_ok hE rfl ?_)
    show sxWP sc cl Q 184 (50, [some (.ref 59), some (.int s.1), some (.int (s.2.1 + (M_heightOf s.1 (mk.2.2.1 ((42:Int32) + s.2.2).toNatClampNeg)))), some (.int s.2.2)], [.int (M_onBy s.1 (mk.2.2.1 ((42:Int32) + s.2.2).toNatClampNeg))], (cW nw kp im ol sn sr tp (mW mk mg mt mc T)), 0, 0)
    obtain rfl := Option.some.inj hf
    refine stp hm 3 (?_ : sxWP sc cl Q 184 (11, [some (.ref 59), some (.int (M_onBy s.1 (mk.2.2.1 ((42:Int32) + s.2.2).toNatClampNeg))), some (.int (s.2.1 + (M_heightOf s.1 (mk.2.2.1 ((42:Int32) + s.2.2).toNatClampNeg)))), some (.int (s.2.2 + (1:Int32)))], [], (cW nw kp im ol sn sr tp (mW mk mg mt mc T)), 0, 0))
    exact hA _ rfl
set_option maxRecDepth 10000 in
theorem M_walkedHeight_ok  {q : Int32} (hc : call = sxE sc (d + 3)) (hf : M_walkedHeight mk.2.2.1 = some q) (h : Q (some (.int q)) (cW nw kp im ol sn sr tp (mW mk mg mt mc T))) : call 184 [.ref 59] (cW nw kp im ol sn sr tp (mW mk mg mt mc T)) Q := by
  refine ent hc rfl (fun cl hE hm => ?_)
  unfold M_walkedHeight at hf
  obtain ⟨g1, hf⟩ := grd_e hf
  refine stp hm 4 (And.intro (gi_in g1) (?_ : sxWP sc cl Q 184 (6, [some (.ref 59), none, none, none], [.int (mk.2.2.1 (1:Int32).toNatClampNeg)], (cW nw kp im ol sn sr tp (mW mk mg mt mc T)), 0, 0)))
  obtain ⟨w2, hw2, hf⟩ := bnd hf
  refine stp hm 5 (?_ : sxWP sc cl Q 184 (11, [some (.ref 59), some (.int (mk.2.2.1 (1:Int32).toNatClampNeg)), some (.int (0:Int32)), some (.int (0:Int32))], [], (cW nw kp im ol sn sr tp (mW mk mg mt mc T)), 0, 0))
  refine M_walkedHeight_l11 hE hm _ _ _ hw2 ?_
  intro w2_z0 w2_z1 w2_z3
  show sxWP sc cl Q 184 (57, [w2_z0, w2_z1, some (.int w2), w2_z3], [], (cW nw kp im ol sn sr tp (mW mk mg mt mc T)), 0, 0)
  obtain rfl := Option.some.inj hf
  refine stp hm 2 ?_
  exact h

def M_shortened_j64  (v1 : Int32) (v2 : Int32) (gpi_j : (Nat → Int32)) : Option ((Int32 × Int32 × (Nat → Int32)) ⊕ (Int32 × (Nat → Int32))) := some (Sum.inl (v1, v2 + (1:Int32), gpi_j))
def M_shortened_j46  (v1 : Int32) (v2 : Int32) (gpi_j : (Nat → Int32)) (ms : (Nat → Int32)) : Option ((Int32 × Int32 × (Nat → Int32)) ⊕ (Int32 × (Nat → Int32))) := grd (gi ((42:Int32) + v2) 122) (grd (gi v1 64) (M_shortened_j64 (v1 + (1:Int32)) v2 (upd gpi_j v1.toNatClampNeg (ms ((42:Int32) + v2).toNatClampNeg))))
def M_shortened_s4   (ms : (Nat → Int32)) (s : (Int32 × Int32 × (Nat → Int32))) : Option ((Int32 × Int32 × (Nat → Int32)) ⊕ (Int32 × (Nat → Int32))) := grd (gi (2:Int32) 122) (if (ms (2:Int32).toNatClampNeg) ≤ s.2.1 then (some (Sum.inr (s.1, s.2.2))) else (if s.1 ≤ (0:Int32) then (M_shortened_j46 s.1 s.2.1 s.2.2 ms) else (grd (gi (s.1 - (1:Int32)) 64) (grd (gi ((42:Int32) + s.2.1) 122) (if ((s.2.2 (s.1 - (1:Int32)).toNatClampNeg) ^^^ (ms ((42:Int32) + s.2.1).toNatClampNeg)) = (2:Int32) then (M_shortened_j64 (s.1 + (-1:Int32)) s.2.1 s.2.2) else (M_shortened_j46 s.1 s.2.1 s.2.2 ms))))))
def M_shortened  (ms : (Nat → Int32)) (gpi : (Nat → Int32)) : Option (Int32 × (Nat → Int32)) := Option.bind (wh (M_shortened_s4 ms) FU ((0:Int32), (0:Int32), gpi)) (fun w1 => some (w1.1, w1.2))
set_option maxRecDepth 10000 in
theorem M_shortened_l4    (hE : cl = sxE sc (d + 0)) (hm : CallMono cl) : ∀ (n : Nat) (s : (Int32 × Int32 × (Nat → Int32))) (r : (Int32 × (Nat → Int32))), wh (M_shortened_s4 mk.2.2.1) n s = some r → (∀ (z0 z2 : Option Value), sxWP sc cl Q 183 (70, [z0, some (.int r.1), z2], [], (cW nw kp im ol sn sr tp (mW mk (mg.1, r.2, mg.2.2.1, mg.2.2.2.1, mg.2.2.2.2.1, mg.2.2.2.2.2.1, mg.2.2.2.2.2.2.1, mg.2.2.2.2.2.2.2.1, mg.2.2.2.2.2.2.2.2.1, mg.2.2.2.2.2.2.2.2.2.1, mg.2.2.2.2.2.2.2.2.2.2.1, mg.2.2.2.2.2.2.2.2.2.2.2.1, mg.2.2.2.2.2.2.2.2.2.2.2.2) mt mc T)), 0, 0)) → sxWP sc cl Q 183 (4, [some (.ref 59), some (.int s.1), some (.int s.2.1)], [], (cW nw kp im ol sn sr tp (mW mk (mg.1, s.2.2, mg.2.2.1, mg.2.2.2.1, mg.2.2.2.2.1, mg.2.2.2.2.2.1, mg.2.2.2.2.2.2.1, mg.2.2.2.2.2.2.2.1, mg.2.2.2.2.2.2.2.2.1, mg.2.2.2.2.2.2.2.2.2.1, mg.2.2.2.2.2.2.2.2.2.2.1, mg.2.2.2.2.2.2.2.2.2.2.2.1, mg.2.2.2.2.2.2.2.2.2.2.2.2) mt mc T)), 0, 0) := by
  refine wh_run (A := fun (s : (Int32 × Int32 × (Nat → Int32))) => sxWP sc cl Q 183 (4, [some (.ref 59), some (.int s.1), some (.int s.2.1)], [], (cW nw kp im ol sn sr tp (mW mk (mg.1, s.2.2, mg.2.2.1, mg.2.2.2.1, mg.2.2.2.2.1, mg.2.2.2.2.2.1, mg.2.2.2.2.2.2.1, mg.2.2.2.2.2.2.2.1, mg.2.2.2.2.2.2.2.2.1, mg.2.2.2.2.2.2.2.2.2.1, mg.2.2.2.2.2.2.2.2.2.2.1, mg.2.2.2.2.2.2.2.2.2.2.2.1, mg.2.2.2.2.2.2.2.2.2.2.2.2) mt mc T)), 0, 0)) (B := fun (r : (Int32 × (Nat → Int32))) => ∀ (z0 z2 : Option Value), sxWP sc cl Q 183 (70, [z0, some (.int r.1), z2], [], (cW nw kp im ol sn sr tp (mW mk (mg.1, r.2, mg.2.2.1, mg.2.2.2.1, mg.2.2.2.2.1, mg.2.2.2.2.2.1, mg.2.2.2.2.2.2.1, mg.2.2.2.2.2.2.2.1, mg.2.2.2.2.2.2.2.2.1, mg.2.2.2.2.2.2.2.2.2.1, mg.2.2.2.2.2.2.2.2.2.2.1, mg.2.2.2.2.2.2.2.2.2.2.2.1, mg.2.2.2.2.2.2.2.2.2.2.2.2) mt mc T)), 0, 0)) (fun s x hf hA hB => ?_)
  have J64 : ∀ (v1 : Int32) (v2 : Int32) (gpi_j : (Nat → Int32)), M_shortened_j64 v1 v2 gpi_j = some x → sxWP sc cl Q 183 (64, [some (.ref 59), some (.int v1), some (.int v2)], [], (cW nw kp im ol sn sr tp (mW mk (mg.1, gpi_j, mg.2.2.1, mg.2.2.2.1, mg.2.2.2.2.1, mg.2.2.2.2.2.1, mg.2.2.2.2.2.2.1, mg.2.2.2.2.2.2.2.1, mg.2.2.2.2.2.2.2.2.1, mg.2.2.2.2.2.2.2.2.2.1, mg.2.2.2.2.2.2.2.2.2.2.1, mg.2.2.2.2.2.2.2.2.2.2.2.1, mg.2.2.2.2.2.2.2.2.2.2.2.2) mt mc T)), 0, 0) := by
    intro v1 v2 gpi_j hf
    unfold M_shortened_j64 at hf
    obtain rfl := Option.some.inj hf
    refine stp hm 2 (?_ : sxWP sc cl Q 183 (4, [some (.ref 59), some (.int v1), some (.int (v2 + (1:Int32)))], [], (cW nw kp im ol sn sr tp (mW mk (mg.1, gpi_j, mg.2.2.1, mg.2.2.2.1, mg.2.2.2.2.1, mg.2.2.2.2.2.1, mg.2.2.2.2.2.2.1, mg.2.2.2.2.2.2.2.1, mg.2.2.2.2.2.2.2.2.1, mg.2.2.2.2.2.2.2.2.2.1, mg.2.2.2.2.2.2.2.2.2.2.1, mg.2.2.2.2.2.2.2.2.2.2.2.1, mg.2.2.2.2.2.2.2.2.2.2.2.2) mt mc T)), 0, 0))
    exact hA _ rfl
  have J46 : ∀ (v1 : Int32) (v2 : Int32) (gpi_j : (Nat → Int32)), M_shortened_j46 v1 v2 gpi_j mk.2.2.1 = some x → sxWP sc cl Q 183 (46, [some (.ref 59), some (.int v1), some (.int v2)], [], (cW nw kp im ol sn sr tp (mW mk (mg.1, gpi_j, mg.2.2.1, mg.2.2.2.1, mg.2.2.2.2.1, mg.2.2.2.2.2.1, mg.2.2.2.2.2.2.1, mg.2.2.2.2.2.2.2.1, mg.2.2.2.2.2.2.2.2.1, mg.2.2.2.2.2.2.2.2.2.1, mg.2.2.2.2.2.2.2.2.2.2.1, mg.2.2.2.2.2.2.2.2.2.2.2.1, mg.2.2.2.2.2.2.2.2.2.2.2.2) mt mc T)), 0, 0) := by
    intro v1 v2 gpi_j hf
    unfold M_shortened_j46 at hf
    obtain ⟨g1, hf⟩ := grd_e hf
    refine stp hm 9 (And.intro (gi_in g1) (?_ : sxWP sc cl Q 183 (60, [some (.ref 59), some (.int v1), some (.int v2)], [.int (mk.2.2.1 ((42:Int32) + v2).toNatClampNeg), .int v1, .ref 67], (cW nw kp im ol sn sr tp (mW mk (mg.1, gpi_j, mg.2.2.1, mg.2.2.2.1, mg.2.2.2.2.1, mg.2.2.2.2.2.1, mg.2.2.2.2.2.2.1, mg.2.2.2.2.2.2.2.1, mg.2.2.2.2.2.2.2.2.1, mg.2.2.2.2.2.2.2.2.2.1, mg.2.2.2.2.2.2.2.2.2.2.1, mg.2.2.2.2.2.2.2.2.2.2.2.1, mg.2.2.2.2.2.2.2.2.2.2.2.2) mt mc T)), 0, 0)))
    obtain ⟨g2, hf⟩ := grd_e hf
    refine stp hm 1 (And.intro (gi_in g2) (?_ : sxWP sc cl Q 183 (61, [some (.ref 59), some (.int v1), some (.int v2)], [], (cW nw kp im ol sn sr tp (mW mk (mg.1, upd gpi_j v1.toNatClampNeg (mk.2.2.1 ((42:Int32) + v2).toNatClampNeg), mg.2.2.1, mg.2.2.2.1, mg.2.2.2.2.1, mg.2.2.2.2.2.1, mg.2.2.2.2.2.2.1, mg.2.2.2.2.2.2.2.1, mg.2.2.2.2.2.2.2.2.1, mg.2.2.2.2.2.2.2.2.2.1, mg.2.2.2.2.2.2.2.2.2.2.1, mg.2.2.2.2.2.2.2.2.2.2.2.1, mg.2.2.2.2.2.2.2.2.2.2.2.2) mt mc T)), 0, 0)))
    refine stp hm 1 (?_ : sxWP sc cl Q 183 (64, [some (.ref 59), some (.int (v1 + (1:Int32))), some (.int v2)], [], (cW nw kp im ol sn sr tp (mW mk (mg.1, upd gpi_j v1.toNatClampNeg (mk.2.2.1 ((42:Int32) + v2).toNatClampNeg), mg.2.2.1, mg.2.2.2.1, mg.2.2.2.2.1, mg.2.2.2.2.2.1, mg.2.2.2.2.2.2.1, mg.2.2.2.2.2.2.2.1, mg.2.2.2.2.2.2.2.2.1, mg.2.2.2.2.2.2.2.2.2.1, mg.2.2.2.2.2.2.2.2.2.2.1, mg.2.2.2.2.2.2.2.2.2.2.2.1, mg.2.2.2.2.2.2.2.2.2.2.2.2) mt mc T)), 0, 0))
    exact J64 _ _ _ hf
  unfold M_shortened_s4 at hf
  obtain ⟨g3, hf⟩ := grd_e hf
  refine stp hm 5 (And.intro (gi_in g3) (?_ : sxWP sc cl Q 183 (11, [some (.ref 59), some (.int s.1), some (.int s.2.1)], [.int (mk.2.2.1 (2:Int32).toNatClampNeg), .int s.2.1], (cW nw kp im ol sn sr tp (mW mk (mg.1, s.2.2, mg.2.2.1, mg.2.2.2.1, mg.2.2.2.2.1, mg.2.2.2.2.2.1, mg.2.2.2.2.2.2.1, mg.2.2.2.2.2.2.2.1, mg.2.2.2.2.2.2.2.2.1, mg.2.2.2.2.2.2.2.2.2.1, mg.2.2.2.2.2.2.2.2.2.2.1, mg.2.2.2.2.2.2.2.2.2.2.2.1, mg.2.2.2.2.2.2.2.2.2.2.2.2) mt mc T)), 0, 0)))
  refine stp hm 1 (br hf (fun c4 hf => ?_) (fun c4 hf => ?_))
  · show sxWP sc cl Q 183 (70, [some (.ref 59), some (.int s.1), some (.int s.2.1)], [], (cW nw kp im ol sn sr tp (mW mk (mg.1, s.2.2, mg.2.2.1, mg.2.2.2.1, mg.2.2.2.2.1, mg.2.2.2.2.2.1, mg.2.2.2.2.2.2.1, mg.2.2.2.2.2.2.2.1, mg.2.2.2.2.2.2.2.2.1, mg.2.2.2.2.2.2.2.2.2.1, mg.2.2.2.2.2.2.2.2.2.2.1, mg.2.2.2.2.2.2.2.2.2.2.2.1, mg.2.2.2.2.2.2.2.2.2.2.2.2) mt mc T)), 0, 0)
    obtain rfl := Option.some.inj hf
    exact hB _ rfl _ _
  · show sxWP sc cl Q 183 (14, [some (.ref 59), some (.int s.1), some (.int s.2.1)], [], (cW nw kp im ol sn sr tp (mW mk (mg.1, s.2.2, mg.2.2.1, mg.2.2.2.1, mg.2.2.2.2.1, mg.2.2.2.2.2.1, mg.2.2.2.2.2.2.1, mg.2.2.2.2.2.2.2.1, mg.2.2.2.2.2.2.2.2.1, mg.2.2.2.2.2.2.2.2.2.1, mg.2.2.2.2.2.2.2.2.2.2.1, mg.2.2.2.2.2.2.2.2.2.2.2.1, mg.2.2.2.2.2.2.2.2.2.2.2.2) mt mc T)), 0, 0)
    refine stp hm 2 (br hf (fun c5 hf => ?_) (fun c5 hf => ?_))
    · show sxWP sc cl Q 183 (46, [some (.ref 59), some (.int s.1), some (.int s.2.1)], [], (cW nw kp im ol sn sr tp (mW mk (mg.1, s.2.2, mg.2.2.1, mg.2.2.2.1, mg.2.2.2.2.1, mg.2.2.2.2.2.1, mg.2.2.2.2.2.2.1, mg.2.2.2.2.2.2.2.1, mg.2.2.2.2.2.2.2.2.1, mg.2.2.2.2.2.2.2.2.2.1, mg.2.2.2.2.2.2.2.2.2.2.1, mg.2.2.2.2.2.2.2.2.2.2.2.1, mg.2.2.2.2.2.2.2.2.2.2.2.2) mt mc T)), 0, 0)
      exact J46 _ _ _ hf
    · show sxWP sc cl Q 183 (18, [some (.ref 59), some (.int s.1), some (.int s.2.1)], [], (cW nw kp im ol sn sr tp (mW mk (mg.1, s.2.2, mg.2.2.1, mg.2.2.2.1, mg.2.2.2.2.1, mg.2.2.2.2.2.1, mg.2.2.2.2.2.2.1, mg.2.2.2.2.2.2.2.1, mg.2.2.2.2.2.2.2.2.1, mg.2.2.2.2.2.2.2.2.2.1, mg.2.2.2.2.2.2.2.2.2.2.1, mg.2.2.2.2.2.2.2.2.2.2.2.1, mg.2.2.2.2.2.2.2.2.2.2.2.2) mt mc T)), 0, 0)
      obtain ⟨g6, hf⟩ := grd_e hf
      refine stp hm 6 (And.intro (gi_in g6) (?_ : sxWP sc cl Q 183 (26, [some (.ref 59), some (.int s.1), some (.int s.2.1)], [.int (s.2.2 (s.1 - (1:Int32)).toNatClampNeg)], (cW nw kp im ol sn sr tp (mW mk (mg.1, s.2.2, mg.2.2.1, mg.2.2.2.1, mg.2.2.2.2.1, mg.2.2.2.2.2.1, mg.2.2.2.2.2.2.1, mg.2.2.2.2.2.2.2.1, mg.2.2.2.2.2.2.2.2.1, mg.2.2.2.2.2.2.2.2.2.1, mg.2.2.2.2.2.2.2.2.2.2.1, mg.2.2.2.2.2.2.2.2.2.2.2.1, mg.2.2.2.2.2.2.2.2.2.2.2.2) mt mc T)), 0, 0)))
      obtain ⟨g7, hf⟩ := grd_e hf
      refine stp hm 6 (And.intro (gi_in g7) (?_ : sxWP sc cl Q 183 (35, [some (.ref 59), some (.int s.1), some (.int s.2.1)], [.int (mk.2.2.1 ((42:Int32) + s.2.1).toNatClampNeg), .int (s.2.2 (s.1 - (1:Int32)).toNatClampNeg)], (cW nw kp im ol sn sr tp (mW mk (mg.1, s.2.2, mg.2.2.1, mg.2.2.2.1, mg.2.2.2.2.1, mg.2.2.2.2.2.1, mg.2.2.2.2.2.2.1, mg.2.2.2.2.2.2.2.1, mg.2.2.2.2.2.2.2.2.1, mg.2.2.2.2.2.2.2.2.2.1, mg.2.2.2.2.2.2.2.2.2.2.1, mg.2.2.2.2.2.2.2.2.2.2.2.1, mg.2.2.2.2.2.2.2.2.2.2.2.2) mt mc T)), 0, 0)))
      refine stp hm 3 (brn hf (fun c8 hf => ?_) (fun c8 hf => ?_))
      · show sxWP sc cl Q 183 (46, [some (.ref 59), some (.int s.1), some (.int s.2.1)], [], (cW nw kp im ol sn sr tp (mW mk (mg.1, s.2.2, mg.2.2.1, mg.2.2.2.1, mg.2.2.2.2.1, mg.2.2.2.2.2.1, mg.2.2.2.2.2.2.1, mg.2.2.2.2.2.2.2.1, mg.2.2.2.2.2.2.2.2.1, mg.2.2.2.2.2.2.2.2.2.1, mg.2.2.2.2.2.2.2.2.2.2.1, mg.2.2.2.2.2.2.2.2.2.2.2.1, mg.2.2.2.2.2.2.2.2.2.2.2.2) mt mc T)), 0, 0)
        exact J46 _ _ _ hf
      · show sxWP sc cl Q 183 (40, [some (.ref 59), some (.int s.1), some (.int s.2.1)], [], (cW nw kp im ol sn sr tp (mW mk (mg.1, s.2.2, mg.2.2.1, mg.2.2.2.1, mg.2.2.2.2.1, mg.2.2.2.2.2.1, mg.2.2.2.2.2.2.1, mg.2.2.2.2.2.2.2.1, mg.2.2.2.2.2.2.2.2.1, mg.2.2.2.2.2.2.2.2.2.1, mg.2.2.2.2.2.2.2.2.2.2.1, mg.2.2.2.2.2.2.2.2.2.2.2.1, mg.2.2.2.2.2.2.2.2.2.2.2.2) mt mc T)), 0, 0)
        refine stp hm 2 (?_ : sxWP sc cl Q 183 (64, [some (.ref 59), some (.int (s.1 + (-1:Int32))), some (.int s.2.1)], [], (cW nw kp im ol sn sr tp (mW mk (mg.1, s.2.2, mg.2.2.1, mg.2.2.2.1, mg.2.2.2.2.1, mg.2.2.2.2.2.1, mg.2.2.2.2.2.2.1, mg.2.2.2.2.2.2.2.1, mg.2.2.2.2.2.2.2.2.1, mg.2.2.2.2.2.2.2.2.2.1, mg.2.2.2.2.2.2.2.2.2.2.1, mg.2.2.2.2.2.2.2.2.2.2.2.1, mg.2.2.2.2.2.2.2.2.2.2.2.2) mt mc T)), 0, 0))
        exact J64 _ _ _ hf
set_option maxRecDepth 10000 in
theorem M_shortened_ok  {q : (Int32 × (Nat → Int32))} (hc : call = sxE sc (d + 1)) (hf : M_shortened mk.2.2.1 mg.2.1 = some q) (h : Q (some (.int q.1)) (cW nw kp im ol sn sr tp (mW mk (mg.1, q.2, mg.2.2.1, mg.2.2.2.1, mg.2.2.2.2.1, mg.2.2.2.2.2.1, mg.2.2.2.2.2.2.1, mg.2.2.2.2.2.2.2.1, mg.2.2.2.2.2.2.2.2.1, mg.2.2.2.2.2.2.2.2.2.1, mg.2.2.2.2.2.2.2.2.2.2.1, mg.2.2.2.2.2.2.2.2.2.2.2.1, mg.2.2.2.2.2.2.2.2.2.2.2.2) mt mc T))) : call 183 [.ref 59] (cW nw kp im ol sn sr tp (mW mk mg mt mc T)) Q := by
  refine ent hc rfl (fun cl hE hm => ?_)
  unfold M_shortened at hf
  obtain ⟨w1, hw1, hf⟩ := bnd hf
  refine stp hm 4 (?_ : sxWP sc cl Q 183 (4, [some (.ref 59), some (.int (0:Int32)), some (.int (0:Int32))], [], (cW nw kp im ol sn sr tp (mW mk mg mt mc T)), 0, 0))
  refine M_shortened_l4 hE hm _ _ _ hw1 ?_
  intro w1_z0 w1_z2
  show sxWP sc cl Q 183 (70, [w1_z0, some (.int w1.1), w1_z2], [], (cW nw kp im ol sn sr tp (mW mk (mg.1, w1.2, mg.2.2.1, mg.2.2.2.1, mg.2.2.2.2.1, mg.2.2.2.2.2.1, mg.2.2.2.2.2.2.1, mg.2.2.2.2.2.2.2.1, mg.2.2.2.2.2.2.2.2.1, mg.2.2.2.2.2.2.2.2.2.1, mg.2.2.2.2.2.2.2.2.2.2.1, mg.2.2.2.2.2.2.2.2.2.2.2.1, mg.2.2.2.2.2.2.2.2.2.2.2.2) mt mc T)), 0, 0)
  obtain rfl := Option.some.inj hf
  refine stp hm 2 ?_
  exact h

def M_walked (v1 : Int32) (ms : (Nat → Int32)) (gpi : (Nat → Int32)) : Option (Int32 × (Nat → Int32)) := if v1 = (0:Int32) then (grd (gi (2:Int32) 122) (some (ms (2:Int32).toNatClampNeg, gpi))) else (if v1 = (1:Int32) then (grd (gi (1:Int32) 122) (some (ms (1:Int32).toNatClampNeg, gpi))) else (if v1 = (2:Int32) then (Option.bind (M_ends ms) (fun q4 => some (q4, gpi))) else (if v1 = (3:Int32) then (Option.bind (M_ends ms) (fun q5 => grd (gi (1:Int32) 122) (some (if q5 = (ms (1:Int32).toNatClampNeg) then (1:Int32) else (0:Int32), gpi)))) else (if v1 = (4:Int32) then (Option.bind (M_shortened ms gpi) (fun q9 => some (q9.1, q9.2))) else (if v1 = (5:Int32) then (Option.bind (M_walkedHeight ms) (fun q10 => some (q10 + (1000:Int32), gpi))) else (some ((-1:Int32), gpi)))))))
set_option maxRecDepth 10000 in
theorem M_walked_ok {v1 : Int32} {q : (Int32 × (Nat → Int32))} (hc : call = sxE sc (d + 4)) (hf : M_walked v1 mk.2.2.1 mg.2.1 = some q) (h : Q (some (.int q.1)) (cW nw kp im ol sn sr tp (mW mk (mg.1, q.2, mg.2.2.1, mg.2.2.2.1, mg.2.2.2.2.1, mg.2.2.2.2.2.1, mg.2.2.2.2.2.2.1, mg.2.2.2.2.2.2.2.1, mg.2.2.2.2.2.2.2.2.1, mg.2.2.2.2.2.2.2.2.2.1, mg.2.2.2.2.2.2.2.2.2.2.1, mg.2.2.2.2.2.2.2.2.2.2.2.1, mg.2.2.2.2.2.2.2.2.2.2.2.2) mt mc T))) : call 185 [.ref 59, .int v1] (cW nw kp im ol sn sr tp (mW mk mg mt mc T)) Q := by
  refine ent hc rfl (fun cl hE hm => ?_)
  unfold M_walked at hf
  refine stp hm 2 ?_
  show sxWP sc cl Q 185 ((swT (v1).toInt (0) [40, 47, 54, 59, 78, 83] 92), [some (.ref 59), some (.int v1)], [], (cW nw kp im ol sn sr tp (mW mk mg mt mc T)), 0, 0)
  rcases ite_or hf with ⟨c1_0, hf⟩ | ⟨c1_0, hf⟩
  · rw [show swT (v1).toInt (0) [40, 47, 54, 59, 78, 83] 92 = 40 by rw [c1_0]; rfl]
    obtain ⟨g2, hf⟩ := grd_e hf
    refine stp hm 4 (And.intro (gi_in g2) (?_ : sxWP sc cl Q 185 (46, [some (.ref 59), some (.int v1)], [.int (mk.2.2.1 (2:Int32).toNatClampNeg)], (cW nw kp im ol sn sr tp (mW mk mg mt mc T)), 0, 0)))
    obtain rfl := Option.some.inj hf
    refine stp hm 1 ?_
    exact h
  rcases ite_or hf with ⟨c1_1, hf⟩ | ⟨c1_1, hf⟩
  · rw [show swT (v1).toInt (0) [40, 47, 54, 59, 78, 83] 92 = 47 by rw [c1_1]; rfl]
    obtain ⟨g3, hf⟩ := grd_e hf
    refine stp hm 4 (And.intro (gi_in g3) (?_ : sxWP sc cl Q 185 (53, [some (.ref 59), some (.int v1)], [.int (mk.2.2.1 (1:Int32).toNatClampNeg)], (cW nw kp im ol sn sr tp (mW mk mg mt mc T)), 0, 0)))
    obtain rfl := Option.some.inj hf
    refine stp hm 1 ?_
    exact h
  rcases ite_or hf with ⟨c1_2, hf⟩ | ⟨c1_2, hf⟩
  · rw [show swT (v1).toInt (0) [40, 47, 54, 59, 78, 83] 92 = 54 by rw [c1_2]; rfl]
    obtain ⟨q4, hq4, hf⟩ := bnd hf
    refine stp hm 2 (M_ends_ok hE hq4 ?_)
    show sxWP sc cl Q 185 (58, [some (.ref 59), some (.int v1)], [.int q4], (cW nw kp im ol sn sr tp (mW mk mg mt mc T)), 0, 0)
    obtain rfl := Option.some.inj hf
    refine stp hm 1 ?_
    exact h
  rcases ite_or hf with ⟨c1_3, hf⟩ | ⟨c1_3, hf⟩
  · rw [show swT (v1).toInt (0) [40, 47, 54, 59, 78, 83] 92 = 59 by rw [c1_3]; rfl]
    obtain ⟨q5, hq5, hf⟩ := bnd hf
    refine stp hm 2 (M_ends_ok hE hq5 ?_)
    show sxWP sc cl Q 185 (63, [some (.ref 59), some (.int v1)], [.int q5], (cW nw kp im ol sn sr tp (mW mk mg mt mc T)), 0, 0)
    obtain ⟨g6, hf⟩ := grd_e hf
    refine stp hm 4 (And.intro (gi_in g6) (?_ : sxWP sc cl Q 185 (69, [some (.ref 59), some (.int v1)], [.int (mk.2.2.1 (1:Int32).toNatClampNeg), .int q5], (cW nw kp im ol sn sr tp (mW mk mg mt mc T)), 0, 0)))
    have m7 : ∀ (m7_0 : Int32), m7_0 = (if q5 = (mk.2.2.1 (1:Int32).toNatClampNeg) then (1:Int32) else (0:Int32)) → sxWP sc cl Q 185 (77, [some (.ref 59), some (.int v1)], [.int m7_0], (cW nw kp im ol sn sr tp (mW mk mg mt mc T)), 0, 0) := by
      intro m7_0 em7_0
      subst em7_0
      obtain rfl := Option.some.inj hf
      refine stp hm 1 ?_
      exact h
    refine stp hm 1 (bsn (c := q5 = (mk.2.2.1 (1:Int32).toNatClampNeg)) (fun c8 => ?_) (fun c8 => ?_))
    · have c8 : ¬ q5 = (mk.2.2.1 (1:Int32).toNatClampNeg) := c8
      refine stp hm 1 (?_ : sxWP sc cl Q 185 (77, [some (.ref 59), some (.int v1)], [.int (0:Int32)], (cW nw kp im ol sn sr tp (mW mk mg mt mc T)), 0, 0))
      exact m7 _ (by rw [if_neg c8])
    · have c8 : q5 = (mk.2.2.1 (1:Int32).toNatClampNeg) := c8
      refine stp hm 2 (?_ : sxWP sc cl Q 185 (77, [some (.ref 59), some (.int v1)], [.int (1:Int32)], (cW nw kp im ol sn sr tp (mW mk mg mt mc T)), 0, 0))
      exact m7 _ (by rw [if_pos c8])
  rcases ite_or hf with ⟨c1_4, hf⟩ | ⟨c1_4, hf⟩
  · rw [show swT (v1).toInt (0) [40, 47, 54, 59, 78, 83] 92 = 78 by rw [c1_4]; rfl]
    obtain ⟨q9, hq9, hf⟩ := bnd hf
    refine stp hm 2 (M_shortened_ok hE hq9 ?_)
    show sxWP sc cl Q 185 (82, [some (.ref 59), some (.int v1)], [.int q9.1], (cW nw kp im ol sn sr tp (mW mk (mg.1, q9.2, mg.2.2.1, mg.2.2.2.1, mg.2.2.2.2.1, mg.2.2.2.2.2.1, mg.2.2.2.2.2.2.1, mg.2.2.2.2.2.2.2.1, mg.2.2.2.2.2.2.2.2.1, mg.2.2.2.2.2.2.2.2.2.1, mg.2.2.2.2.2.2.2.2.2.2.1, mg.2.2.2.2.2.2.2.2.2.2.2.1, mg.2.2.2.2.2.2.2.2.2.2.2.2) mt mc T)), 0, 0)
    obtain rfl := Option.some.inj hf
    refine stp hm 1 ?_
    exact h
  rcases ite_or hf with ⟨c1_5, hf⟩ | ⟨c1_5, hf⟩
  · rw [show swT (v1).toInt (0) [40, 47, 54, 59, 78, 83] 92 = 83 by rw [c1_5]; rfl]
    obtain ⟨q10, hq10, hf⟩ := bnd hf
    refine stp hm 2 (M_walkedHeight_ok hE hq10 ?_)
    show sxWP sc cl Q 185 (87, [some (.ref 59), some (.int v1)], [.int q10], (cW nw kp im ol sn sr tp (mW mk mg mt mc T)), 0, 0)
    obtain rfl := Option.some.inj hf
    refine stp hm 3 ?_
    exact h
  have tc1_0 : ¬ (v1).toInt = 0 := fun e => c1_0 (Int32.toInt_inj.mp e)
  have tc1_1 : ¬ (v1).toInt = 1 := fun e => c1_1 (Int32.toInt_inj.mp e)
  have tc1_2 : ¬ (v1).toInt = 2 := fun e => c1_2 (Int32.toInt_inj.mp e)
  have tc1_3 : ¬ (v1).toInt = 3 := fun e => c1_3 (Int32.toInt_inj.mp e)
  have tc1_4 : ¬ (v1).toInt = 4 := fun e => c1_4 (Int32.toInt_inj.mp e)
  have tc1_5 : ¬ (v1).toInt = 5 := fun e => c1_5 (Int32.toInt_inj.mp e)
  rw [show swT (v1).toInt (0) [40, 47, 54, 59, 78, 83] 92 = 92 by simp [swT, tc1_0, tc1_1, tc1_2, tc1_3, tc1_4, tc1_5]]
  obtain rfl := Option.some.inj hf
  refine stp hm 2 ?_
  exact h

def P_turnsRound_j116  (v2 : Int32) (v4 : Int32) (v5 : Int32) : Option ((Int32 × Int32 × Int32) ⊕ Int32) := some (Sum.inl (v2, v5, v4 + (1:Int32)))
def P_turnsRound_j97  (v2 : Int32) (v4 : Int32) (v5 : Int32) (v7 : Int32) (npw : (Nat → Int32)) : Option ((Int32 × Int32 × Int32) ⊕ Int32) := if v7 = (0:Int32) then (P_turnsRound_j116 v2 v4 v5) else (grd (gi v4 40) (P_turnsRound_j116 (if (npw v4.toNatClampNeg) = (3:Int32) then (v2 + (-1:Int32)) else v2) v4 v5))
def P_turnsRound_s10  (v1 : Int32) (npl : Int32) (npw : (Nat → Int32)) (s : (Int32 × Int32 × Int32)) : Option ((Int32 × Int32 × Int32) ⊕ Int32) := if npl ≤ s.2.2 then (some (Sum.inr s.1)) else (if (40:Int32) ≤ s.2.2 then (some (Sum.inr s.1)) else (grd (gi s.2.2 40) (if (if ((J_Math_min s.2.1 (G_next s.2.1 (npw s.2.2.toNatClampNeg))) / (7:Int32)) = (v1 / (6:Int32)) then (if ((J_Math_min s.2.1 (G_next s.2.1 (npw s.2.2.toNatClampNeg))) - (J_Math_min s.2.1 (G_next s.2.1 (npw s.2.2.toNatClampNeg))) / (7:Int32) * (7:Int32)) ≤ (v1 - v1 / (6:Int32) * (6:Int32)) then (0:Int32) else (1:Int32)) else (0:Int32)) = (0:Int32) then (P_turnsRound_j97 s.1 s.2.2 (G_next s.2.1 (npw s.2.2.toNatClampNeg)) (if ((J_Math_min s.2.1 (G_next s.2.1 (npw s.2.2.toNatClampNeg))) / (7:Int32)) = (v1 / (6:Int32)) then (if ((J_Math_min s.2.1 (G_next s.2.1 (npw s.2.2.toNatClampNeg))) - (J_Math_min s.2.1 (G_next s.2.1 (npw s.2.2.toNatClampNeg))) / (7:Int32) * (7:Int32)) ≤ (v1 - v1 / (6:Int32) * (6:Int32)) then (0:Int32) else (1:Int32)) else (0:Int32)) npw) else (grd (gi s.2.2 40) (P_turnsRound_j97 (if (npw s.2.2.toNatClampNeg) = (1:Int32) then (s.1 + (1:Int32)) else s.1) s.2.2 (G_next s.2.1 (npw s.2.2.toNatClampNeg)) (if ((J_Math_min s.2.1 (G_next s.2.1 (npw s.2.2.toNatClampNeg))) / (7:Int32)) = (v1 / (6:Int32)) then (if ((J_Math_min s.2.1 (G_next s.2.1 (npw s.2.2.toNatClampNeg))) - (J_Math_min s.2.1 (G_next s.2.1 (npw s.2.2.toNatClampNeg))) / (7:Int32) * (7:Int32)) ≤ (v1 - v1 / (6:Int32) * (6:Int32)) then (0:Int32) else (1:Int32)) else (0:Int32)) npw)))))
def P_turnsRound (v1 : Int32) (nps : Int32) (npl : Int32) (npw : (Nat → Int32)) : Option Int32 := Option.bind (wh (P_turnsRound_s10 v1 npl npw) FU ((0:Int32), nps, (0:Int32))) (fun w1 => some w1)
set_option maxRecDepth 10000 in
theorem P_turnsRound_l10 {v1 : Int32}   (hE : cl = sxE sc (d + 2)) (hm : CallMono cl) : ∀ (n : Nat) (s : (Int32 × Int32 × Int32)) (r : Int32), wh (P_turnsRound_s10 v1 nw.2.2.2.1.2.1 nw.2.2.2.1.2.2.1) n s = some r → (∀ (z0 z1 z3 z4 z5 z6 z7 : Option Value), sxWP sc cl Q 44 (125, [z0, z1, some (.int r), z3, z4, z5, z6, z7], [], (cW nw kp im ol sn sr tp (mW mk mg mt mc T)), 0, 0)) → ∀ (z5 z6 z7 : Option Value), sxWP sc cl Q 44 (10, [some (.ref 3), some (.int v1), some (.int s.1), some (.int s.2.1), some (.int s.2.2), z5, z6, z7], [], (cW nw kp im ol sn sr tp (mW mk mg mt mc T)), 0, 0) := by
  refine wh_run (A := fun (s : (Int32 × Int32 × Int32)) => ∀ (z5 z6 z7 : Option Value), sxWP sc cl Q 44 (10, [some (.ref 3), some (.int v1), some (.int s.1), some (.int s.2.1), some (.int s.2.2), z5, z6, z7], [], (cW nw kp im ol sn sr tp (mW mk mg mt mc T)), 0, 0)) (B := fun (r : Int32) => ∀ (z0 z1 z3 z4 z5 z6 z7 : Option Value), sxWP sc cl Q 44 (125, [z0, z1, some (.int r), z3, z4, z5, z6, z7], [], (cW nw kp im ol sn sr tp (mW mk mg mt mc T)), 0, 0)) (fun s x hf hA hB => ?_)
  intro z5 z6 z7
  have J116 : ∀ (v2 : Int32) (v4 : Int32) (v5 : Int32) (z3 : Option Value) (z6 : Option Value) (z7 : Option Value), P_turnsRound_j116 v2 v4 v5 = some x → sxWP sc cl Q 44 (116, [some (.ref 3), some (.int v1), some (.int v2), z3, some (.int v4), some (.int v5), z6, z7], [], (cW nw kp im ol sn sr tp (mW mk mg mt mc T)), 0, 0) := by
    intro v2 v4 v5 z3 z6 z7 hf
    unfold P_turnsRound_j116 at hf
    obtain rfl := Option.some.inj hf
    refine stp hm 4 (?_ : sxWP sc cl Q 44 (10, [some (.ref 3), some (.int v1), some (.int v2), some (.int v5), some (.int (v4 + (1:Int32))), some (.int v5), z6, z7], [], (cW nw kp im ol sn sr tp (mW mk mg mt mc T)), 0, 0))
    exact hA _ rfl _ _ _
  have J97 : ∀ (v2 : Int32) (v4 : Int32) (v5 : Int32) (v7 : Int32) (z3 : Option Value) (z6 : Option Value), P_turnsRound_j97 v2 v4 v5 v7 nw.2.2.2.1.2.2.1 = some x → sxWP sc cl Q 44 (97, [some (.ref 3), some (.int v1), some (.int v2), z3, some (.int v4), some (.int v5), z6, some (.int v7)], [], (cW nw kp im ol sn sr tp (mW mk mg mt mc T)), 0, 0) := by
    intro v2 v4 v5 v7 z3 z6 hf
    unfold P_turnsRound_j97 at hf
    refine stp hm 2 (br hf (fun c1 hf => ?_) (fun c1 hf => ?_))
    · show sxWP sc cl Q 44 (116, [some (.ref 3), some (.int v1), some (.int v2), z3, some (.int v4), some (.int v5), z6, some (.int v7)], [], (cW nw kp im ol sn sr tp (mW mk mg mt mc T)), 0, 0)
      exact J116 _ _ _ _ _ _ hf
    · show sxWP sc cl Q 44 (102, [some (.ref 3), some (.int v1), some (.int v2), z3, some (.int v4), some (.int v5), z6, some (.int v7)], [], (cW nw kp im ol sn sr tp (mW mk mg mt mc T)), 0, 0)
      obtain ⟨g2, hf⟩ := grd_e hf
      refine stp hm 4 (And.intro (gi_in g2) (?_ : sxWP sc cl Q 44 (109, [some (.ref 3), some (.int v1), some (.int v2), z3, some (.int v4), some (.int v5), z6, some (.int v7)], [.int (nw.2.2.2.1.2.2.1 v4.toNatClampNeg)], (cW nw kp im ol sn sr tp (mW mk mg mt mc T)), 0, 0)))
      have m3 : ∀ (m3_0 : Int32), m3_0 = (if (nw.2.2.2.1.2.2.1 v4.toNatClampNeg) = (3:Int32) then (v2 + (-1:Int32)) else v2) → sxWP sc cl Q 44 (116, [some (.ref 3), some (.int v1), some (.int m3_0), z3, some (.int v4), some (.int v5), z6, some (.int v7)], [], (cW nw kp im ol sn sr tp (mW mk mg mt mc T)), 0, 0) := by
        intro m3_0 em3_0
        subst em3_0
        exact J116 _ _ _ _ _ _ hf
      refine stp hm 2 (bsn (c := (nw.2.2.2.1.2.2.1 v4.toNatClampNeg) = (3:Int32)) (fun c4 => ?_) (fun c4 => ?_))
      · have c4 : ¬ (nw.2.2.2.1.2.2.1 v4.toNatClampNeg) = (3:Int32) := c4
        exact m3 _ (by rw [if_neg c4])
      · have c4 : (nw.2.2.2.1.2.2.1 v4.toNatClampNeg) = (3:Int32) := c4
        refine stp hm 1 (?_ : sxWP sc cl Q 44 (116, [some (.ref 3), some (.int v1), some (.int (v2 + (-1:Int32))), z3, some (.int v4), some (.int v5), z6, some (.int v7)], [], (cW nw kp im ol sn sr tp (mW mk mg mt mc T)), 0, 0))
        exact m3 _ (by rw [if_pos c4])
  unfold P_turnsRound_s10 at hf
  refine stp hm 4 (br hf (fun c5 hf => ?_) (fun c5 hf => ?_))
  · show sxWP sc cl Q 44 (125, [some (.ref 3), some (.int v1), some (.int s.1), some (.int s.2.1), some (.int s.2.2), z5, z6, z7], [], (cW nw kp im ol sn sr tp (mW mk mg mt mc T)), 0, 0)
    obtain rfl := Option.some.inj hf
    exact hB _ rfl _ _ _ _ _ _ _
  · show sxWP sc cl Q 44 (19, [some (.ref 3), some (.int v1), some (.int s.1), some (.int s.2.1), some (.int s.2.2), z5, z6, z7], [], (cW nw kp im ol sn sr tp (mW mk mg mt mc T)), 0, 0)
    refine stp hm 3 (br hf (fun c6 hf => ?_) (fun c6 hf => ?_))
    · show sxWP sc cl Q 44 (125, [some (.ref 3), some (.int v1), some (.int s.1), some (.int s.2.1), some (.int s.2.2), z5, z6, z7], [], (cW nw kp im ol sn sr tp (mW mk mg mt mc T)), 0, 0)
      obtain rfl := Option.some.inj hf
      exact hB _ rfl _ _ _ _ _ _ _
    · show sxWP sc cl Q 44 (26, [some (.ref 3), some (.int v1), some (.int s.1), some (.int s.2.1), some (.int s.2.2), z5, z6, z7], [], (cW nw kp im ol sn sr tp (mW mk mg mt mc T)), 0, 0)
      obtain ⟨g7, hf⟩ := grd_e hf
      refine stp hm 5 (And.intro (gi_in g7) (?_ : sxWP sc cl Q 44 (34, [some (.ref 3), some (.int v1), some (.int s.1), some (.int s.2.1), some (.int s.2.2), z5, z6, z7], [.int (nw.2.2.2.1.2.2.1 s.2.2.toNatClampNeg), .int s.2.1], (cW nw kp im ol sn sr tp (mW mk mg mt mc T)), 0, 0)))
      refine stp hm 1 (G_next_ok hE rfl ?_)
      show sxWP sc cl Q 44 (37, [some (.ref 3), some (.int v1), some (.int s.1), some (.int s.2.1), some (.int s.2.2), z5, z6, z7], [.int (G_next s.2.1 (nw.2.2.2.1.2.2.1 s.2.2.toNatClampNeg))], (cW nw kp im ol sn sr tp (mW mk mg mt mc T)), 0, 0)
      refine stp hm 4 (J_Math_min_ok hE rfl ?_)
      show sxWP sc cl Q 44 (45, [some (.ref 3), some (.int v1), some (.int s.1), some (.int s.2.1), some (.int s.2.2), some (.int (G_next s.2.1 (nw.2.2.2.1.2.2.1 s.2.2.toNatClampNeg))), z6, z7], [.int (J_Math_min s.2.1 (G_next s.2.1 (nw.2.2.2.1.2.2.1 s.2.2.toNatClampNeg)))], (cW nw kp im ol sn sr tp (mW mk mg mt mc T)), 0, 0)
      refine stp hm 4 (And.intro (by decide) (?_ : sxWP sc cl Q 44 (52, [some (.ref 3), some (.int v1), some (.int s.1), some (.int s.2.1), some (.int s.2.2), some (.int (G_next s.2.1 (nw.2.2.2.1.2.2.1 s.2.2.toNatClampNeg))), some (.int (J_Math_min s.2.1 (G_next s.2.1 (nw.2.2.2.1.2.2.1 s.2.2.toNatClampNeg)))), z7], [.int ((J_Math_min s.2.1 (G_next s.2.1 (nw.2.2.2.1.2.2.1 s.2.2.toNatClampNeg))) / (7:Int32))], (cW nw kp im ol sn sr tp (mW mk mg mt mc T)), 0, 0)))
      refine stp hm 3 (And.intro (by decide) (?_ : sxWP sc cl Q 44 (56, [some (.ref 3), some (.int v1), some (.int s.1), some (.int s.2.1), some (.int s.2.2), some (.int (G_next s.2.1 (nw.2.2.2.1.2.2.1 s.2.2.toNatClampNeg))), some (.int (J_Math_min s.2.1 (G_next s.2.1 (nw.2.2.2.1.2.2.1 s.2.2.toNatClampNeg)))), z7], [.int (v1 / (6:Int32)), .int ((J_Math_min s.2.1 (G_next s.2.1 (nw.2.2.2.1.2.2.1 s.2.2.toNatClampNeg))) / (7:Int32))], (cW nw kp im ol sn sr tp (mW mk mg mt mc T)), 0, 0)))
      have m8 : ∀ (m8_0 : Int32), m8_0 = (if ((J_Math_min s.2.1 (G_next s.2.1 (nw.2.2.2.1.2.2.1 s.2.2.toNatClampNeg))) / (7:Int32)) = (v1 / (6:Int32)) then (if ((J_Math_min s.2.1 (G_next s.2.1 (nw.2.2.2.1.2.2.1 s.2.2.toNatClampNeg))) - (J_Math_min s.2.1 (G_next s.2.1 (nw.2.2.2.1.2.2.1 s.2.2.toNatClampNeg))) / (7:Int32) * (7:Int32)) ≤ (v1 - v1 / (6:Int32) * (6:Int32)) then (0:Int32) else (1:Int32)) else (0:Int32)) → sxWP sc cl Q 44 (76, [some (.ref 3), some (.int v1), some (.int s.1), some (.int s.2.1), some (.int s.2.2), some (.int (G_next s.2.1 (nw.2.2.2.1.2.2.1 s.2.2.toNatClampNeg))), some (.int (J_Math_min s.2.1 (G_next s.2.1 (nw.2.2.2.1.2.2.1 s.2.2.toNatClampNeg)))), z7], [.int m8_0], (cW nw kp im ol sn sr tp (mW mk mg mt mc T)), 0, 0) := by
        intro m8_0 em8_0
        subst em8_0
        refine stp hm 3 (br hf (fun c9 hf => ?_) (fun c9 hf => ?_))
        · show sxWP sc cl Q 44 (97, [some (.ref 3), some (.int v1), some (.int s.1), some (.int s.2.1), some (.int s.2.2), some (.int (G_next s.2.1 (nw.2.2.2.1.2.2.1 s.2.2.toNatClampNeg))), some (.int (J_Math_min s.2.1 (G_next s.2.1 (nw.2.2.2.1.2.2.1 s.2.2.toNatClampNeg)))), some (.int (if ((J_Math_min s.2.1 (G_next s.2.1 (nw.2.2.2.1.2.2.1 s.2.2.toNatClampNeg))) / (7:Int32)) = (v1 / (6:Int32)) then (if ((J_Math_min s.2.1 (G_next s.2.1 (nw.2.2.2.1.2.2.1 s.2.2.toNatClampNeg))) - (J_Math_min s.2.1 (G_next s.2.1 (nw.2.2.2.1.2.2.1 s.2.2.toNatClampNeg))) / (7:Int32) * (7:Int32)) ≤ (v1 - v1 / (6:Int32) * (6:Int32)) then (0:Int32) else (1:Int32)) else (0:Int32)))], [], (cW nw kp im ol sn sr tp (mW mk mg mt mc T)), 0, 0)
          exact J97 _ _ _ _ _ _ hf
        · show sxWP sc cl Q 44 (83, [some (.ref 3), some (.int v1), some (.int s.1), some (.int s.2.1), some (.int s.2.2), some (.int (G_next s.2.1 (nw.2.2.2.1.2.2.1 s.2.2.toNatClampNeg))), some (.int (J_Math_min s.2.1 (G_next s.2.1 (nw.2.2.2.1.2.2.1 s.2.2.toNatClampNeg)))), some (.int (if ((J_Math_min s.2.1 (G_next s.2.1 (nw.2.2.2.1.2.2.1 s.2.2.toNatClampNeg))) / (7:Int32)) = (v1 / (6:Int32)) then (if ((J_Math_min s.2.1 (G_next s.2.1 (nw.2.2.2.1.2.2.1 s.2.2.toNatClampNeg))) - (J_Math_min s.2.1 (G_next s.2.1 (nw.2.2.2.1.2.2.1 s.2.2.toNatClampNeg))) / (7:Int32) * (7:Int32)) ≤ (v1 - v1 / (6:Int32) * (6:Int32)) then (0:Int32) else (1:Int32)) else (0:Int32)))], [], (cW nw kp im ol sn sr tp (mW mk mg mt mc T)), 0, 0)
          obtain ⟨g10, hf⟩ := grd_e hf
          refine stp hm 4 (And.intro (gi_in g10) (?_ : sxWP sc cl Q 44 (90, [some (.ref 3), some (.int v1), some (.int s.1), some (.int s.2.1), some (.int s.2.2), some (.int (G_next s.2.1 (nw.2.2.2.1.2.2.1 s.2.2.toNatClampNeg))), some (.int (J_Math_min s.2.1 (G_next s.2.1 (nw.2.2.2.1.2.2.1 s.2.2.toNatClampNeg)))), some (.int (if ((J_Math_min s.2.1 (G_next s.2.1 (nw.2.2.2.1.2.2.1 s.2.2.toNatClampNeg))) / (7:Int32)) = (v1 / (6:Int32)) then (if ((J_Math_min s.2.1 (G_next s.2.1 (nw.2.2.2.1.2.2.1 s.2.2.toNatClampNeg))) - (J_Math_min s.2.1 (G_next s.2.1 (nw.2.2.2.1.2.2.1 s.2.2.toNatClampNeg))) / (7:Int32) * (7:Int32)) ≤ (v1 - v1 / (6:Int32) * (6:Int32)) then (0:Int32) else (1:Int32)) else (0:Int32)))], [.int (nw.2.2.2.1.2.2.1 s.2.2.toNatClampNeg)], (cW nw kp im ol sn sr tp (mW mk mg mt mc T)), 0, 0)))
          have m11 : ∀ (m11_0 : Int32), m11_0 = (if (nw.2.2.2.1.2.2.1 s.2.2.toNatClampNeg) = (1:Int32) then (s.1 + (1:Int32)) else s.1) → sxWP sc cl Q 44 (97, [some (.ref 3), some (.int v1), some (.int m11_0), some (.int s.2.1), some (.int s.2.2), some (.int (G_next s.2.1 (nw.2.2.2.1.2.2.1 s.2.2.toNatClampNeg))), some (.int (J_Math_min s.2.1 (G_next s.2.1 (nw.2.2.2.1.2.2.1 s.2.2.toNatClampNeg)))), some (.int (if ((J_Math_min s.2.1 (G_next s.2.1 (nw.2.2.2.1.2.2.1 s.2.2.toNatClampNeg))) / (7:Int32)) = (v1 / (6:Int32)) then (if ((J_Math_min s.2.1 (G_next s.2.1 (nw.2.2.2.1.2.2.1 s.2.2.toNatClampNeg))) - (J_Math_min s.2.1 (G_next s.2.1 (nw.2.2.2.1.2.2.1 s.2.2.toNatClampNeg))) / (7:Int32) * (7:Int32)) ≤ (v1 - v1 / (6:Int32) * (6:Int32)) then (0:Int32) else (1:Int32)) else (0:Int32)))], [], (cW nw kp im ol sn sr tp (mW mk mg mt mc T)), 0, 0) := by
            intro m11_0 em11_0
            subst em11_0
            exact J97 _ _ _ _ _ _ hf
          refine stp hm 2 (bsn (c := (nw.2.2.2.1.2.2.1 s.2.2.toNatClampNeg) = (1:Int32)) (fun c12 => ?_) (fun c12 => ?_))
          · have c12 : ¬ (nw.2.2.2.1.2.2.1 s.2.2.toNatClampNeg) = (1:Int32) := c12
            exact m11 _ (by rw [if_neg c12])
          · have c12 : (nw.2.2.2.1.2.2.1 s.2.2.toNatClampNeg) = (1:Int32) := c12
            refine stp hm 1 (?_ : sxWP sc cl Q 44 (97, [some (.ref 3), some (.int v1), some (.int (s.1 + (1:Int32))), some (.int s.2.1), some (.int s.2.2), some (.int (G_next s.2.1 (nw.2.2.2.1.2.2.1 s.2.2.toNatClampNeg))), some (.int (J_Math_min s.2.1 (G_next s.2.1 (nw.2.2.2.1.2.2.1 s.2.2.toNatClampNeg)))), some (.int (if ((J_Math_min s.2.1 (G_next s.2.1 (nw.2.2.2.1.2.2.1 s.2.2.toNatClampNeg))) / (7:Int32)) = (v1 / (6:Int32)) then (if ((J_Math_min s.2.1 (G_next s.2.1 (nw.2.2.2.1.2.2.1 s.2.2.toNatClampNeg))) - (J_Math_min s.2.1 (G_next s.2.1 (nw.2.2.2.1.2.2.1 s.2.2.toNatClampNeg))) / (7:Int32) * (7:Int32)) ≤ (v1 - v1 / (6:Int32) * (6:Int32)) then (0:Int32) else (1:Int32)) else (0:Int32)))], [], (cW nw kp im ol sn sr tp (mW mk mg mt mc T)), 0, 0))
            exact m11 _ (by rw [if_pos c12])
      refine stp hm 1 (bsn (c := ((J_Math_min s.2.1 (G_next s.2.1 (nw.2.2.2.1.2.2.1 s.2.2.toNatClampNeg))) / (7:Int32)) = (v1 / (6:Int32))) (fun c13 => ?_) (fun c13 => ?_))
      · have c13 : ¬ ((J_Math_min s.2.1 (G_next s.2.1 (nw.2.2.2.1.2.2.1 s.2.2.toNatClampNeg))) / (7:Int32)) = (v1 / (6:Int32)) := c13
        refine stp hm 1 (?_ : sxWP sc cl Q 44 (76, [some (.ref 3), some (.int v1), some (.int s.1), some (.int s.2.1), some (.int s.2.2), some (.int (G_next s.2.1 (nw.2.2.2.1.2.2.1 s.2.2.toNatClampNeg))), some (.int (J_Math_min s.2.1 (G_next s.2.1 (nw.2.2.2.1.2.2.1 s.2.2.toNatClampNeg)))), z7], [.int (0:Int32)], (cW nw kp im ol sn sr tp (mW mk mg mt mc T)), 0, 0))
        exact m8 _ (by rw [if_neg c13])
      · have c13 : ((J_Math_min s.2.1 (G_next s.2.1 (nw.2.2.2.1.2.2.1 s.2.2.toNatClampNeg))) / (7:Int32)) = (v1 / (6:Int32)) := c13
        refine stp hm 3 (And.intro (by decide) (?_ : sxWP sc cl Q 44 (64, [some (.ref 3), some (.int v1), some (.int s.1), some (.int s.2.1), some (.int s.2.2), some (.int (G_next s.2.1 (nw.2.2.2.1.2.2.1 s.2.2.toNatClampNeg))), some (.int (J_Math_min s.2.1 (G_next s.2.1 (nw.2.2.2.1.2.2.1 s.2.2.toNatClampNeg)))), z7], [.int ((J_Math_min s.2.1 (G_next s.2.1 (nw.2.2.2.1.2.2.1 s.2.2.toNatClampNeg))) - (J_Math_min s.2.1 (G_next s.2.1 (nw.2.2.2.1.2.2.1 s.2.2.toNatClampNeg))) / (7:Int32) * (7:Int32))], (cW nw kp im ol sn sr tp (mW mk mg mt mc T)), 0, 0)))
        refine stp hm 3 (And.intro (by decide) (?_ : sxWP sc cl Q 44 (68, [some (.ref 3), some (.int v1), some (.int s.1), some (.int s.2.1), some (.int s.2.2), some (.int (G_next s.2.1 (nw.2.2.2.1.2.2.1 s.2.2.toNatClampNeg))), some (.int (J_Math_min s.2.1 (G_next s.2.1 (nw.2.2.2.1.2.2.1 s.2.2.toNatClampNeg)))), z7], [.int (v1 - v1 / (6:Int32) * (6:Int32)), .int ((J_Math_min s.2.1 (G_next s.2.1 (nw.2.2.2.1.2.2.1 s.2.2.toNatClampNeg))) - (J_Math_min s.2.1 (G_next s.2.1 (nw.2.2.2.1.2.2.1 s.2.2.toNatClampNeg))) / (7:Int32) * (7:Int32))], (cW nw kp im ol sn sr tp (mW mk mg mt mc T)), 0, 0)))
        refine stp hm 1 (bs (c := ((J_Math_min s.2.1 (G_next s.2.1 (nw.2.2.2.1.2.2.1 s.2.2.toNatClampNeg))) - (J_Math_min s.2.1 (G_next s.2.1 (nw.2.2.2.1.2.2.1 s.2.2.toNatClampNeg))) / (7:Int32) * (7:Int32)) ≤ (v1 - v1 / (6:Int32) * (6:Int32))) (fun c14 => ?_) (fun c14 => ?_))
        · have c14 : ((J_Math_min s.2.1 (G_next s.2.1 (nw.2.2.2.1.2.2.1 s.2.2.toNatClampNeg))) - (J_Math_min s.2.1 (G_next s.2.1 (nw.2.2.2.1.2.2.1 s.2.2.toNatClampNeg))) / (7:Int32) * (7:Int32)) ≤ (v1 - v1 / (6:Int32) * (6:Int32)) := c14
          refine stp hm 1 (?_ : sxWP sc cl Q 44 (76, [some (.ref 3), some (.int v1), some (.int s.1), some (.int s.2.1), some (.int s.2.2), some (.int (G_next s.2.1 (nw.2.2.2.1.2.2.1 s.2.2.toNatClampNeg))), some (.int (J_Math_min s.2.1 (G_next s.2.1 (nw.2.2.2.1.2.2.1 s.2.2.toNatClampNeg)))), z7], [.int (0:Int32)], (cW nw kp im ol sn sr tp (mW mk mg mt mc T)), 0, 0))
          exact m8 _ (by rw [if_pos c13, if_pos c14])
        · have c14 : ¬ ((J_Math_min s.2.1 (G_next s.2.1 (nw.2.2.2.1.2.2.1 s.2.2.toNatClampNeg))) - (J_Math_min s.2.1 (G_next s.2.1 (nw.2.2.2.1.2.2.1 s.2.2.toNatClampNeg))) / (7:Int32) * (7:Int32)) ≤ (v1 - v1 / (6:Int32) * (6:Int32)) := c14
          refine stp hm 2 (?_ : sxWP sc cl Q 44 (76, [some (.ref 3), some (.int v1), some (.int s.1), some (.int s.2.1), some (.int s.2.2), some (.int (G_next s.2.1 (nw.2.2.2.1.2.2.1 s.2.2.toNatClampNeg))), some (.int (J_Math_min s.2.1 (G_next s.2.1 (nw.2.2.2.1.2.2.1 s.2.2.toNatClampNeg)))), z7], [.int (1:Int32)], (cW nw kp im ol sn sr tp (mW mk mg mt mc T)), 0, 0))
          exact m8 _ (by rw [if_pos c13, if_neg c14])
set_option maxRecDepth 10000 in
theorem P_turnsRound_ok {v1 : Int32} {q : Int32} (hc : call = sxE sc (d + 3)) (hf : P_turnsRound v1 nw.2.2.2.1.1 nw.2.2.2.1.2.1 nw.2.2.2.1.2.2.1 = some q) (h : Q (some (.int q)) (cW nw kp im ol sn sr tp (mW mk mg mt mc T))) : call 44 [.ref 3, .int v1] (cW nw kp im ol sn sr tp (mW mk mg mt mc T)) Q := by
  refine ent hc rfl (fun cl hE hm => ?_)
  unfold P_turnsRound at hf
  obtain ⟨w1, hw1, hf⟩ := bnd hf
  refine stp hm 7 (?_ : sxWP sc cl Q 44 (10, [some (.ref 3), some (.int v1), some (.int (0:Int32)), some (.int nw.2.2.2.1.1), some (.int (0:Int32)), none, none, none], [], (cW nw kp im ol sn sr tp (mW mk mg mt mc T)), 0, 0))
  refine P_turnsRound_l10 hE hm _ _ _ hw1 ?_ _ _ _
  intro w1_z0 w1_z1 w1_z3 w1_z4 w1_z5 w1_z6 w1_z7
  show sxWP sc cl Q 44 (125, [w1_z0, w1_z1, some (.int w1), w1_z3, w1_z4, w1_z5, w1_z6, w1_z7], [], (cW nw kp im ol sn sr tp (mW mk mg mt mc T)), 0, 0)
  obtain rfl := Option.some.inj hf
  refine stp hm 2 ?_
  exact h

def X_winds_j41  (k0 : Int32) : Option Int32 := some k0
def X_winds (v1 : Int32) (nps : Int32) (npl : Int32) (npw : (Nat → Int32)) : Option Int32 := if (G_isCell v1) = (0:Int32) then (some (-1:Int32)) else (Option.bind (P_isClosed nps npl npw) (fun q2 => if q2 = (0:Int32) then (X_winds_j41 (-3:Int32)) else (Option.bind (P_turnsRound v1 nps npl npw) (fun q4 => X_winds_j41 (q4 + (100:Int32))))))
set_option maxRecDepth 10000 in
theorem X_winds_ok {v1 : Int32} {q : Int32} (hc : call = sxE sc (d + 5)) (hf : X_winds v1 nw.2.2.2.1.1 nw.2.2.2.1.2.1 nw.2.2.2.1.2.2.1 = some q) (h : Q (some (.int q)) (cW nw kp im ol sn sr tp (mW mk mg mt mc T))) : call 111 [.ref 0, .int v1] (cW nw kp im ol sn sr tp (mW mk mg mt mc T)) Q := by
  refine ent hc rfl (fun cl hE hm => ?_)
  have J41 : ∀ (k0 : Int32) (z0 : Option Value) (z1 : Option Value), X_winds_j41 k0 = some q → sxWP sc cl Q 111 (41, [z0, z1], [.int k0], (cW nw kp im ol sn sr tp (mW mk mg mt mc T)), 0, 0) := by
    intro k0 z0 z1 hf
    unfold X_winds_j41 at hf
    obtain rfl := Option.some.inj hf
    refine stp hm 1 ?_
    exact h
  unfold X_winds at hf
  refine stp hm 2 (G_isCell_ok hE rfl ?_)
  show sxWP sc cl Q 111 (4, [some (.ref 0), some (.int v1)], [.int (G_isCell v1)], (cW nw kp im ol sn sr tp (mW mk mg mt mc T)), 0, 0)
  refine stp hm 1 (brn hf (fun c1 hf => ?_) (fun c1 hf => ?_))
  · show sxWP sc cl Q 111 (9, [some (.ref 0), some (.int v1)], [], (cW nw kp im ol sn sr tp (mW mk mg mt mc T)), 0, 0)
    obtain ⟨q2, hq2, hf⟩ := bnd hf
    refine stp hm 4 (P_isClosed_ok hE hq2 ?_)
    show sxWP sc cl Q 111 (19, [some (.ref 0), some (.int v1)], [.int q2], (cW nw kp im ol sn sr tp (mW mk mg mt mc T)), 0, 0)
    refine stp hm 1 (br hf (fun c3 hf => ?_) (fun c3 hf => ?_))
    · show sxWP sc cl Q 111 (39, [some (.ref 0), some (.int v1)], [], (cW nw kp im ol sn sr tp (mW mk mg mt mc T)), 0, 0)
      refine stp hm 1 (?_ : sxWP sc cl Q 111 (41, [some (.ref 0), some (.int v1)], [.int (-3:Int32)], (cW nw kp im ol sn sr tp (mW mk mg mt mc T)), 0, 0))
      exact J41 _ _ _ hf
    · show sxWP sc cl Q 111 (22, [some (.ref 0), some (.int v1)], [], (cW nw kp im ol sn sr tp (mW mk mg mt mc T)), 0, 0)
      obtain ⟨q4, hq4, hf⟩ := bnd hf
      refine stp hm 5 (P_turnsRound_ok hE hq4 ?_)
      show sxWP sc cl Q 111 (33, [some (.ref 0), some (.int v1)], [.int q4], (cW nw kp im ol sn sr tp (mW mk mg mt mc T)), 0, 0)
      refine stp hm 3 (?_ : sxWP sc cl Q 111 (41, [some (.ref 0), some (.int v1)], [.int (q4 + (100:Int32))], (cW nw kp im ol sn sr tp (mW mk mg mt mc T)), 0, 0))
      exact J41 _ _ _ hf
  · show sxWP sc cl Q 111 (7, [some (.ref 0), some (.int v1)], [], (cW nw kp im ol sn sr tp (mW mk mg mt mc T)), 0, 0)
    obtain rfl := Option.some.inj hf
    refine stp hm 2 ?_
    exact h

def M_winds_s37  (v1 : Int32) (ms : (Nat → Int32)) (s : (Int32 × Int32 × Int32)) : Option ((Int32 × Int32 × Int32) ⊕ Int32) := grd (gi (2:Int32) 122) (if (ms (2:Int32).toNatClampNeg) ≤ s.2.2 then (some (Sum.inr s.2.1)) else (grd (gi ((42:Int32) + s.2.2) 122) (some (Sum.inl (M_onBy s.1 (ms ((42:Int32) + s.2.2).toNatClampNeg), if (s.1 - s.1 / (7:Int32) * (7:Int32)) ≤ (v1 - v1 / (6:Int32) * (6:Int32)) then s.2.1 else (if (ms ((42:Int32) + s.2.2).toNatClampNeg) = (1:Int32) then (if (s.1 / (7:Int32)) = (v1 / (6:Int32)) then (if (ms ((42:Int32) + s.2.2).toNatClampNeg) = (3:Int32) then (if ((M_onBy s.1 (ms ((42:Int32) + s.2.2).toNatClampNeg)) / (7:Int32)) = (v1 / (6:Int32)) then ((s.2.1 + (1:Int32)) - (1:Int32)) else ((s.2.1 + (1:Int32)) - (0:Int32))) else ((s.2.1 + (1:Int32)) - (0:Int32))) else (if (ms ((42:Int32) + s.2.2).toNatClampNeg) = (3:Int32) then (if ((M_onBy s.1 (ms ((42:Int32) + s.2.2).toNatClampNeg)) / (7:Int32)) = (v1 / (6:Int32)) then ((s.2.1 + (0:Int32)) - (1:Int32)) else ((s.2.1 + (0:Int32)) - (0:Int32))) else ((s.2.1 + (0:Int32)) - (0:Int32)))) else (if (ms ((42:Int32) + s.2.2).toNatClampNeg) = (3:Int32) then (if ((M_onBy s.1 (ms ((42:Int32) + s.2.2).toNatClampNeg)) / (7:Int32)) = (v1 / (6:Int32)) then ((s.2.1 + (0:Int32)) - (1:Int32)) else ((s.2.1 + (0:Int32)) - (0:Int32))) else ((s.2.1 + (0:Int32)) - (0:Int32)))), s.2.2 + (1:Int32))))))
def M_winds (v1 : Int32) (ms : (Nat → Int32)) : Option Int32 := if (M_isCell v1) = (0:Int32) then (some (-1:Int32)) else (Option.bind (M_ends ms) (fun q2 => grd (gi (1:Int32) 122) (if q2 = (ms (1:Int32).toNatClampNeg) then (grd (gi (1:Int32) 122) (Option.bind (wh (M_winds_s37 v1 ms) FU (ms (1:Int32).toNatClampNeg, (0:Int32), (0:Int32))) (fun w6 => some (w6 + (100:Int32))))) else (some (-3:Int32)))))
set_option maxRecDepth 10000 in
theorem M_winds_l37 {v1 : Int32}   (hE : cl = sxE sc (d + 3)) (hm : CallMono cl) : ∀ (n : Nat) (s : (Int32 × Int32 × Int32)) (r : Int32), wh (M_winds_s37 v1 mk.2.2.1) n s = some r → (∀ (z0 z1 z2 z4 z5 z6 : Option Value), sxWP sc cl Q 186 (139, [z0, z1, z2, some (.int r), z4, z5, z6], [], (cW nw kp im ol sn sr tp (mW mk mg mt mc T)), 0, 0)) → ∀ (z5 z6 : Option Value), sxWP sc cl Q 186 (37, [some (.ref 59), some (.int v1), some (.int s.1), some (.int s.2.1), some (.int s.2.2), z5, z6], [], (cW nw kp im ol sn sr tp (mW mk mg mt mc T)), 0, 0) := by
  refine wh_run (A := fun (s : (Int32 × Int32 × Int32)) => ∀ (z5 z6 : Option Value), sxWP sc cl Q 186 (37, [some (.ref 59), some (.int v1), some (.int s.1), some (.int s.2.1), some (.int s.2.2), z5, z6], [], (cW nw kp im ol sn sr tp (mW mk mg mt mc T)), 0, 0)) (B := fun (r : Int32) => ∀ (z0 z1 z2 z4 z5 z6 : Option Value), sxWP sc cl Q 186 (139, [z0, z1, z2, some (.int r), z4, z5, z6], [], (cW nw kp im ol sn sr tp (mW mk mg mt mc T)), 0, 0)) (fun s x hf hA hB => ?_)
  intro z5 z6
  unfold M_winds_s37 at hf
  obtain ⟨g1, hf⟩ := grd_e hf
  refine stp hm 5 (And.intro (gi_in g1) (?_ : sxWP sc cl Q 186 (45, [some (.ref 59), some (.int v1), some (.int s.1), some (.int s.2.1), some (.int s.2.2), z5, z6], [.int (mk.2.2.1 (2:Int32).toNatClampNeg), .int s.2.2], (cW nw kp im ol sn sr tp (mW mk mg mt mc T)), 0, 0)))
  refine stp hm 1 (br hf (fun c2 hf => ?_) (fun c2 hf => ?_))
  · show sxWP sc cl Q 186 (139, [some (.ref 59), some (.int v1), some (.int s.1), some (.int s.2.1), some (.int s.2.2), z5, z6], [], (cW nw kp im ol sn sr tp (mW mk mg mt mc T)), 0, 0)
    obtain rfl := Option.some.inj hf
    exact hB _ rfl _ _ _ _ _ _
  · show sxWP sc cl Q 186 (48, [some (.ref 59), some (.int v1), some (.int s.1), some (.int s.2.1), some (.int s.2.2), z5, z6], [], (cW nw kp im ol sn sr tp (mW mk mg mt mc T)), 0, 0)
    obtain ⟨g3, hf⟩ := grd_e hf
    refine stp hm 6 (And.intro (gi_in g3) (?_ : sxWP sc cl Q 186 (58, [some (.ref 59), some (.int v1), some (.int s.1), some (.int s.2.1), some (.int s.2.2), z5, z6], [.int (mk.2.2.1 ((42:Int32) + s.2.2).toNatClampNeg)], (cW nw kp im ol sn sr tp (mW mk mg mt mc T)), 0, 0)))
    refine stp hm 4 (M_onBy_ok hE rfl ?_)
    show sxWP sc cl Q 186 (66, [some (.ref 59), some (.int v1), some (.int s.1), some (.int s.2.1), some (.int s.2.2), some (.int (mk.2.2.1 ((42:Int32) + s.2.2).toNatClampNeg)), z6], [.int (M_onBy s.1 (mk.2.2.1 ((42:Int32) + s.2.2).toNatClampNeg))], (cW nw kp im ol sn sr tp (mW mk mg mt mc T)), 0, 0)
    refine stp hm 4 (And.intro (by decide) (?_ : sxWP sc cl Q 186 (72, [some (.ref 59), some (.int v1), some (.int s.1), some (.int s.2.1), some (.int s.2.2), some (.int (mk.2.2.1 ((42:Int32) + s.2.2).toNatClampNeg)), some (.int (M_onBy s.1 (mk.2.2.1 ((42:Int32) + s.2.2).toNatClampNeg)))], [.int (s.1 - s.1 / (7:Int32) * (7:Int32))], (cW nw kp im ol sn sr tp (mW mk mg mt mc T)), 0, 0)))
    refine stp hm 3 (And.intro (by decide) (?_ : sxWP sc cl Q 186 (76, [some (.ref 59), some (.int v1), some (.int s.1), some (.int s.2.1), some (.int s.2.2), some (.int (mk.2.2.1 ((42:Int32) + s.2.2).toNatClampNeg)), some (.int (M_onBy s.1 (mk.2.2.1 ((42:Int32) + s.2.2).toNatClampNeg)))], [.int (v1 - v1 / (6:Int32) * (6:Int32)), .int (s.1 - s.1 / (7:Int32) * (7:Int32))], (cW nw kp im ol sn sr tp (mW mk mg mt mc T)), 0, 0)))
    have m4 : ∀ (m4_0 : Int32), m4_0 = (if (s.1 - s.1 / (7:Int32) * (7:Int32)) ≤ (v1 - v1 / (6:Int32) * (6:Int32)) then s.2.1 else (if (mk.2.2.1 ((42:Int32) + s.2.2).toNatClampNeg) = (1:Int32) then (if (s.1 / (7:Int32)) = (v1 / (6:Int32)) then (if (mk.2.2.1 ((42:Int32) + s.2.2).toNatClampNeg) = (3:Int32) then (if ((M_onBy s.1 (mk.2.2.1 ((42:Int32) + s.2.2).toNatClampNeg)) / (7:Int32)) = (v1 / (6:Int32)) then ((s.2.1 + (1:Int32)) - (1:Int32)) else ((s.2.1 + (1:Int32)) - (0:Int32))) else ((s.2.1 + (1:Int32)) - (0:Int32))) else (if (mk.2.2.1 ((42:Int32) + s.2.2).toNatClampNeg) = (3:Int32) then (if ((M_onBy s.1 (mk.2.2.1 ((42:Int32) + s.2.2).toNatClampNeg)) / (7:Int32)) = (v1 / (6:Int32)) then ((s.2.1 + (0:Int32)) - (1:Int32)) else ((s.2.1 + (0:Int32)) - (0:Int32))) else ((s.2.1 + (0:Int32)) - (0:Int32)))) else (if (mk.2.2.1 ((42:Int32) + s.2.2).toNatClampNeg) = (3:Int32) then (if ((M_onBy s.1 (mk.2.2.1 ((42:Int32) + s.2.2).toNatClampNeg)) / (7:Int32)) = (v1 / (6:Int32)) then ((s.2.1 + (0:Int32)) - (1:Int32)) else ((s.2.1 + (0:Int32)) - (0:Int32))) else ((s.2.1 + (0:Int32)) - (0:Int32))))) → sxWP sc cl Q 186 (130, [some (.ref 59), some (.int v1), some (.int s.1), some (.int m4_0), some (.int s.2.2), some (.int (mk.2.2.1 ((42:Int32) + s.2.2).toNatClampNeg)), some (.int (M_onBy s.1 (mk.2.2.1 ((42:Int32) + s.2.2).toNatClampNeg)))], [], (cW nw kp im ol sn sr tp (mW mk mg mt mc T)), 0, 0) := by
      intro m4_0 em4_0
      subst em4_0
      obtain rfl := Option.some.inj hf
      refine stp hm 4 (?_ : sxWP sc cl Q 186 (37, [some (.ref 59), some (.int v1), some (.int (M_onBy s.1 (mk.2.2.1 ((42:Int32) + s.2.2).toNatClampNeg))), some (.int (if (s.1 - s.1 / (7:Int32) * (7:Int32)) ≤ (v1 - v1 / (6:Int32) * (6:Int32)) then s.2.1 else (if (mk.2.2.1 ((42:Int32) + s.2.2).toNatClampNeg) = (1:Int32) then (if (s.1 / (7:Int32)) = (v1 / (6:Int32)) then (if (mk.2.2.1 ((42:Int32) + s.2.2).toNatClampNeg) = (3:Int32) then (if ((M_onBy s.1 (mk.2.2.1 ((42:Int32) + s.2.2).toNatClampNeg)) / (7:Int32)) = (v1 / (6:Int32)) then ((s.2.1 + (1:Int32)) - (1:Int32)) else ((s.2.1 + (1:Int32)) - (0:Int32))) else ((s.2.1 + (1:Int32)) - (0:Int32))) else (if (mk.2.2.1 ((42:Int32) + s.2.2).toNatClampNeg) = (3:Int32) then (if ((M_onBy s.1 (mk.2.2.1 ((42:Int32) + s.2.2).toNatClampNeg)) / (7:Int32)) = (v1 / (6:Int32)) then ((s.2.1 + (0:Int32)) - (1:Int32)) else ((s.2.1 + (0:Int32)) - (0:Int32))) else ((s.2.1 + (0:Int32)) - (0:Int32)))) else (if (mk.2.2.1 ((42:Int32) + s.2.2).toNatClampNeg) = (3:Int32) then (if ((M_onBy s.1 (mk.2.2.1 ((42:Int32) + s.2.2).toNatClampNeg)) / (7:Int32)) = (v1 / (6:Int32)) then ((s.2.1 + (0:Int32)) - (1:Int32)) else ((s.2.1 + (0:Int32)) - (0:Int32))) else ((s.2.1 + (0:Int32)) - (0:Int32)))))), some (.int (s.2.2 + (1:Int32))), some (.int (mk.2.2.1 ((42:Int32) + s.2.2).toNatClampNeg)), some (.int (M_onBy s.1 (mk.2.2.1 ((42:Int32) + s.2.2).toNatClampNeg)))], [], (cW nw kp im ol sn sr tp (mW mk mg mt mc T)), 0, 0))
      exact hA _ rfl _ _
    refine stp hm 1 (bs (c := (s.1 - s.1 / (7:Int32) * (7:Int32)) ≤ (v1 - v1 / (6:Int32) * (6:Int32))) (fun c5 => ?_) (fun c5 => ?_))
    · have c5 : (s.1 - s.1 / (7:Int32) * (7:Int32)) ≤ (v1 - v1 / (6:Int32) * (6:Int32)) := c5
      exact m4 _ (by rw [if_pos c5])
    · have c5 : ¬ (s.1 - s.1 / (7:Int32) * (7:Int32)) ≤ (v1 - v1 / (6:Int32) * (6:Int32)) := c5
      refine stp hm 4 (bsn (c := (mk.2.2.1 ((42:Int32) + s.2.2).toNatClampNeg) = (1:Int32)) (fun c6 => ?_) (fun c6 => ?_))
      · have c6 : ¬ (mk.2.2.1 ((42:Int32) + s.2.2).toNatClampNeg) = (1:Int32) := c6
        refine stp hm 7 (bsn (c := (mk.2.2.1 ((42:Int32) + s.2.2).toNatClampNeg) = (3:Int32)) (fun c7 => ?_) (fun c7 => ?_))
        · have c7 : ¬ (mk.2.2.1 ((42:Int32) + s.2.2).toNatClampNeg) = (3:Int32) := c7
          refine stp hm 3 (?_ : sxWP sc cl Q 186 (130, [some (.ref 59), some (.int v1), some (.int s.1), some (.int ((s.2.1 + (0:Int32)) - (0:Int32))), some (.int s.2.2), some (.int (mk.2.2.1 ((42:Int32) + s.2.2).toNatClampNeg)), some (.int (M_onBy s.1 (mk.2.2.1 ((42:Int32) + s.2.2).toNatClampNeg)))], [], (cW nw kp im ol sn sr tp (mW mk mg mt mc T)), 0, 0))
          exact m4 _ (by rw [if_neg c5, if_neg c6, if_neg c7])
        · have c7 : (mk.2.2.1 ((42:Int32) + s.2.2).toNatClampNeg) = (3:Int32) := c7
          refine stp hm 3 (And.intro (by decide) (?_ : sxWP sc cl Q 186 (116, [some (.ref 59), some (.int v1), some (.int s.1), some (.int (s.2.1 + (0:Int32))), some (.int s.2.2), some (.int (mk.2.2.1 ((42:Int32) + s.2.2).toNatClampNeg)), some (.int (M_onBy s.1 (mk.2.2.1 ((42:Int32) + s.2.2).toNatClampNeg)))], [.int ((M_onBy s.1 (mk.2.2.1 ((42:Int32) + s.2.2).toNatClampNeg)) / (7:Int32)), .int (s.2.1 + (0:Int32))], (cW nw kp im ol sn sr tp (mW mk mg mt mc T)), 0, 0)))
          refine stp hm 3 (And.intro (by decide) (?_ : sxWP sc cl Q 186 (120, [some (.ref 59), some (.int v1), some (.int s.1), some (.int (s.2.1 + (0:Int32))), some (.int s.2.2), some (.int (mk.2.2.1 ((42:Int32) + s.2.2).toNatClampNeg)), some (.int (M_onBy s.1 (mk.2.2.1 ((42:Int32) + s.2.2).toNatClampNeg)))], [.int (v1 / (6:Int32)), .int ((M_onBy s.1 (mk.2.2.1 ((42:Int32) + s.2.2).toNatClampNeg)) / (7:Int32)), .int (s.2.1 + (0:Int32))], (cW nw kp im ol sn sr tp (mW mk mg mt mc T)), 0, 0)))
          refine stp hm 1 (bsn (c := ((M_onBy s.1 (mk.2.2.1 ((42:Int32) + s.2.2).toNatClampNeg)) / (7:Int32)) = (v1 / (6:Int32))) (fun c8 => ?_) (fun c8 => ?_))
          · have c8 : ¬ ((M_onBy s.1 (mk.2.2.1 ((42:Int32) + s.2.2).toNatClampNeg)) / (7:Int32)) = (v1 / (6:Int32)) := c8
            refine stp hm 3 (?_ : sxWP sc cl Q 186 (130, [some (.ref 59), some (.int v1), some (.int s.1), some (.int ((s.2.1 + (0:Int32)) - (0:Int32))), some (.int s.2.2), some (.int (mk.2.2.1 ((42:Int32) + s.2.2).toNatClampNeg)), some (.int (M_onBy s.1 (mk.2.2.1 ((42:Int32) + s.2.2).toNatClampNeg)))], [], (cW nw kp im ol sn sr tp (mW mk mg mt mc T)), 0, 0))
            exact m4 _ (by rw [if_neg c5, if_neg c6, if_pos c7, if_neg c8])
          · have c8 : ((M_onBy s.1 (mk.2.2.1 ((42:Int32) + s.2.2).toNatClampNeg)) / (7:Int32)) = (v1 / (6:Int32)) := c8
            refine stp hm 4 (?_ : sxWP sc cl Q 186 (130, [some (.ref 59), some (.int v1), some (.int s.1), some (.int ((s.2.1 + (0:Int32)) - (1:Int32))), some (.int s.2.2), some (.int (mk.2.2.1 ((42:Int32) + s.2.2).toNatClampNeg)), some (.int (M_onBy s.1 (mk.2.2.1 ((42:Int32) + s.2.2).toNatClampNeg)))], [], (cW nw kp im ol sn sr tp (mW mk mg mt mc T)), 0, 0))
            exact m4 _ (by rw [if_neg c5, if_neg c6, if_pos c7, if_pos c8])
      · have c6 : (mk.2.2.1 ((42:Int32) + s.2.2).toNatClampNeg) = (1:Int32) := c6
        refine stp hm 3 (And.intro (by decide) (?_ : sxWP sc cl Q 186 (90, [some (.ref 59), some (.int v1), some (.int s.1), some (.int s.2.1), some (.int s.2.2), some (.int (mk.2.2.1 ((42:Int32) + s.2.2).toNatClampNeg)), some (.int (M_onBy s.1 (mk.2.2.1 ((42:Int32) + s.2.2).toNatClampNeg)))], [.int (s.1 / (7:Int32)), .int s.2.1], (cW nw kp im ol sn sr tp (mW mk mg mt mc T)), 0, 0)))
        refine stp hm 3 (And.intro (by decide) (?_ : sxWP sc cl Q 186 (94, [some (.ref 59), some (.int v1), some (.int s.1), some (.int s.2.1), some (.int s.2.2), some (.int (mk.2.2.1 ((42:Int32) + s.2.2).toNatClampNeg)), some (.int (M_onBy s.1 (mk.2.2.1 ((42:Int32) + s.2.2).toNatClampNeg)))], [.int (v1 / (6:Int32)), .int (s.1 / (7:Int32)), .int s.2.1], (cW nw kp im ol sn sr tp (mW mk mg mt mc T)), 0, 0)))
        refine stp hm 1 (bsn (c := (s.1 / (7:Int32)) = (v1 / (6:Int32))) (fun c9 => ?_) (fun c9 => ?_))
        · have c9 : ¬ (s.1 / (7:Int32)) = (v1 / (6:Int32)) := c9
          refine stp hm 7 (bsn (c := (mk.2.2.1 ((42:Int32) + s.2.2).toNatClampNeg) = (3:Int32)) (fun c10 => ?_) (fun c10 => ?_))
          · have c10 : ¬ (mk.2.2.1 ((42:Int32) + s.2.2).toNatClampNeg) = (3:Int32) := c10
            refine stp hm 3 (?_ : sxWP sc cl Q 186 (130, [some (.ref 59), some (.int v1), some (.int s.1), some (.int ((s.2.1 + (0:Int32)) - (0:Int32))), some (.int s.2.2), some (.int (mk.2.2.1 ((42:Int32) + s.2.2).toNatClampNeg)), some (.int (M_onBy s.1 (mk.2.2.1 ((42:Int32) + s.2.2).toNatClampNeg)))], [], (cW nw kp im ol sn sr tp (mW mk mg mt mc T)), 0, 0))
            exact m4 _ (by rw [if_neg c5, if_pos c6, if_neg c9, if_neg c10])
          · have c10 : (mk.2.2.1 ((42:Int32) + s.2.2).toNatClampNeg) = (3:Int32) := c10
            refine stp hm 3 (And.intro (by decide) (?_ : sxWP sc cl Q 186 (116, [some (.ref 59), some (.int v1), some (.int s.1), some (.int (s.2.1 + (0:Int32))), some (.int s.2.2), some (.int (mk.2.2.1 ((42:Int32) + s.2.2).toNatClampNeg)), some (.int (M_onBy s.1 (mk.2.2.1 ((42:Int32) + s.2.2).toNatClampNeg)))], [.int ((M_onBy s.1 (mk.2.2.1 ((42:Int32) + s.2.2).toNatClampNeg)) / (7:Int32)), .int (s.2.1 + (0:Int32))], (cW nw kp im ol sn sr tp (mW mk mg mt mc T)), 0, 0)))
            refine stp hm 3 (And.intro (by decide) (?_ : sxWP sc cl Q 186 (120, [some (.ref 59), some (.int v1), some (.int s.1), some (.int (s.2.1 + (0:Int32))), some (.int s.2.2), some (.int (mk.2.2.1 ((42:Int32) + s.2.2).toNatClampNeg)), some (.int (M_onBy s.1 (mk.2.2.1 ((42:Int32) + s.2.2).toNatClampNeg)))], [.int (v1 / (6:Int32)), .int ((M_onBy s.1 (mk.2.2.1 ((42:Int32) + s.2.2).toNatClampNeg)) / (7:Int32)), .int (s.2.1 + (0:Int32))], (cW nw kp im ol sn sr tp (mW mk mg mt mc T)), 0, 0)))
            refine stp hm 1 (bsn (c := ((M_onBy s.1 (mk.2.2.1 ((42:Int32) + s.2.2).toNatClampNeg)) / (7:Int32)) = (v1 / (6:Int32))) (fun c11 => ?_) (fun c11 => ?_))
            · have c11 : ¬ ((M_onBy s.1 (mk.2.2.1 ((42:Int32) + s.2.2).toNatClampNeg)) / (7:Int32)) = (v1 / (6:Int32)) := c11
              refine stp hm 3 (?_ : sxWP sc cl Q 186 (130, [some (.ref 59), some (.int v1), some (.int s.1), some (.int ((s.2.1 + (0:Int32)) - (0:Int32))), some (.int s.2.2), some (.int (mk.2.2.1 ((42:Int32) + s.2.2).toNatClampNeg)), some (.int (M_onBy s.1 (mk.2.2.1 ((42:Int32) + s.2.2).toNatClampNeg)))], [], (cW nw kp im ol sn sr tp (mW mk mg mt mc T)), 0, 0))
              exact m4 _ (by rw [if_neg c5, if_pos c6, if_neg c9, if_pos c10, if_neg c11])
            · have c11 : ((M_onBy s.1 (mk.2.2.1 ((42:Int32) + s.2.2).toNatClampNeg)) / (7:Int32)) = (v1 / (6:Int32)) := c11
              refine stp hm 4 (?_ : sxWP sc cl Q 186 (130, [some (.ref 59), some (.int v1), some (.int s.1), some (.int ((s.2.1 + (0:Int32)) - (1:Int32))), some (.int s.2.2), some (.int (mk.2.2.1 ((42:Int32) + s.2.2).toNatClampNeg)), some (.int (M_onBy s.1 (mk.2.2.1 ((42:Int32) + s.2.2).toNatClampNeg)))], [], (cW nw kp im ol sn sr tp (mW mk mg mt mc T)), 0, 0))
              exact m4 _ (by rw [if_neg c5, if_pos c6, if_neg c9, if_pos c10, if_pos c11])
        · have c9 : (s.1 / (7:Int32)) = (v1 / (6:Int32)) := c9
          refine stp hm 8 (bsn (c := (mk.2.2.1 ((42:Int32) + s.2.2).toNatClampNeg) = (3:Int32)) (fun c12 => ?_) (fun c12 => ?_))
          · have c12 : ¬ (mk.2.2.1 ((42:Int32) + s.2.2).toNatClampNeg) = (3:Int32) := c12
            refine stp hm 3 (?_ : sxWP sc cl Q 186 (130, [some (.ref 59), some (.int v1), some (.int s.1), some (.int ((s.2.1 + (1:Int32)) - (0:Int32))), some (.int s.2.2), some (.int (mk.2.2.1 ((42:Int32) + s.2.2).toNatClampNeg)), some (.int (M_onBy s.1 (mk.2.2.1 ((42:Int32) + s.2.2).toNatClampNeg)))], [], (cW nw kp im ol sn sr tp (mW mk mg mt mc T)), 0, 0))
            exact m4 _ (by rw [if_neg c5, if_pos c6, if_pos c9, if_neg c12])
          · have c12 : (mk.2.2.1 ((42:Int32) + s.2.2).toNatClampNeg) = (3:Int32) := c12
            refine stp hm 3 (And.intro (by decide) (?_ : sxWP sc cl Q 186 (116, [some (.ref 59), some (.int v1), some (.int s.1), some (.int (s.2.1 + (1:Int32))), some (.int s.2.2), some (.int (mk.2.2.1 ((42:Int32) + s.2.2).toNatClampNeg)), some (.int (M_onBy s.1 (mk.2.2.1 ((42:Int32) + s.2.2).toNatClampNeg)))], [.int ((M_onBy s.1 (mk.2.2.1 ((42:Int32) + s.2.2).toNatClampNeg)) / (7:Int32)), .int (s.2.1 + (1:Int32))], (cW nw kp im ol sn sr tp (mW mk mg mt mc T)), 0, 0)))
            refine stp hm 3 (And.intro (by decide) (?_ : sxWP sc cl Q 186 (120, [some (.ref 59), some (.int v1), some (.int s.1), some (.int (s.2.1 + (1:Int32))), some (.int s.2.2), some (.int (mk.2.2.1 ((42:Int32) + s.2.2).toNatClampNeg)), some (.int (M_onBy s.1 (mk.2.2.1 ((42:Int32) + s.2.2).toNatClampNeg)))], [.int (v1 / (6:Int32)), .int ((M_onBy s.1 (mk.2.2.1 ((42:Int32) + s.2.2).toNatClampNeg)) / (7:Int32)), .int (s.2.1 + (1:Int32))], (cW nw kp im ol sn sr tp (mW mk mg mt mc T)), 0, 0)))
            refine stp hm 1 (bsn (c := ((M_onBy s.1 (mk.2.2.1 ((42:Int32) + s.2.2).toNatClampNeg)) / (7:Int32)) = (v1 / (6:Int32))) (fun c13 => ?_) (fun c13 => ?_))
            · have c13 : ¬ ((M_onBy s.1 (mk.2.2.1 ((42:Int32) + s.2.2).toNatClampNeg)) / (7:Int32)) = (v1 / (6:Int32)) := c13
              refine stp hm 3 (?_ : sxWP sc cl Q 186 (130, [some (.ref 59), some (.int v1), some (.int s.1), some (.int ((s.2.1 + (1:Int32)) - (0:Int32))), some (.int s.2.2), some (.int (mk.2.2.1 ((42:Int32) + s.2.2).toNatClampNeg)), some (.int (M_onBy s.1 (mk.2.2.1 ((42:Int32) + s.2.2).toNatClampNeg)))], [], (cW nw kp im ol sn sr tp (mW mk mg mt mc T)), 0, 0))
              exact m4 _ (by rw [if_neg c5, if_pos c6, if_pos c9, if_pos c12, if_neg c13])
            · have c13 : ((M_onBy s.1 (mk.2.2.1 ((42:Int32) + s.2.2).toNatClampNeg)) / (7:Int32)) = (v1 / (6:Int32)) := c13
              refine stp hm 4 (?_ : sxWP sc cl Q 186 (130, [some (.ref 59), some (.int v1), some (.int s.1), some (.int ((s.2.1 + (1:Int32)) - (1:Int32))), some (.int s.2.2), some (.int (mk.2.2.1 ((42:Int32) + s.2.2).toNatClampNeg)), some (.int (M_onBy s.1 (mk.2.2.1 ((42:Int32) + s.2.2).toNatClampNeg)))], [], (cW nw kp im ol sn sr tp (mW mk mg mt mc T)), 0, 0))
              exact m4 _ (by rw [if_neg c5, if_pos c6, if_pos c9, if_pos c12, if_pos c13])
set_option maxRecDepth 10000 in
theorem M_winds_ok {v1 : Int32} {q : Int32} (hc : call = sxE sc (d + 4)) (hf : M_winds v1 mk.2.2.1 = some q) (h : Q (some (.int q)) (cW nw kp im ol sn sr tp (mW mk mg mt mc T))) : call 186 [.ref 59, .int v1] (cW nw kp im ol sn sr tp (mW mk mg mt mc T)) Q := by
  refine ent hc rfl (fun cl hE hm => ?_)
  unfold M_winds at hf
  refine stp hm 2 (M_isCell_ok hE rfl ?_)
  show sxWP sc cl Q 186 (4, [some (.ref 59), some (.int v1), none, none, none, none, none], [.int (M_isCell v1)], (cW nw kp im ol sn sr tp (mW mk mg mt mc T)), 0, 0)
  refine stp hm 1 (brn hf (fun c1 hf => ?_) (fun c1 hf => ?_))
  · show sxWP sc cl Q 186 (9, [some (.ref 59), some (.int v1), none, none, none, none, none], [], (cW nw kp im ol sn sr tp (mW mk mg mt mc T)), 0, 0)
    obtain ⟨q2, hq2, hf⟩ := bnd hf
    refine stp hm 2 (M_ends_ok hE hq2 ?_)
    show sxWP sc cl Q 186 (13, [some (.ref 59), some (.int v1), none, none, none, none, none], [.int q2], (cW nw kp im ol sn sr tp (mW mk mg mt mc T)), 0, 0)
    obtain ⟨g3, hf⟩ := grd_e hf
    refine stp hm 4 (And.intro (gi_in g3) (?_ : sxWP sc cl Q 186 (19, [some (.ref 59), some (.int v1), none, none, none, none, none], [.int (mk.2.2.1 (1:Int32).toNatClampNeg), .int q2], (cW nw kp im ol sn sr tp (mW mk mg mt mc T)), 0, 0)))
    refine stp hm 1 (br hf (fun c4 hf => ?_) (fun c4 hf => ?_))
    · show sxWP sc cl Q 186 (25, [some (.ref 59), some (.int v1), none, none, none, none, none], [], (cW nw kp im ol sn sr tp (mW mk mg mt mc T)), 0, 0)
      obtain ⟨g5, hf⟩ := grd_e hf
      refine stp hm 4 (And.intro (gi_in g5) (?_ : sxWP sc cl Q 186 (31, [some (.ref 59), some (.int v1), none, none, none, none, none], [.int (mk.2.2.1 (1:Int32).toNatClampNeg)], (cW nw kp im ol sn sr tp (mW mk mg mt mc T)), 0, 0)))
      obtain ⟨w6, hw6, hf⟩ := bnd hf
      refine stp hm 5 (?_ : sxWP sc cl Q 186 (37, [some (.ref 59), some (.int v1), some (.int (mk.2.2.1 (1:Int32).toNatClampNeg)), some (.int (0:Int32)), some (.int (0:Int32)), none, none], [], (cW nw kp im ol sn sr tp (mW mk mg mt mc T)), 0, 0))
      refine M_winds_l37 hE hm _ _ _ hw6 ?_ _ _
      intro w6_z0 w6_z1 w6_z2 w6_z4 w6_z5 w6_z6
      show sxWP sc cl Q 186 (139, [w6_z0, w6_z1, w6_z2, some (.int w6), w6_z4, w6_z5, w6_z6], [], (cW nw kp im ol sn sr tp (mW mk mg mt mc T)), 0, 0)
      obtain rfl := Option.some.inj hf
      refine stp hm 4 ?_
      exact h
    · show sxWP sc cl Q 186 (22, [some (.ref 59), some (.int v1), none, none, none, none, none], [], (cW nw kp im ol sn sr tp (mW mk mg mt mc T)), 0, 0)
      obtain rfl := Option.some.inj hf
      refine stp hm 2 ?_
      exact h
  · show sxWP sc cl Q 186 (7, [some (.ref 59), some (.int v1), none, none, none, none, none], [], (cW nw kp im ol sn sr tp (mW mk mg mt mc T)), 0, 0)
    obtain rfl := Option.some.inj hf
    refine stp hm 2 ?_
    exact h

def N_isKind (v0 : Int32)  : Int32 := if v0 < (0:Int32) then (0:Int32) else (if (2:Int32) < v0 then (0:Int32) else (1:Int32))
set_option maxRecDepth 10000 in
theorem N_isKind_ok {v0 : Int32} {r : Int32} (hc : call = sxE sc (d + 1)) (hf : N_isKind v0 = r) (h : Q (some (.int r)) hp) : call 72 [.int v0] hp Q := by
  refine ent hc rfl (fun cl hE hm => ?_)
  unfold N_isKind at hf
  have m1 : ∀ (m1_0 : Int32), m1_0 = (if v0 < (0:Int32) then (0:Int32) else (if (2:Int32) < v0 then (0:Int32) else (1:Int32))) → sxWP sc cl Q 72 (14, [some (.int v0)], [.int m1_0], hp, 0, 0) := by
    intro m1_0 em1_0
    subst em1_0
    subst hf
    refine stp hm 1 (And.intro (by (repeat' split) <;> first | exact Or.inl rfl | exact Or.inr rfl) ?_)
    exact h
  refine stp hm 2 (bs (c := v0 < (0:Int32)) (fun c2 => ?_) (fun c2 => ?_))
  · have c2 : v0 < (0:Int32) := c2
    refine stp hm 1 (?_ : sxWP sc cl Q 72 (14, [some (.int v0)], [.int (0:Int32)], hp, 0, 0))
    exact m1 _ (by rw [if_pos c2])
  · have c2 : ¬ v0 < (0:Int32) := c2
    refine stp hm 3 (bs (c := (2:Int32) < v0) (fun c3 => ?_) (fun c3 => ?_))
    · have c3 : (2:Int32) < v0 := c3
      refine stp hm 1 (?_ : sxWP sc cl Q 72 (14, [some (.int v0)], [.int (0:Int32)], hp, 0, 0))
      exact m1 _ (by rw [if_neg c2, if_pos c3])
    · have c3 : ¬ (2:Int32) < v0 := c3
      refine stp hm 2 (?_ : sxWP sc cl Q 72 (14, [some (.int v0)], [.int (1:Int32)], hp, 0, 0))
      exact m1 _ (by rw [if_neg c2, if_neg c3])
theorem N_isKind_z {v0 : Int32}  : N_isKind v0 = 0 ∨ N_isKind v0 = 1 := by
  unfold N_isKind
  (repeat' split) <;> first | exact Or.inl rfl | exact Or.inr rfl

def N_start (v1 : Int32) (v2 : Int64) (sop : (Nat → Int64)) (str : (Nat → Int32)) (spr : (Nat → UInt32)) : Option (Int32 × Int32 × Int32 × (Nat → Int64) × (Nat → Int32) × (Nat → UInt32)) := grd (gi (0:Int32) 19) (grd (gi (0:Int32) 19) (grd (gi (0:Int32) 19) (some (v1, (0:Int32), (0:Int32), vp_updL sop (0:Int32).toNatClampNeg v2, upd str (0:Int32).toNatClampNeg (-1:Int32), vf_upd spr (0:Int32).toNatClampNeg FP.fconst1))))
set_option maxRecDepth 10000 in
theorem N_start_ok {v1 : Int32} {v2 : Int64} {q : (Int32 × Int32 × Int32 × (Nat → Int64) × (Nat → Int32) × (Nat → UInt32))} (hc : call = sxE sc (d + 1)) (hf : N_start v1 v2 sn.2.2.2.1 sn.2.2.2.2.1 sn.2.2.2.2.2 = some q) (h : Q none (cW nw kp im ol (q.1, q.2.1, q.2.2.1, q.2.2.2.1, q.2.2.2.2.1, q.2.2.2.2.2) sr tp (mW mk mg mt mc T))) : call 74 [.ref 39, .int v1, .long v2] (cW nw kp im ol sn sr tp (mW mk mg mt mc T)) Q := by
  refine ent hc rfl (fun cl hE hm => ?_)
  unfold N_start at hf
  refine stp hm 9 (And.intro (Or.inl rfl) (?_ : sxWP sc cl Q 74 (15, [some (.ref 39), some (.int v1), some (.long v2), none], [], (cW nw kp im ol (v1, (0:Int32), (0:Int32), sn.2.2.2.1, sn.2.2.2.2.1, sn.2.2.2.2.2) sr tp (mW mk mg mt mc T)), 0, 0)))
  obtain ⟨g1, hf⟩ := grd_e hf
  refine stp hm 5 (And.intro (gi_in g1) (?_ : sxWP sc cl Q 74 (22, [some (.ref 39), some (.int v1), some (.long v2), none], [], (cW nw kp im ol (v1, (0:Int32), (0:Int32), vp_updL sn.2.2.2.1 (0:Int32).toNatClampNeg v2, sn.2.2.2.2.1, sn.2.2.2.2.2) sr tp (mW mk mg mt mc T)), 0, 0)))
  obtain ⟨g2, hf⟩ := grd_e hf
  refine stp hm 5 (And.intro (gi_in g2) (?_ : sxWP sc cl Q 74 (29, [some (.ref 39), some (.int v1), some (.long v2), none], [], (cW nw kp im ol (v1, (0:Int32), (0:Int32), vp_updL sn.2.2.2.1 (0:Int32).toNatClampNeg v2, upd sn.2.2.2.2.1 (0:Int32).toNatClampNeg (-1:Int32), sn.2.2.2.2.2) sr tp (mW mk mg mt mc T)), 0, 0)))
  obtain ⟨g3, hf⟩ := grd_e hf
  refine stp hm 5 (And.intro (gi_in g3) (?_ : sxWP sc cl Q 74 (36, [some (.ref 39), some (.int v1), some (.long v2), none], [], (cW nw kp im ol (v1, (0:Int32), (0:Int32), vp_updL sn.2.2.2.1 (0:Int32).toNatClampNeg v2, upd sn.2.2.2.2.1 (0:Int32).toNatClampNeg (-1:Int32), vf_upd sn.2.2.2.2.2 (0:Int32).toNatClampNeg FP.fconst1) sr tp (mW mk mg mt mc T)), 0, 0)))
  obtain rfl := Option.some.inj hf
  refine stp hm 1 ?_
  exact h

def N_forms (v0 : Int32)  : Int32 := if v0 = (2:Int32) then (4:Int32) else (2:Int32)
set_option maxRecDepth 10000 in
theorem N_forms_ok {v0 : Int32} {r : Int32} (hc : call = sxE sc (d + 1)) (hf : N_forms v0 = r) (h : Q (some (.int r)) hp) : call 73 [.int v0] hp Q := by
  refine ent hc rfl (fun cl hE hm => ?_)
  unfold N_forms at hf
  have m1 : ∀ (m1_0 : Int32), m1_0 = (if v0 = (2:Int32) then (4:Int32) else (2:Int32)) → sxWP sc cl Q 73 (10, [some (.int v0)], [.int m1_0], hp, 0, 0) := by
    intro m1_0 em1_0
    subst em1_0
    subst hf
    refine stp hm 1 ?_
    exact h
  refine stp hm 3 (bsn (c := v0 = (2:Int32)) (fun c2 => ?_) (fun c2 => ?_))
  · have c2 : ¬ v0 = (2:Int32) := c2
    refine stp hm 1 (?_ : sxWP sc cl Q 73 (10, [some (.int v0)], [.int (2:Int32)], hp, 0, 0))
    exact m1 _ (by rw [if_neg c2])
  · have c2 : v0 = (2:Int32) := c2
    refine stp hm 2 (?_ : sxWP sc cl Q 73 (10, [some (.int v0)], [.int (4:Int32)], hp, 0, 0))
    exact m1 _ (by rw [if_pos c2])

def N_stoneAt_j87   : Option Int64 := some (0:Int64)
def N_stoneAt_j42   : Option Int64 := some (0:Int64)
def N_stoneAt (v1 : Int32) (v2 : Int64) (skd : Int32) : Option Int64 := if ((skd * (2:Int32)) + v1) < (0:Int32) then N_stoneAt_j42 else (if (Int32.ofNat 8) ≤ ((skd * (2:Int32)) + v1) then N_stoneAt_j42 else (if (Int32.ofNat 8) ≤ ((skd * (2:Int32)) + v1) then N_stoneAt_j42 else (if ((skd * (2:Int32)) + v1) < (Int32.ofNat 8) then (grd (gi ((skd * (2:Int32)) + v1) 8) (if (6:Int32) ≤ (((J_Long_bitCount ((v2 &&& (-v2)) - (1:Int64))) - (J_Long_bitCount ((v2 &&& (-v2)) - (1:Int64))) / (6:Int32) * (6:Int32)) + (sxRIGHT ((skd * (2:Int32)) + v1).toNatClampNeg)) then N_stoneAt_j87 else (grd (gi ((skd * (2:Int32)) + v1) 8) (if (sxLEFT ((skd * (2:Int32)) + v1).toNatClampNeg) ≤ ((J_Long_bitCount ((v2 &&& (-v2)) - (1:Int64))) - (J_Long_bitCount ((v2 &&& (-v2)) - (1:Int64))) / (6:Int32) * (6:Int32)) then (grd (gi ((skd * (2:Int32)) + v1) 8) (some (if (v2 &&& ((sxSHAPES ((skd * (2:Int32)) + v1).toNatClampNeg) <<< ((J_Long_bitCount ((v2 &&& (-v2)) - (1:Int64))).toInt64 &&& 63))) = ((sxSHAPES ((skd * (2:Int32)) + v1).toNatClampNeg) <<< ((J_Long_bitCount ((v2 &&& (-v2)) - (1:Int64))).toInt64 &&& 63)) then ((sxSHAPES ((skd * (2:Int32)) + v1).toNatClampNeg) <<< ((J_Long_bitCount ((v2 &&& (-v2)) - (1:Int64))).toInt64 &&& 63)) else (0:Int64)))) else N_stoneAt_j87)))) else N_stoneAt_j42)))
set_option maxRecDepth 10000 in
theorem N_stoneAt_ok {v1 : Int32} {v2 : Int64} {q : Int64} (hc : call = sxE sc (d + 2)) (hf : N_stoneAt v1 v2 sn.1 = some q) (h : Q (some (.long q)) (cW nw kp im ol sn sr tp (mW mk mg mt mc T))) : call 77 [.ref 39, .int v1, .long v2] (cW nw kp im ol sn sr tp (mW mk mg mt mc T)) Q := by
  refine ent hc rfl (fun cl hE hm => ?_)
  have J87 : ∀  (z0 : Option Value) (z1 : Option Value) (z2 : Option Value) (z3 : Option Value) (z4 : Option Value) (z5 : Option Value) (z6 : Option Value) (z7 : Option Value) (z8 : Option Value), N_stoneAt_j87 = some q → sxWP sc cl Q 77 (87, [z0, z1, z2, z3, z4, z5, z6, z7, z8], [], (cW nw kp im ol sn sr tp (mW mk mg mt mc T)), 0, 0) := by
    intro z0 z1 z2 z3 z4 z5 z6 z7 z8 hf
    unfold N_stoneAt_j87 at hf
    obtain rfl := Option.some.inj hf
    refine stp hm 2 ?_
    exact h
  have J42 : ∀  (z0 : Option Value) (z1 : Option Value) (z2 : Option Value) (z3 : Option Value) (z4 : Option Value) (z5 : Option Value) (z6 : Option Value) (z7 : Option Value) (z8 : Option Value), N_stoneAt_j42 = some q → sxWP sc cl Q 77 (42, [z0, z1, z2, z3, z4, z5, z6, z7, z8], [], (cW nw kp im ol sn sr tp (mW mk mg mt mc T)), 0, 0) := by
    intro z0 z1 z2 z3 z4 z5 z6 z7 z8 hf
    unfold N_stoneAt_j42 at hf
    obtain rfl := Option.some.inj hf
    refine stp hm 2 ?_
    exact h
  unfold N_stoneAt at hf
  refine stp hm 9 (br hf (fun c1 hf => ?_) (fun c1 hf => ?_))
  · show sxWP sc cl Q 77 (42, [some (.ref 39), some (.int v1), some (.long v2), none, some (.int ((sn.1 * (2:Int32)) + v1)), none, none, none, none], [], (cW nw kp im ol sn sr tp (mW mk mg mt mc T)), 0, 0)
    exact J42 _ _ _ _ _ _ _ _ _ hf
  · show sxWP sc cl Q 77 (15, [some (.ref 39), some (.int v1), some (.long v2), none, some (.int ((sn.1 * (2:Int32)) + v1)), none, none, none, none], [], (cW nw kp im ol sn sr tp (mW mk mg mt mc T)), 0, 0)
    refine stp hm 4 (br hf (fun c2 hf => ?_) (fun c2 hf => ?_))
    · show sxWP sc cl Q 77 (42, [some (.ref 39), some (.int v1), some (.long v2), none, some (.int ((sn.1 * (2:Int32)) + v1)), none, none, none, none], [], (cW nw kp im ol sn sr tp (mW mk mg mt mc T)), 0, 0)
      exact J42 _ _ _ _ _ _ _ _ _ hf
    · show sxWP sc cl Q 77 (24, [some (.ref 39), some (.int v1), some (.long v2), none, some (.int ((sn.1 * (2:Int32)) + v1)), none, none, none, none], [], (cW nw kp im ol sn sr tp (mW mk mg mt mc T)), 0, 0)
      refine stp hm 4 (br hf (fun c3 hf => ?_) (fun c3 hf => ?_))
      · show sxWP sc cl Q 77 (42, [some (.ref 39), some (.int v1), some (.long v2), none, some (.int ((sn.1 * (2:Int32)) + v1)), none, none, none, none], [], (cW nw kp im ol sn sr tp (mW mk mg mt mc T)), 0, 0)
        exact J42 _ _ _ _ _ _ _ _ _ hf
      · show sxWP sc cl Q 77 (33, [some (.ref 39), some (.int v1), some (.long v2), none, some (.int ((sn.1 * (2:Int32)) + v1)), none, none, none, none], [], (cW nw kp im ol sn sr tp (mW mk mg mt mc T)), 0, 0)
        refine stp hm 4 (br hf (fun c4 hf => ?_) (fun c4 hf => ?_))
        · show sxWP sc cl Q 77 (44, [some (.ref 39), some (.int v1), some (.long v2), none, some (.int ((sn.1 * (2:Int32)) + v1)), none, none, none, none], [], (cW nw kp im ol sn sr tp (mW mk mg mt mc T)), 0, 0)
          refine stp hm 7 (J_Long_bitCount_ok hE rfl ?_)
          show sxWP sc cl Q 77 (53, [some (.ref 39), some (.int v1), some (.long v2), none, some (.int ((sn.1 * (2:Int32)) + v1)), none, none, none, none], [.int (J_Long_bitCount ((v2 &&& (-v2)) - (1:Int64)))], (cW nw kp im ol sn sr tp (mW mk mg mt mc T)), 0, 0)
          refine stp hm 4 (And.intro (by decide) (?_ : sxWP sc cl Q 77 (60, [some (.ref 39), some (.int v1), some (.long v2), none, some (.int ((sn.1 * (2:Int32)) + v1)), some (.int (J_Long_bitCount ((v2 &&& (-v2)) - (1:Int64)))), none, none, none], [.int ((J_Long_bitCount ((v2 &&& (-v2)) - (1:Int64))) - (J_Long_bitCount ((v2 &&& (-v2)) - (1:Int64))) / (6:Int32) * (6:Int32))], (cW nw kp im ol sn sr tp (mW mk mg mt mc T)), 0, 0)))
          obtain ⟨g5, hf⟩ := grd_e hf
          refine stp hm 5 (And.intro (gi_in g5) (?_ : sxWP sc cl Q 77 (70, [some (.ref 39), some (.int v1), some (.long v2), none, some (.int ((sn.1 * (2:Int32)) + v1)), some (.int (J_Long_bitCount ((v2 &&& (-v2)) - (1:Int64)))), some (.int ((J_Long_bitCount ((v2 &&& (-v2)) - (1:Int64))) - (J_Long_bitCount ((v2 &&& (-v2)) - (1:Int64))) / (6:Int32) * (6:Int32))), none, none], [.int (sxRIGHT ((sn.1 * (2:Int32)) + v1).toNatClampNeg), .int ((J_Long_bitCount ((v2 &&& (-v2)) - (1:Int64))) - (J_Long_bitCount ((v2 &&& (-v2)) - (1:Int64))) / (6:Int32) * (6:Int32))], (cW nw kp im ol sn sr tp (mW mk mg mt mc T)), 0, 0)))
          refine stp hm 3 (br hf (fun c6 hf => ?_) (fun c6 hf => ?_))
          · show sxWP sc cl Q 77 (87, [some (.ref 39), some (.int v1), some (.long v2), none, some (.int ((sn.1 * (2:Int32)) + v1)), some (.int (J_Long_bitCount ((v2 &&& (-v2)) - (1:Int64)))), some (.int ((J_Long_bitCount ((v2 &&& (-v2)) - (1:Int64))) - (J_Long_bitCount ((v2 &&& (-v2)) - (1:Int64))) / (6:Int32) * (6:Int32))), none, none], [], (cW nw kp im ol sn sr tp (mW mk mg mt mc T)), 0, 0)
            exact J87 _ _ _ _ _ _ _ _ _ hf
          · show sxWP sc cl Q 77 (76, [some (.ref 39), some (.int v1), some (.long v2), none, some (.int ((sn.1 * (2:Int32)) + v1)), some (.int (J_Long_bitCount ((v2 &&& (-v2)) - (1:Int64)))), some (.int ((J_Long_bitCount ((v2 &&& (-v2)) - (1:Int64))) - (J_Long_bitCount ((v2 &&& (-v2)) - (1:Int64))) / (6:Int32) * (6:Int32))), none, none], [], (cW nw kp im ol sn sr tp (mW mk mg mt mc T)), 0, 0)
            obtain ⟨g7, hf⟩ := grd_e hf
            refine stp hm 4 (And.intro (gi_in g7) (?_ : sxWP sc cl Q 77 (84, [some (.ref 39), some (.int v1), some (.long v2), none, some (.int ((sn.1 * (2:Int32)) + v1)), some (.int (J_Long_bitCount ((v2 &&& (-v2)) - (1:Int64)))), some (.int ((J_Long_bitCount ((v2 &&& (-v2)) - (1:Int64))) - (J_Long_bitCount ((v2 &&& (-v2)) - (1:Int64))) / (6:Int32) * (6:Int32))), none, none], [.int (sxLEFT ((sn.1 * (2:Int32)) + v1).toNatClampNeg), .int ((J_Long_bitCount ((v2 &&& (-v2)) - (1:Int64))) - (J_Long_bitCount ((v2 &&& (-v2)) - (1:Int64))) / (6:Int32) * (6:Int32))], (cW nw kp im ol sn sr tp (mW mk mg mt mc T)), 0, 0)))
            refine stp hm 1 (br hf (fun c8 hf => ?_) (fun c8 hf => ?_))
            · show sxWP sc cl Q 77 (89, [some (.ref 39), some (.int v1), some (.long v2), none, some (.int ((sn.1 * (2:Int32)) + v1)), some (.int (J_Long_bitCount ((v2 &&& (-v2)) - (1:Int64)))), some (.int ((J_Long_bitCount ((v2 &&& (-v2)) - (1:Int64))) - (J_Long_bitCount ((v2 &&& (-v2)) - (1:Int64))) / (6:Int32) * (6:Int32))), none, none], [], (cW nw kp im ol sn sr tp (mW mk mg mt mc T)), 0, 0)
              obtain ⟨g9, hf⟩ := grd_e hf
              refine stp hm 3 (And.intro (gi_in g9) (?_ : sxWP sc cl Q 77 (95, [some (.ref 39), some (.int v1), some (.long v2), none, some (.int ((sn.1 * (2:Int32)) + v1)), some (.int (J_Long_bitCount ((v2 &&& (-v2)) - (1:Int64)))), some (.int ((J_Long_bitCount ((v2 &&& (-v2)) - (1:Int64))) - (J_Long_bitCount ((v2 &&& (-v2)) - (1:Int64))) / (6:Int32) * (6:Int32))), none, none], [.long (sxSHAPES ((sn.1 * (2:Int32)) + v1).toNatClampNeg)], (cW nw kp im ol sn sr tp (mW mk mg mt mc T)), 0, 0)))
              have m10 : ∀ (m10_0 : Int64), m10_0 = (if (v2 &&& ((sxSHAPES ((sn.1 * (2:Int32)) + v1).toNatClampNeg) <<< ((J_Long_bitCount ((v2 &&& (-v2)) - (1:Int64))).toInt64 &&& 63))) = ((sxSHAPES ((sn.1 * (2:Int32)) + v1).toNatClampNeg) <<< ((J_Long_bitCount ((v2 &&& (-v2)) - (1:Int64))).toInt64 &&& 63)) then ((sxSHAPES ((sn.1 * (2:Int32)) + v1).toNatClampNeg) <<< ((J_Long_bitCount ((v2 &&& (-v2)) - (1:Int64))).toInt64 &&& 63)) else (0:Int64)) → sxWP sc cl Q 77 (116, [some (.ref 39), some (.int v1), some (.long v2), none, some (.int ((sn.1 * (2:Int32)) + v1)), some (.int (J_Long_bitCount ((v2 &&& (-v2)) - (1:Int64)))), some (.int ((J_Long_bitCount ((v2 &&& (-v2)) - (1:Int64))) - (J_Long_bitCount ((v2 &&& (-v2)) - (1:Int64))) / (6:Int32) * (6:Int32))), some (.long ((sxSHAPES ((sn.1 * (2:Int32)) + v1).toNatClampNeg) <<< ((J_Long_bitCount ((v2 &&& (-v2)) - (1:Int64))).toInt64 &&& 63))), none], [.long m10_0], (cW nw kp im ol sn sr tp (mW mk mg mt mc T)), 0, 0) := by
                intro m10_0 em10_0
                subst em10_0
                obtain rfl := Option.some.inj hf
                refine stp hm 1 ?_
                exact h
              refine stp hm 9 (bsnI (lg_cmp_eq _ _) (fun c11 => ?_) (fun c11 => ?_))
              · have c11 : ¬ (v2 &&& ((sxSHAPES ((sn.1 * (2:Int32)) + v1).toNatClampNeg) <<< ((J_Long_bitCount ((v2 &&& (-v2)) - (1:Int64))).toInt64 &&& 63))) = ((sxSHAPES ((sn.1 * (2:Int32)) + v1).toNatClampNeg) <<< ((J_Long_bitCount ((v2 &&& (-v2)) - (1:Int64))).toInt64 &&& 63)) := c11
                refine stp hm 1 (?_ : sxWP sc cl Q 77 (116, [some (.ref 39), some (.int v1), some (.long v2), none, some (.int ((sn.1 * (2:Int32)) + v1)), some (.int (J_Long_bitCount ((v2 &&& (-v2)) - (1:Int64)))), some (.int ((J_Long_bitCount ((v2 &&& (-v2)) - (1:Int64))) - (J_Long_bitCount ((v2 &&& (-v2)) - (1:Int64))) / (6:Int32) * (6:Int32))), some (.long ((sxSHAPES ((sn.1 * (2:Int32)) + v1).toNatClampNeg) <<< ((J_Long_bitCount ((v2 &&& (-v2)) - (1:Int64))).toInt64 &&& 63))), none], [.long (0:Int64)], (cW nw kp im ol sn sr tp (mW mk mg mt mc T)), 0, 0))
                exact m10 _ (by rw [if_neg c11])
              · have c11 : (v2 &&& ((sxSHAPES ((sn.1 * (2:Int32)) + v1).toNatClampNeg) <<< ((J_Long_bitCount ((v2 &&& (-v2)) - (1:Int64))).toInt64 &&& 63))) = ((sxSHAPES ((sn.1 * (2:Int32)) + v1).toNatClampNeg) <<< ((J_Long_bitCount ((v2 &&& (-v2)) - (1:Int64))).toInt64 &&& 63)) := c11
                refine stp hm 2 (?_ : sxWP sc cl Q 77 (116, [some (.ref 39), some (.int v1), some (.long v2), none, some (.int ((sn.1 * (2:Int32)) + v1)), some (.int (J_Long_bitCount ((v2 &&& (-v2)) - (1:Int64)))), some (.int ((J_Long_bitCount ((v2 &&& (-v2)) - (1:Int64))) - (J_Long_bitCount ((v2 &&& (-v2)) - (1:Int64))) / (6:Int32) * (6:Int32))), some (.long ((sxSHAPES ((sn.1 * (2:Int32)) + v1).toNatClampNeg) <<< ((J_Long_bitCount ((v2 &&& (-v2)) - (1:Int64))).toInt64 &&& 63))), none], [.long ((sxSHAPES ((sn.1 * (2:Int32)) + v1).toNatClampNeg) <<< ((J_Long_bitCount ((v2 &&& (-v2)) - (1:Int64))).toInt64 &&& 63))], (cW nw kp im ol sn sr tp (mW mk mg mt mc T)), 0, 0))
                exact m10 _ (by rw [if_pos c11])
            · show sxWP sc cl Q 77 (87, [some (.ref 39), some (.int v1), some (.long v2), none, some (.int ((sn.1 * (2:Int32)) + v1)), some (.int (J_Long_bitCount ((v2 &&& (-v2)) - (1:Int64)))), some (.int ((J_Long_bitCount ((v2 &&& (-v2)) - (1:Int64))) - (J_Long_bitCount ((v2 &&& (-v2)) - (1:Int64))) / (6:Int32) * (6:Int32))), none, none], [], (cW nw kp im ol sn sr tp (mW mk mg mt mc T)), 0, 0)
              exact J87 _ _ _ _ _ _ _ _ _ hf
        · show sxWP sc cl Q 77 (42, [some (.ref 39), some (.int v1), some (.long v2), none, some (.int ((sn.1 * (2:Int32)) + v1)), none, none, none, none], [], (cW nw kp im ol sn sr tp (mW mk mg mt mc T)), 0, 0)
          exact J42 _ _ _ _ _ _ _ _ _ hf

def N_tryNext_j176  (sdp_j : Int32) (sop_j : (Nat → Int64)) (str_j : (Nat → Int32)) (spr_j : (Nat → UInt32)) : Option (Int32 × (Nat → Int64) × (Nat → Int32) × (Nat → UInt32)) := some (sdp_j, sop_j, str_j, spr_j)
def N_tryNext_j16  (sdp_j : Int32) (sop_j : (Nat → Int64)) (str_j : (Nat → Int32)) (spr_j : (Nat → UInt32)) : Option (Int32 × (Nat → Int64) × (Nat → Int32) × (Nat → UInt32)) := some (sdp_j, sop_j, str_j, spr_j)
def N_tryNext  (skd : Int32) (sdp : Int32) (sop : (Nat → Int64)) (str : (Nat → Int32)) (spr : (Nat → UInt32)) : Option (Int32 × (Nat → Int64) × (Nat → Int32) × (Nat → UInt32)) := if sdp < (0:Int32) then (N_tryNext_j16 sdp sop str spr) else (if sdp ≤ (18:Int32) then (grd (gi sdp 19) (if ((str sdp.toNatClampNeg) + (1:Int32)) < (N_forms skd) then (grd (gi sdp 19) (grd (gi sdp 19) (Option.bind (N_stoneAt ((str sdp.toNatClampNeg) + (1:Int32)) (sop sdp.toNatClampNeg) skd) (fun q7 => if q7 = (0:Int64) then (N_tryNext_j176 sdp sop (upd str sdp.toNatClampNeg ((str sdp.toNatClampNeg) + (1:Int32))) spr) else (if (18:Int32) ≤ sdp then (N_tryNext_j176 sdp sop (upd str sdp.toNatClampNeg ((str sdp.toNatClampNeg) + (1:Int32))) spr) else (grd (gi sdp 19) (grd (gi (sdp + (1:Int32)) 19) (grd (gi (sdp + (1:Int32)) 19) (grd (gi sdp 19) (grd (nn32 (FP.fmul (spr sdp.toNatClampNeg) (if ((str sdp.toNatClampNeg) + (1:Int32)) = (0:Int32) then (1061158912:UInt32) else (if ((str sdp.toNatClampNeg) + (1:Int32)) = (3:Int32) then (1061158912:UInt32) else (1067450368:UInt32))))) (grd (gi (sdp + (1:Int32)) 19) (N_tryNext_j176 (sdp + (1:Int32)) (vp_updL sop (sdp + (1:Int32)).toNatClampNeg ((sop sdp.toNatClampNeg) &&& (q7 ^^^ (-1:Int64)))) (upd (upd str sdp.toNatClampNeg ((str sdp.toNatClampNeg) + (1:Int32))) (sdp + (1:Int32)).toNatClampNeg (-1:Int32)) (vf_upd spr (sdp + (1:Int32)).toNatClampNeg (FP.fmul (spr sdp.toNatClampNeg) (if ((str sdp.toNatClampNeg) + (1:Int32)) = (0:Int32) then (1061158912:UInt32) else (if ((str sdp.toNatClampNeg) + (1:Int32)) = (3:Int32) then (1061158912:UInt32) else (1067450368:UInt32))))))))))))))))) else (some (sdp - (1:Int32), sop, str, spr)))) else (N_tryNext_j16 sdp sop str spr))
set_option maxRecDepth 10000 in
theorem N_tryNext_ok  {q : (Int32 × (Nat → Int64) × (Nat → Int32) × (Nat → UInt32))} (hc : call = sxE sc (d + 3)) (hf : N_tryNext sn.1 sn.2.1 sn.2.2.2.1 sn.2.2.2.2.1 sn.2.2.2.2.2 = some q) (h : Q none (cW nw kp im ol (sn.1, q.1, sn.2.2.1, q.2.1, q.2.2.1, q.2.2.2) sr tp (mW mk mg mt mc T))) : call 76 [.ref 39] (cW nw kp im ol sn sr tp (mW mk mg mt mc T)) Q := by
  refine ent hc rfl (fun cl hE hm => ?_)
  have J176 : ∀ (sdp_j : Int32) (sop_j : (Nat → Int64)) (str_j : (Nat → Int32)) (spr_j : (Nat → UInt32)) (z0 : Option Value) (z1 : Option Value) (z2 : Option Value) (z3 : Option Value), N_tryNext_j176 sdp_j sop_j str_j spr_j = some q → sxWP sc cl Q 76 (176, [z0, z1, z2, z3], [], (cW nw kp im ol (sn.1, sdp_j, sn.2.2.1, sop_j, str_j, spr_j) sr tp (mW mk mg mt mc T)), 0, 0) := by
    intro sdp_j sop_j str_j spr_j z0 z1 z2 z3 hf
    unfold N_tryNext_j176 at hf
    obtain rfl := Option.some.inj hf
    refine stp hm 1 ?_
    exact h
  have J16 : ∀ (sdp_j : Int32) (sop_j : (Nat → Int64)) (str_j : (Nat → Int32)) (spr_j : (Nat → UInt32)) (z0 : Option Value) (z1 : Option Value) (z2 : Option Value) (z3 : Option Value), N_tryNext_j16 sdp_j sop_j str_j spr_j = some q → sxWP sc cl Q 76 (16, [z0, z1, z2, z3], [], (cW nw kp im ol (sn.1, sdp_j, sn.2.2.1, sop_j, str_j, spr_j) sr tp (mW mk mg mt mc T)), 0, 0) := by
    intro sdp_j sop_j str_j spr_j z0 z1 z2 z3 hf
    unfold N_tryNext_j16 at hf
    obtain rfl := Option.some.inj hf
    refine stp hm 1 ?_
    exact h
  unfold N_tryNext at hf
  refine stp hm 3 (br hf (fun c1 hf => ?_) (fun c1 hf => ?_))
  · show sxWP sc cl Q 76 (16, [some (.ref 39), none, none, none], [], (cW nw kp im ol sn sr tp (mW mk mg mt mc T)), 0, 0)
    exact J16 _ _ _ _ _ _ _ _ hf
  · show sxWP sc cl Q 76 (7, [some (.ref 39), none, none, none], [], (cW nw kp im ol sn sr tp (mW mk mg mt mc T)), 0, 0)
    refine stp hm 4 (br hf (fun c2 hf => ?_) (fun c2 hf => ?_))
    · show sxWP sc cl Q 76 (17, [some (.ref 39), none, none, none], [], (cW nw kp im ol sn sr tp (mW mk mg mt mc T)), 0, 0)
      obtain ⟨g3, hf⟩ := grd_e hf
      refine stp hm 5 (And.intro (gi_in g3) (?_ : sxWP sc cl Q 76 (26, [some (.ref 39), none, none, none], [.int (sn.2.2.2.2.1 sn.2.1.toNatClampNeg)], (cW nw kp im ol sn sr tp (mW mk mg mt mc T)), 0, 0)))
      refine stp hm 7 (N_forms_ok hE rfl ?_)
      show sxWP sc cl Q 76 (37, [some (.ref 39), some (.int ((sn.2.2.2.2.1 sn.2.1.toNatClampNeg) + (1:Int32))), none, none], [.int (N_forms sn.1), .int ((sn.2.2.2.2.1 sn.2.1.toNatClampNeg) + (1:Int32))], (cW nw kp im ol sn sr tp (mW mk mg mt mc T)), 0, 0)
      refine stp hm 1 (br hf (fun c4 hf => ?_) (fun c4 hf => ?_))
      · show sxWP sc cl Q 76 (51, [some (.ref 39), some (.int ((sn.2.2.2.2.1 sn.2.1.toNatClampNeg) + (1:Int32))), none, none], [], (cW nw kp im ol sn sr tp (mW mk mg mt mc T)), 0, 0)
        obtain ⟨g5, hf⟩ := grd_e hf
        refine stp hm 6 (And.intro (gi_in g5) (?_ : sxWP sc cl Q 76 (61, [some (.ref 39), some (.int ((sn.2.2.2.2.1 sn.2.1.toNatClampNeg) + (1:Int32))), none, none], [], (cW nw kp im ol (sn.1, sn.2.1, sn.2.2.1, sn.2.2.2.1, upd sn.2.2.2.2.1 sn.2.1.toNatClampNeg ((sn.2.2.2.2.1 sn.2.1.toNatClampNeg) + (1:Int32)), sn.2.2.2.2.2) sr tp (mW mk mg mt mc T)), 0, 0)))
        obtain ⟨g6, hf⟩ := grd_e hf
        refine stp hm 7 (And.intro (gi_in g6) (?_ : sxWP sc cl Q 76 (72, [some (.ref 39), some (.int ((sn.2.2.2.2.1 sn.2.1.toNatClampNeg) + (1:Int32))), none, none], [.long (sn.2.2.2.1 sn.2.1.toNatClampNeg), .int ((sn.2.2.2.2.1 sn.2.1.toNatClampNeg) + (1:Int32)), .ref 39], (cW nw kp im ol (sn.1, sn.2.1, sn.2.2.1, sn.2.2.2.1, upd sn.2.2.2.2.1 sn.2.1.toNatClampNeg ((sn.2.2.2.2.1 sn.2.1.toNatClampNeg) + (1:Int32)), sn.2.2.2.2.2) sr tp (mW mk mg mt mc T)), 0, 0)))
        obtain ⟨q7, hq7, hf⟩ := bnd hf
        refine stp hm 1 (N_stoneAt_ok hE hq7 ?_)
        show sxWP sc cl Q 76 (75, [some (.ref 39), some (.int ((sn.2.2.2.2.1 sn.2.1.toNatClampNeg) + (1:Int32))), none, none], [.long q7], (cW nw kp im ol (sn.1, sn.2.1, sn.2.2.1, sn.2.2.2.1, upd sn.2.2.2.2.1 sn.2.1.toNatClampNeg ((sn.2.2.2.2.1 sn.2.1.toNatClampNeg) + (1:Int32)), sn.2.2.2.2.2) sr tp (mW mk mg mt mc T)), 0, 0)
        refine stp hm 5 (brI (lg_cmp_eq _ _) hf (fun c8 hf => ?_) (fun c8 hf => ?_))
        · show sxWP sc cl Q 76 (176, [some (.ref 39), some (.int ((sn.2.2.2.2.1 sn.2.1.toNatClampNeg) + (1:Int32))), some (.long q7), none], [], (cW nw kp im ol (sn.1, sn.2.1, sn.2.2.1, sn.2.2.2.1, upd sn.2.2.2.2.1 sn.2.1.toNatClampNeg ((sn.2.2.2.2.1 sn.2.1.toNatClampNeg) + (1:Int32)), sn.2.2.2.2.2) sr tp (mW mk mg mt mc T)), 0, 0)
          exact J176 _ _ _ _ _ _ _ _ hf
        · show sxWP sc cl Q 76 (82, [some (.ref 39), some (.int ((sn.2.2.2.2.1 sn.2.1.toNatClampNeg) + (1:Int32))), some (.long q7), none], [], (cW nw kp im ol (sn.1, sn.2.1, sn.2.2.1, sn.2.2.2.1, upd sn.2.2.2.2.1 sn.2.1.toNatClampNeg ((sn.2.2.2.2.1 sn.2.1.toNatClampNeg) + (1:Int32)), sn.2.2.2.2.2) sr tp (mW mk mg mt mc T)), 0, 0)
          refine stp hm 4 (br hf (fun c9 hf => ?_) (fun c9 hf => ?_))
          · show sxWP sc cl Q 76 (176, [some (.ref 39), some (.int ((sn.2.2.2.2.1 sn.2.1.toNatClampNeg) + (1:Int32))), some (.long q7), none], [], (cW nw kp im ol (sn.1, sn.2.1, sn.2.2.1, sn.2.2.2.1, upd sn.2.2.2.2.1 sn.2.1.toNatClampNeg ((sn.2.2.2.2.1 sn.2.1.toNatClampNeg) + (1:Int32)), sn.2.2.2.2.2) sr tp (mW mk mg mt mc T)), 0, 0)
            exact J176 _ _ _ _ _ _ _ _ hf
          · show sxWP sc cl Q 76 (91, [some (.ref 39), some (.int ((sn.2.2.2.2.1 sn.2.1.toNatClampNeg) + (1:Int32))), some (.long q7), none], [], (cW nw kp im ol (sn.1, sn.2.1, sn.2.2.1, sn.2.2.2.1, upd sn.2.2.2.2.1 sn.2.1.toNatClampNeg ((sn.2.2.2.2.1 sn.2.1.toNatClampNeg) + (1:Int32)), sn.2.2.2.2.2) sr tp (mW mk mg mt mc T)), 0, 0)
            obtain ⟨g10, hf⟩ := grd_e hf
            refine stp hm 11 (And.intro (gi_in g10) (?_ : sxWP sc cl Q 76 (110, [some (.ref 39), some (.int ((sn.2.2.2.2.1 sn.2.1.toNatClampNeg) + (1:Int32))), some (.long q7), none], [.long (sn.2.2.2.1 sn.2.1.toNatClampNeg), .int (sn.2.1 + (1:Int32)), .ref 40], (cW nw kp im ol (sn.1, sn.2.1, sn.2.2.1, sn.2.2.2.1, upd sn.2.2.2.2.1 sn.2.1.toNatClampNeg ((sn.2.2.2.2.1 sn.2.1.toNatClampNeg) + (1:Int32)), sn.2.2.2.2.2) sr tp (mW mk mg mt mc T)), 0, 0)))
            obtain ⟨g11, hf⟩ := grd_e hf
            refine stp hm 5 (And.intro (gi_in g11) (?_ : sxWP sc cl Q 76 (117, [some (.ref 39), some (.int ((sn.2.2.2.2.1 sn.2.1.toNatClampNeg) + (1:Int32))), some (.long q7), none], [], (cW nw kp im ol (sn.1, sn.2.1, sn.2.2.1, vp_updL sn.2.2.2.1 (sn.2.1 + (1:Int32)).toNatClampNeg ((sn.2.2.2.1 sn.2.1.toNatClampNeg) &&& (q7 ^^^ (-1:Int64))), upd sn.2.2.2.2.1 sn.2.1.toNatClampNeg ((sn.2.2.2.2.1 sn.2.1.toNatClampNeg) + (1:Int32)), sn.2.2.2.2.2) sr tp (mW mk mg mt mc T)), 0, 0)))
            obtain ⟨g12, hf⟩ := grd_e hf
            refine stp hm 8 (And.intro (gi_in g12) (?_ : sxWP sc cl Q 76 (129, [some (.ref 39), some (.int ((sn.2.2.2.2.1 sn.2.1.toNatClampNeg) + (1:Int32))), some (.long q7), none], [], (cW nw kp im ol (sn.1, sn.2.1, sn.2.2.1, vp_updL sn.2.2.2.1 (sn.2.1 + (1:Int32)).toNatClampNeg ((sn.2.2.2.1 sn.2.1.toNatClampNeg) &&& (q7 ^^^ (-1:Int64))), upd (upd sn.2.2.2.2.1 sn.2.1.toNatClampNeg ((sn.2.2.2.2.1 sn.2.1.toNatClampNeg) + (1:Int32))) (sn.2.1 + (1:Int32)).toNatClampNeg (-1:Int32), sn.2.2.2.2.2) sr tp (mW mk mg mt mc T)), 0, 0)))
            obtain ⟨g13, hf⟩ := grd_e hf
            refine stp hm 11 (And.intro (gi_in g13) (?_ : sxWP sc cl Q 76 (148, [some (.ref 39), some (.int ((sn.2.2.2.2.1 sn.2.1.toNatClampNeg) + (1:Int32))), some (.long q7), none], [.float (sn.2.2.2.2.2 sn.2.1.toNatClampNeg), .int (sn.2.1 + (1:Int32)), .ref 42], (cW nw kp im ol (sn.1, sn.2.1, sn.2.2.1, vp_updL sn.2.2.2.1 (sn.2.1 + (1:Int32)).toNatClampNeg ((sn.2.2.2.1 sn.2.1.toNatClampNeg) &&& (q7 ^^^ (-1:Int64))), upd (upd sn.2.2.2.2.1 sn.2.1.toNatClampNeg ((sn.2.2.2.2.1 sn.2.1.toNatClampNeg) + (1:Int32))) (sn.2.1 + (1:Int32)).toNatClampNeg (-1:Int32), sn.2.2.2.2.2) sr tp (mW mk mg mt mc T)), 0, 0)))
            have m14 : ∀ (m14_0 : UInt32), m14_0 = (if ((sn.2.2.2.2.1 sn.2.1.toNatClampNeg) + (1:Int32)) = (0:Int32) then (1061158912:UInt32) else (if ((sn.2.2.2.2.1 sn.2.1.toNatClampNeg) + (1:Int32)) = (3:Int32) then (1061158912:UInt32) else (1067450368:UInt32))) → sxWP sc cl Q 76 (164, [some (.ref 39), some (.int ((sn.2.2.2.2.1 sn.2.1.toNatClampNeg) + (1:Int32))), some (.long q7), none], [.float m14_0, .float (sn.2.2.2.2.2 sn.2.1.toNatClampNeg), .int (sn.2.1 + (1:Int32)), .ref 42], (cW nw kp im ol (sn.1, sn.2.1, sn.2.2.1, vp_updL sn.2.2.2.1 (sn.2.1 + (1:Int32)).toNatClampNeg ((sn.2.2.2.1 sn.2.1.toNatClampNeg) &&& (q7 ^^^ (-1:Int64))), upd (upd sn.2.2.2.2.1 sn.2.1.toNatClampNeg ((sn.2.2.2.2.1 sn.2.1.toNatClampNeg) + (1:Int32))) (sn.2.1 + (1:Int32)).toNatClampNeg (-1:Int32), sn.2.2.2.2.2) sr tp (mW mk mg mt mc T)), 0, 0) := by
              intro m14_0 em14_0
              subst em14_0
              obtain ⟨g15, hf⟩ := grd_e hf
              refine stp hm 1 (And.intro (nn32_e g15) (?_ : sxWP sc cl Q 76 (165, [some (.ref 39), some (.int ((sn.2.2.2.2.1 sn.2.1.toNatClampNeg) + (1:Int32))), some (.long q7), none], [.float (FP.fmul (sn.2.2.2.2.2 sn.2.1.toNatClampNeg) (if ((sn.2.2.2.2.1 sn.2.1.toNatClampNeg) + (1:Int32)) = (0:Int32) then (1061158912:UInt32) else (if ((sn.2.2.2.2.1 sn.2.1.toNatClampNeg) + (1:Int32)) = (3:Int32) then (1061158912:UInt32) else (1067450368:UInt32)))), .int (sn.2.1 + (1:Int32)), .ref 42], (cW nw kp im ol (sn.1, sn.2.1, sn.2.2.1, vp_updL sn.2.2.2.1 (sn.2.1 + (1:Int32)).toNatClampNeg ((sn.2.2.2.1 sn.2.1.toNatClampNeg) &&& (q7 ^^^ (-1:Int64))), upd (upd sn.2.2.2.2.1 sn.2.1.toNatClampNeg ((sn.2.2.2.2.1 sn.2.1.toNatClampNeg) + (1:Int32))) (sn.2.1 + (1:Int32)).toNatClampNeg (-1:Int32), sn.2.2.2.2.2) sr tp (mW mk mg mt mc T)), 0, 0)))
              obtain ⟨g16, hf⟩ := grd_e hf
              refine stp hm 1 (And.intro (gi_in g16) (?_ : sxWP sc cl Q 76 (166, [some (.ref 39), some (.int ((sn.2.2.2.2.1 sn.2.1.toNatClampNeg) + (1:Int32))), some (.long q7), none], [], (cW nw kp im ol (sn.1, sn.2.1, sn.2.2.1, vp_updL sn.2.2.2.1 (sn.2.1 + (1:Int32)).toNatClampNeg ((sn.2.2.2.1 sn.2.1.toNatClampNeg) &&& (q7 ^^^ (-1:Int64))), upd (upd sn.2.2.2.2.1 sn.2.1.toNatClampNeg ((sn.2.2.2.2.1 sn.2.1.toNatClampNeg) + (1:Int32))) (sn.2.1 + (1:Int32)).toNatClampNeg (-1:Int32), vf_upd sn.2.2.2.2.2 (sn.2.1 + (1:Int32)).toNatClampNeg (FP.fmul (sn.2.2.2.2.2 sn.2.1.toNatClampNeg) (if ((sn.2.2.2.2.1 sn.2.1.toNatClampNeg) + (1:Int32)) = (0:Int32) then (1061158912:UInt32) else (if ((sn.2.2.2.2.1 sn.2.1.toNatClampNeg) + (1:Int32)) = (3:Int32) then (1061158912:UInt32) else (1067450368:UInt32))))) sr tp (mW mk mg mt mc T)), 0, 0)))
              refine stp hm 6 (?_ : sxWP sc cl Q 76 (176, [some (.ref 39), some (.int ((sn.2.2.2.2.1 sn.2.1.toNatClampNeg) + (1:Int32))), some (.long q7), none], [], (cW nw kp im ol (sn.1, sn.2.1 + (1:Int32), sn.2.2.1, vp_updL sn.2.2.2.1 (sn.2.1 + (1:Int32)).toNatClampNeg ((sn.2.2.2.1 sn.2.1.toNatClampNeg) &&& (q7 ^^^ (-1:Int64))), upd (upd sn.2.2.2.2.1 sn.2.1.toNatClampNeg ((sn.2.2.2.2.1 sn.2.1.toNatClampNeg) + (1:Int32))) (sn.2.1 + (1:Int32)).toNatClampNeg (-1:Int32), vf_upd sn.2.2.2.2.2 (sn.2.1 + (1:Int32)).toNatClampNeg (FP.fmul (sn.2.2.2.2.2 sn.2.1.toNatClampNeg) (if ((sn.2.2.2.2.1 sn.2.1.toNatClampNeg) + (1:Int32)) = (0:Int32) then (1061158912:UInt32) else (if ((sn.2.2.2.2.1 sn.2.1.toNatClampNeg) + (1:Int32)) = (3:Int32) then (1061158912:UInt32) else (1067450368:UInt32))))) sr tp (mW mk mg mt mc T)), 0, 0))
              exact J176 _ _ _ _ _ _ _ _ hf
            refine stp hm 2 (bs (c := ((sn.2.2.2.2.1 sn.2.1.toNatClampNeg) + (1:Int32)) = (0:Int32)) (fun c17 => ?_) (fun c17 => ?_))
            · have c17 : ((sn.2.2.2.2.1 sn.2.1.toNatClampNeg) + (1:Int32)) = (0:Int32) := c17
              refine stp hm 2 (?_ : sxWP sc cl Q 76 (164, [some (.ref 39), some (.int ((sn.2.2.2.2.1 sn.2.1.toNatClampNeg) + (1:Int32))), some (.long q7), none], [.float (1061158912:UInt32), .float (sn.2.2.2.2.2 sn.2.1.toNatClampNeg), .int (sn.2.1 + (1:Int32)), .ref 42], (cW nw kp im ol (sn.1, sn.2.1, sn.2.2.1, vp_updL sn.2.2.2.1 (sn.2.1 + (1:Int32)).toNatClampNeg ((sn.2.2.2.1 sn.2.1.toNatClampNeg) &&& (q7 ^^^ (-1:Int64))), upd (upd sn.2.2.2.2.1 sn.2.1.toNatClampNeg ((sn.2.2.2.2.1 sn.2.1.toNatClampNeg) + (1:Int32))) (sn.2.1 + (1:Int32)).toNatClampNeg (-1:Int32), sn.2.2.2.2.2) sr tp (mW mk mg mt mc T)), 0, 0))
              exact m14 _ (by rw [if_pos c17])
            · have c17 : ¬ ((sn.2.2.2.2.1 sn.2.1.toNatClampNeg) + (1:Int32)) = (0:Int32) := c17
              refine stp hm 3 (bsn (c := ((sn.2.2.2.2.1 sn.2.1.toNatClampNeg) + (1:Int32)) = (3:Int32)) (fun c18 => ?_) (fun c18 => ?_))
              · have c18 : ¬ ((sn.2.2.2.2.1 sn.2.1.toNatClampNeg) + (1:Int32)) = (3:Int32) := c18
                refine stp hm 1 (?_ : sxWP sc cl Q 76 (164, [some (.ref 39), some (.int ((sn.2.2.2.2.1 sn.2.1.toNatClampNeg) + (1:Int32))), some (.long q7), none], [.float (1067450368:UInt32), .float (sn.2.2.2.2.2 sn.2.1.toNatClampNeg), .int (sn.2.1 + (1:Int32)), .ref 42], (cW nw kp im ol (sn.1, sn.2.1, sn.2.2.1, vp_updL sn.2.2.2.1 (sn.2.1 + (1:Int32)).toNatClampNeg ((sn.2.2.2.1 sn.2.1.toNatClampNeg) &&& (q7 ^^^ (-1:Int64))), upd (upd sn.2.2.2.2.1 sn.2.1.toNatClampNeg ((sn.2.2.2.2.1 sn.2.1.toNatClampNeg) + (1:Int32))) (sn.2.1 + (1:Int32)).toNatClampNeg (-1:Int32), sn.2.2.2.2.2) sr tp (mW mk mg mt mc T)), 0, 0))
                exact m14 _ (by rw [if_neg c17, if_neg c18])
              · have c18 : ((sn.2.2.2.2.1 sn.2.1.toNatClampNeg) + (1:Int32)) = (3:Int32) := c18
                refine stp hm 2 (?_ : sxWP sc cl Q 76 (164, [some (.ref 39), some (.int ((sn.2.2.2.2.1 sn.2.1.toNatClampNeg) + (1:Int32))), some (.long q7), none], [.float (1061158912:UInt32), .float (sn.2.2.2.2.2 sn.2.1.toNatClampNeg), .int (sn.2.1 + (1:Int32)), .ref 42], (cW nw kp im ol (sn.1, sn.2.1, sn.2.2.1, vp_updL sn.2.2.2.1 (sn.2.1 + (1:Int32)).toNatClampNeg ((sn.2.2.2.1 sn.2.1.toNatClampNeg) &&& (q7 ^^^ (-1:Int64))), upd (upd sn.2.2.2.2.1 sn.2.1.toNatClampNeg ((sn.2.2.2.2.1 sn.2.1.toNatClampNeg) + (1:Int32))) (sn.2.1 + (1:Int32)).toNatClampNeg (-1:Int32), sn.2.2.2.2.2) sr tp (mW mk mg mt mc T)), 0, 0))
                exact m14 _ (by rw [if_neg c17, if_pos c18])
      · show sxWP sc cl Q 76 (40, [some (.ref 39), some (.int ((sn.2.2.2.2.1 sn.2.1.toNatClampNeg) + (1:Int32))), none, none], [], (cW nw kp im ol sn sr tp (mW mk mg mt mc T)), 0, 0)
        obtain rfl := Option.some.inj hf
        refine stp hm 7 ?_
        exact h
    · show sxWP sc cl Q 76 (16, [some (.ref 39), none, none, none], [], (cW nw kp im ol sn sr tp (mW mk mg mt mc T)), 0, 0)
      exact J16 _ _ _ _ _ _ _ _ hf

def N_advance_s24   (skd : Int32) (s : (Int32 × Int32 × (Nat → Int64) × (Nat → Int32) × (Nat → UInt32))) : Option ((Int32 × Int32 × (Nat → Int64) × (Nat → Int32) × (Nat → UInt32)) ⊕ ((Int32 × (Nat → Int64) × (Nat → Int32) × (Nat → UInt32)) ⊕ (Int32 × (Nat → Int64) × (Nat → Int32) × (Nat → UInt32)))) := if (1000000:Int32) ≤ s.1 then (some (Sum.inr (Sum.inr (s.2.1, s.2.2.1, s.2.2.2.1, s.2.2.2.2)))) else (if s.2.1 < (0:Int32) then (some (Sum.inr (Sum.inr (s.2.1, s.2.2.1, s.2.2.2.1, s.2.2.2.2)))) else (if (18:Int32) < s.2.1 then (some (Sum.inr (Sum.inr (s.2.1, s.2.2.1, s.2.2.2.1, s.2.2.2.2)))) else (grd (gi s.2.1 19) (if (s.2.2.1 s.2.1.toNatClampNeg) = (0:Int64) then (some (Sum.inr (Sum.inl (s.2.1, s.2.2.1, s.2.2.2.1, s.2.2.2.2)))) else (Option.bind (N_tryNext skd s.2.1 s.2.2.1 s.2.2.2.1 s.2.2.2.2) (fun q6 => some (Sum.inl (s.1 + (1:Int32), q6.1, q6.2.1, q6.2.2.1, q6.2.2.2))))))))
def N_advance_j22  (sdp_j : Int32) (sfd_j : Int32) (sop_j : (Nat → Int64)) (str_j : (Nat → Int32)) (spr_j : (Nat → UInt32)) (skd : Int32) : Option (Int32 × Int32 × Int32 × (Nat → Int64) × (Nat → Int32) × (Nat → UInt32)) := Option.bind (wh (N_advance_s24 skd) FU ((0:Int32), sdp_j, sop_j, str_j, spr_j)) (Sum.elim (fun w1_0a => some ((1:Int32), w1_0a.1, (1:Int32), w1_0a.2.1, w1_0a.2.2.1, w1_0a.2.2.2)) (fun w1_0b => some ((0:Int32), w1_0b.1, sfd_j, w1_0b.2.1, w1_0b.2.2.1, w1_0b.2.2.2)))
def N_advance  (skd : Int32) (sdp : Int32) (sfd : Int32) (sop : (Nat → Int64)) (str : (Nat → Int32)) (spr : (Nat → UInt32)) : Option (Int32 × Int32 × Int32 × (Nat → Int64) × (Nat → Int32) × (Nat → UInt32)) := if sfd = (0:Int32) then (N_advance_j22 sdp sfd sop str spr skd) else (N_advance_j22 (sdp - (1:Int32)) (0:Int32) sop str spr skd)
set_option maxRecDepth 10000 in
theorem N_advance_l24    (hE : cl = sxE sc (d + 3)) (hm : CallMono cl) : ∀ (n : Nat) (s : (Int32 × Int32 × (Nat → Int64) × (Nat → Int32) × (Nat → UInt32))) (r : ((Int32 × (Nat → Int64) × (Nat → Int32) × (Nat → UInt32)) ⊕ (Int32 × (Nat → Int64) × (Nat → Int32) × (Nat → UInt32)))), wh (N_advance_s24 sn.1) n s = some r → ((∀ p0, r = Sum.inl p0 → ∀ (z1 : Option Value), sxWP sc cl Q 75 (60, [some (.ref 39), z1], [], (cW nw kp im ol (sn.1, p0.1, sn.2.2.1, p0.2.1, p0.2.2.1, p0.2.2.2) sr tp (mW mk mg mt mc T)), 0, 0)) ∧ (∀ p0, r = Sum.inr p0 → ∀ (z0 z1 : Option Value), sxWP sc cl Q 75 (77, [z0, z1], [], (cW nw kp im ol (sn.1, p0.1, sn.2.2.1, p0.2.1, p0.2.2.1, p0.2.2.2) sr tp (mW mk mg mt mc T)), 0, 0))) → sxWP sc cl Q 75 (24, [some (.ref 39), some (.int s.1)], [], (cW nw kp im ol (sn.1, s.2.1, sn.2.2.1, s.2.2.1, s.2.2.2.1, s.2.2.2.2) sr tp (mW mk mg mt mc T)), 0, 0) := by
  refine wh_run (A := fun (s : (Int32 × Int32 × (Nat → Int64) × (Nat → Int32) × (Nat → UInt32))) => sxWP sc cl Q 75 (24, [some (.ref 39), some (.int s.1)], [], (cW nw kp im ol (sn.1, s.2.1, sn.2.2.1, s.2.2.1, s.2.2.2.1, s.2.2.2.2) sr tp (mW mk mg mt mc T)), 0, 0)) (B := fun (r : ((Int32 × (Nat → Int64) × (Nat → Int32) × (Nat → UInt32)) ⊕ (Int32 × (Nat → Int64) × (Nat → Int32) × (Nat → UInt32)))) => (∀ p0, r = Sum.inl p0 → ∀ (z1 : Option Value), sxWP sc cl Q 75 (60, [some (.ref 39), z1], [], (cW nw kp im ol (sn.1, p0.1, sn.2.2.1, p0.2.1, p0.2.2.1, p0.2.2.2) sr tp (mW mk mg mt mc T)), 0, 0)) ∧ (∀ p0, r = Sum.inr p0 → ∀ (z0 z1 : Option Value), sxWP sc cl Q 75 (77, [z0, z1], [], (cW nw kp im ol (sn.1, p0.1, sn.2.2.1, p0.2.1, p0.2.2.1, p0.2.2.2) sr tp (mW mk mg mt mc T)), 0, 0))) (fun s x hf hA hB => ?_)
  unfold N_advance_s24 at hf
  refine stp hm 3 (br hf (fun c1 hf => ?_) (fun c1 hf => ?_))
  · show sxWP sc cl Q 75 (77, [some (.ref 39), some (.int s.1)], [], (cW nw kp im ol (sn.1, s.2.1, sn.2.2.1, s.2.2.1, s.2.2.2.1, s.2.2.2.2) sr tp (mW mk mg mt mc T)), 0, 0)
    obtain rfl := Option.some.inj hf
    exact (hB _ rfl).2 _ rfl _ _
  · show sxWP sc cl Q 75 (30, [some (.ref 39), some (.int s.1)], [], (cW nw kp im ol (sn.1, s.2.1, sn.2.2.1, s.2.2.1, s.2.2.2.1, s.2.2.2.2) sr tp (mW mk mg mt mc T)), 0, 0)
    refine stp hm 3 (br hf (fun c2 hf => ?_) (fun c2 hf => ?_))
    · show sxWP sc cl Q 75 (77, [some (.ref 39), some (.int s.1)], [], (cW nw kp im ol (sn.1, s.2.1, sn.2.2.1, s.2.2.1, s.2.2.2.1, s.2.2.2.2) sr tp (mW mk mg mt mc T)), 0, 0)
      obtain rfl := Option.some.inj hf
      exact (hB _ rfl).2 _ rfl _ _
    · show sxWP sc cl Q 75 (37, [some (.ref 39), some (.int s.1)], [], (cW nw kp im ol (sn.1, s.2.1, sn.2.2.1, s.2.2.1, s.2.2.2.1, s.2.2.2.2) sr tp (mW mk mg mt mc T)), 0, 0)
      refine stp hm 4 (br hf (fun c3 hf => ?_) (fun c3 hf => ?_))
      · show sxWP sc cl Q 75 (77, [some (.ref 39), some (.int s.1)], [], (cW nw kp im ol (sn.1, s.2.1, sn.2.2.1, s.2.2.1, s.2.2.2.1, s.2.2.2.2) sr tp (mW mk mg mt mc T)), 0, 0)
        obtain rfl := Option.some.inj hf
        exact (hB _ rfl).2 _ rfl _ _
      · show sxWP sc cl Q 75 (46, [some (.ref 39), some (.int s.1)], [], (cW nw kp im ol (sn.1, s.2.1, sn.2.2.1, s.2.2.1, s.2.2.2.1, s.2.2.2.2) sr tp (mW mk mg mt mc T)), 0, 0)
        obtain ⟨g4, hf⟩ := grd_e hf
        refine stp hm 5 (And.intro (gi_in g4) (?_ : sxWP sc cl Q 75 (55, [some (.ref 39), some (.int s.1)], [.long (s.2.2.1 s.2.1.toNatClampNeg)], (cW nw kp im ol (sn.1, s.2.1, sn.2.2.1, s.2.2.1, s.2.2.2.1, s.2.2.2.2) sr tp (mW mk mg mt mc T)), 0, 0)))
        refine stp hm 3 (brnI (lg_cmp_eq _ _) hf (fun c5 hf => ?_) (fun c5 hf => ?_))
        · show sxWP sc cl Q 75 (67, [some (.ref 39), some (.int s.1)], [], (cW nw kp im ol (sn.1, s.2.1, sn.2.2.1, s.2.2.1, s.2.2.2.1, s.2.2.2.2) sr tp (mW mk mg mt mc T)), 0, 0)
          obtain ⟨q6, hq6, hf⟩ := bnd hf
          refine stp hm 2 (N_tryNext_ok hE hq6 ?_)
          show sxWP sc cl Q 75 (71, [some (.ref 39), some (.int s.1)], [], (cW nw kp im ol (sn.1, q6.1, sn.2.2.1, q6.2.1, q6.2.2.1, q6.2.2.2) sr tp (mW mk mg mt mc T)), 0, 0)
          obtain rfl := Option.some.inj hf
          refine stp hm 2 (?_ : sxWP sc cl Q 75 (24, [some (.ref 39), some (.int (s.1 + (1:Int32)))], [], (cW nw kp im ol (sn.1, q6.1, sn.2.2.1, q6.2.1, q6.2.2.1, q6.2.2.2) sr tp (mW mk mg mt mc T)), 0, 0))
          exact hA _ rfl
        · show sxWP sc cl Q 75 (60, [some (.ref 39), some (.int s.1)], [], (cW nw kp im ol (sn.1, s.2.1, sn.2.2.1, s.2.2.1, s.2.2.2.1, s.2.2.2.2) sr tp (mW mk mg mt mc T)), 0, 0)
          obtain rfl := Option.some.inj hf
          exact (hB _ rfl).1 _ rfl _
set_option maxRecDepth 10000 in
theorem N_advance_ok  {q : (Int32 × Int32 × Int32 × (Nat → Int64) × (Nat → Int32) × (Nat → UInt32))} (hc : call = sxE sc (d + 4)) (hf : N_advance sn.1 sn.2.1 sn.2.2.1 sn.2.2.2.1 sn.2.2.2.2.1 sn.2.2.2.2.2 = some q) (h : Q (some (.int q.1)) (cW nw kp im ol (sn.1, q.2.1, q.2.2.1, q.2.2.2.1, q.2.2.2.2.1, q.2.2.2.2.2) sr tp (mW mk mg mt mc T))) : call 75 [.ref 39] (cW nw kp im ol sn sr tp (mW mk mg mt mc T)) Q := by
  refine ent hc rfl (fun cl hE hm => ?_)
  have J22 : ∀ (sdp_j : Int32) (sfd_j : Int32) (sop_j : (Nat → Int64)) (str_j : (Nat → Int32)) (spr_j : (Nat → UInt32)) (z1 : Option Value), N_advance_j22 sdp_j sfd_j sop_j str_j spr_j sn.1 = some q → sxWP sc cl Q 75 (22, [some (.ref 39), z1], [], (cW nw kp im ol (sn.1, sdp_j, sfd_j, sop_j, str_j, spr_j) sr tp (mW mk mg mt mc T)), 0, 0) := by
    intro sdp_j sfd_j sop_j str_j spr_j z1 hf
    unfold N_advance_j22 at hf
    obtain ⟨w1, hw1, hf⟩ := bnd hf
    refine stp hm 2 (?_ : sxWP sc cl Q 75 (24, [some (.ref 39), some (.int (0:Int32))], [], (cW nw kp im ol (sn.1, sdp_j, sfd_j, sop_j, str_j, spr_j) sr tp (mW mk mg mt mc T)), 0, 0))
    refine N_advance_l24 hE hm _ _ _ hw1 ?_
    refine ⟨fun w1_0a e0 => ?_, fun w1_0b e0 => ?_⟩
    · subst e0
      replace hf : (some ((1:Int32), w1_0a.1, (1:Int32), w1_0a.2.1, w1_0a.2.2.1, w1_0a.2.2.2)) = some q := hf
      intro w1_z1
      show sxWP sc cl Q 75 (60, [some (.ref 39), w1_z1], [], (cW nw kp im ol (sn.1, w1_0a.1, sfd_j, w1_0a.2.1, w1_0a.2.2.1, w1_0a.2.2.2) sr tp (mW mk mg mt mc T)), 0, 0)
      refine stp hm 3 (And.intro (Or.inr rfl) (?_ : sxWP sc cl Q 75 (65, [some (.ref 39), w1_z1], [], (cW nw kp im ol (sn.1, w1_0a.1, (1:Int32), w1_0a.2.1, w1_0a.2.2.1, w1_0a.2.2.2) sr tp (mW mk mg mt mc T)), 0, 0)))
      obtain rfl := Option.some.inj hf
      refine stp hm 2 (And.intro (Or.inr rfl) ?_)
      exact h
    · subst e0
      replace hf : (some ((0:Int32), w1_0b.1, sfd_j, w1_0b.2.1, w1_0b.2.2.1, w1_0b.2.2.2)) = some q := hf
      intro w1_z0 w1_z1
      show sxWP sc cl Q 75 (77, [w1_z0, w1_z1], [], (cW nw kp im ol (sn.1, w1_0b.1, sfd_j, w1_0b.2.1, w1_0b.2.2.1, w1_0b.2.2.2) sr tp (mW mk mg mt mc T)), 0, 0)
      obtain rfl := Option.some.inj hf
      refine stp hm 2 (And.intro (Or.inl rfl) ?_)
      exact h
  unfold N_advance at hf
  refine stp hm 3 (br hf (fun c2 hf => ?_) (fun c2 hf => ?_))
  · show sxWP sc cl Q 75 (22, [some (.ref 39), none], [], (cW nw kp im ol sn sr tp (mW mk mg mt mc T)), 0, 0)
    exact J22 _ _ _ _ _ _ hf
  · show sxWP sc cl Q 75 (7, [some (.ref 39), none], [], (cW nw kp im ol sn sr tp (mW mk mg mt mc T)), 0, 0)
    refine stp hm 3 (And.intro (Or.inl rfl) (?_ : sxWP sc cl Q 75 (12, [some (.ref 39), none], [], (cW nw kp im ol (sn.1, sn.2.1, (0:Int32), sn.2.2.2.1, sn.2.2.2.2.1, sn.2.2.2.2.2) sr tp (mW mk mg mt mc T)), 0, 0)))
    refine stp hm 6 (?_ : sxWP sc cl Q 75 (22, [some (.ref 39), none], [], (cW nw kp im ol (sn.1, sn.2.1 - (1:Int32), (0:Int32), sn.2.2.2.1, sn.2.2.2.2.1, sn.2.2.2.2.2) sr tp (mW mk mg mt mc T)), 0, 0))
    exact J22 _ _ _ _ _ _ hf
end PT
