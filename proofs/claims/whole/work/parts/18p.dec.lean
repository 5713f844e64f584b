/-! methods as functions (printed by wip/whole/dec) -/
section PT
variable {sc : sxS} {d : Nat} {Q : sxR} {hp : sxH} {call cl : sxX} {nw kp : tSt} {im : Int32} {ol : tOl} {sn : tSn} {sr : tSc} {tp : Nat → tTp} {mk : tMk} {mg : tMg} {mt : tMt} {mc : tMc} {T : sxH}

def X_coverings_s28   (skd : Int32) (s : (Int32 × Int32 × Int32 × Int32 × (Nat → Int64) × (Nat → Int32) × (Nat → UInt32))) : Option ((Int32 × Int32 × Int32 × Int32 × (Nat → Int64) × (Nat → Int32) × (Nat → UInt32)) ⊕ (Int32 × Int32 × Int32 × (Nat → Int64) × (Nat → Int32) × (Nat → UInt32))) := if (1000000:Int32) ≤ s.2.1 then (some (Sum.inr (s.1, s.2.2.1, s.2.2.2.1, s.2.2.2.2.1, s.2.2.2.2.2.1, s.2.2.2.2.2.2))) else (Option.bind (N_advance skd s.2.2.1 s.2.2.2.1 s.2.2.2.2.1 s.2.2.2.2.2.1 s.2.2.2.2.2.2) (fun q2 => if q2.1 = (0:Int32) then (some (Sum.inr (s.1, q2.2.1, q2.2.2.1, q2.2.2.2.1, q2.2.2.2.2.1, q2.2.2.2.2.2))) else (some (Sum.inl (s.1 + (1:Int32), s.2.1 + (1:Int32), q2.2.1, q2.2.2.1, q2.2.2.2.1, q2.2.2.2.2.1, q2.2.2.2.2.2)))))
def X_coverings (v1 : Int32) (nrg : Int64) (skd : Int32) (sdp : Int32) (sfd : Int32) (sop : (Nat → Int64)) (str : (Nat → Int32)) (spr : (Nat → UInt32)) : Option (Int32 × Int32 × Int32 × Int32 × (Nat → Int64) × (Nat → Int32) × (Nat → UInt32)) := if (N_isKind v1) = (0:Int32) then (some ((-1:Int32), skd, sdp, sfd, sop, str, spr)) else (Option.bind (N_start v1 nrg sop str spr) (fun q2 => Option.bind (wh (X_coverings_s28 q2.1) FU ((0:Int32), (0:Int32), q2.2.1, q2.2.2.1, q2.2.2.2.1, q2.2.2.2.2.1, q2.2.2.2.2.2)) (fun w3 => some (w3.1, q2.1, w3.2.1, w3.2.2.1, w3.2.2.2.1, w3.2.2.2.2.1, w3.2.2.2.2.2))))
set_option maxRecDepth 10000 in
theorem X_coverings_l28    (hE : cl = sxE sc (d + 4)) (hm : CallMono cl) : ∀ (n : Nat) (s : (Int32 × Int32 × Int32 × Int32 × (Nat → Int64) × (Nat → Int32) × (Nat → UInt32))) (r : (Int32 × Int32 × Int32 × (Nat → Int64) × (Nat → Int32) × (Nat → UInt32))), wh (X_coverings_s28 sn.1) n s = some r → (∀ (z0 z1 z3 : Option Value), sxWP sc cl Q 112 (54, [z0, z1, some (.int r.1), z3], [], (cW nw kp im ol (sn.1, r.2.1, r.2.2.1, r.2.2.2.1, r.2.2.2.2.1, r.2.2.2.2.2) sr tp (mW mk mg mt mc T)), 0, 0)) → ∀ (z1 : Option Value), sxWP sc cl Q 112 (28, [some (.ref 0), z1, some (.int s.1), some (.int s.2.1)], [], (cW nw kp im ol (sn.1, s.2.2.1, s.2.2.2.1, s.2.2.2.2.1, s.2.2.2.2.2.1, s.2.2.2.2.2.2) sr tp (mW mk mg mt mc T)), 0, 0) := by
  refine wh_run (A := fun (s : (Int32 × Int32 × Int32 × Int32 × (Nat → Int64) × (Nat → Int32) × (Nat → UInt32))) => ∀ (z1 : Option Value), sxWP sc cl Q 112 (28, [some (.ref 0), z1, some (.int s.1), some (.int s.2.1)], [], (cW nw kp im ol (sn.1, s.2.2.1, s.2.2.2.1, s.2.2.2.2.1, s.2.2.2.2.2.1, s.2.2.2.2.2.2) sr tp (mW mk mg mt mc T)), 0, 0)) (B := fun (r : (Int32 × Int32 × Int32 × (Nat → Int64) × (Nat → Int32) × (Nat → UInt32))) => ∀ (z0 z1 z3 : Option Value), sxWP sc cl Q 112 (54, [z0, z1, some (.int r.1), z3], [], (cW nw kp im ol (sn.1, r.2.1, r.2.2.1, r.2.2.2.1, r.2.2.2.2.1, r.2.2.2.2.2) sr tp (mW mk mg mt mc T)), 0, 0)) (fun s x hf hA hB => ?_)
  intro z1
  unfold X_coverings_s28 at hf
  refine stp hm 3 (br hf (fun c1 hf => ?_) (fun c1 hf => ?_))
  · show sxWP sc cl Q 112 (54, [some (.ref 0), z1, some (.int s.1), some (.int s.2.1)], [], (cW nw kp im ol (sn.1, s.2.2.1, s.2.2.2.1, s.2.2.2.2.1, s.2.2.2.2.2.1, s.2.2.2.2.2.2) sr tp (mW mk mg mt mc T)), 0, 0)
    obtain rfl := Option.some.inj hf
    exact hB _ rfl _ _ _
  · show sxWP sc cl Q 112 (35, [some (.ref 0), z1, some (.int s.1), some (.int s.2.1)], [], (cW nw kp im ol (sn.1, s.2.2.1, s.2.2.2.1, s.2.2.2.2.1, s.2.2.2.2.2.1, s.2.2.2.2.2.2) sr tp (mW mk mg mt mc T)), 0, 0)
    obtain ⟨q2, hq2, hf⟩ := bnd hf
    refine stp hm 3 (N_advance_ok hE hq2 ?_)
    show sxWP sc cl Q 112 (42, [some (.ref 0), z1, some (.int s.1), some (.int s.2.1)], [.int q2.1], (cW nw kp im ol (sn.1, q2.2.1, q2.2.2.1, q2.2.2.2.1, q2.2.2.2.2.1, q2.2.2.2.2.2) sr tp (mW mk mg mt mc T)), 0, 0)
    refine stp hm 1 (br hf (fun c3 hf => ?_) (fun c3 hf => ?_))
    · show sxWP sc cl Q 112 (54, [some (.ref 0), z1, some (.int s.1), some (.int s.2.1)], [], (cW nw kp im ol (sn.1, q2.2.1, q2.2.2.1, q2.2.2.2.1, q2.2.2.2.2.1, q2.2.2.2.2.2) sr tp (mW mk mg mt mc T)), 0, 0)
      obtain rfl := Option.some.inj hf
      exact hB _ rfl _ _ _
    · show sxWP sc cl Q 112 (45, [some (.ref 0), z1, some (.int s.1), some (.int s.2.1)], [], (cW nw kp im ol (sn.1, q2.2.1, q2.2.2.1, q2.2.2.2.1, q2.2.2.2.2.1, q2.2.2.2.2.2) sr tp (mW mk mg mt mc T)), 0, 0)
      obtain rfl := Option.some.inj hf
      refine stp hm 3 (?_ : sxWP sc cl Q 112 (28, [some (.ref 0), (sxc2 z1), some (.int (s.1 + (1:Int32))), some (.int (s.2.1 + (1:Int32)))], [], (cW nw kp im ol (sn.1, q2.2.1, q2.2.2.1, q2.2.2.2.1, q2.2.2.2.2.1, q2.2.2.2.2.2) sr tp (mW mk mg mt mc T)), 0, 0))
      exact hA _ rfl _
set_option maxRecDepth 10000 in
theorem X_coverings_ok {v1 : Int32} {q : (Int32 × Int32 × Int32 × Int32 × (Nat → Int64) × (Nat → Int32) × (Nat → UInt32))} (hc : call = sxE sc (d + 5)) (hf : X_coverings v1 nw.1 sn.1 sn.2.1 sn.2.2.1 sn.2.2.2.1 sn.2.2.2.2.1 sn.2.2.2.2.2 = some q) (h : Q (some (.int q.1)) (cW nw kp im ol (q.2.1, q.2.2.1, q.2.2.2.1, q.2.2.2.2.1, q.2.2.2.2.2.1, q.2.2.2.2.2.2) sr tp (mW mk mg mt mc T))) : call 112 [.ref 0, .int v1] (cW nw kp im ol sn sr tp (mW mk mg mt mc T)) Q := by
  refine ent hc rfl (fun cl hE hm => ?_)
  unfold X_coverings at hf
  refine stp hm 2 (N_isKind_ok hE rfl ?_)
  show sxWP sc cl Q 112 (4, [some (.ref 0), some (.int v1), none, none], [.int (N_isKind v1)], (cW nw kp im ol sn sr tp (mW mk mg mt mc T)), 0, 0)
  refine stp hm 1 (brn hf (fun c1 hf => ?_) (fun c1 hf => ?_))
  · show sxWP sc cl Q 112 (9, [some (.ref 0), some (.int v1), none, none], [], (cW nw kp im ol sn sr tp (mW mk mg mt mc T)), 0, 0)
    obtain ⟨q2, hq2, hf⟩ := bnd hf
    refine stp hm 7 (N_start_ok hE hq2 ?_)
    show sxWP sc cl Q 112 (24, [some (.ref 0), some (.int v1), none, none], [], (cW nw kp im ol (q2.1, q2.2.1, q2.2.2.1, q2.2.2.2.1, q2.2.2.2.2.1, q2.2.2.2.2.2) sr tp (mW mk mg mt mc T)), 0, 0)
    obtain ⟨w3, hw3, hf⟩ := bnd hf
    refine stp hm 4 (?_ : sxWP sc cl Q 112 (28, [some (.ref 0), some (.int v1), some (.int (0:Int32)), some (.int (0:Int32))], [], (cW nw kp im ol (q2.1, q2.2.1, q2.2.2.1, q2.2.2.2.1, q2.2.2.2.2.1, q2.2.2.2.2.2) sr tp (mW mk mg mt mc T)), 0, 0))
    refine X_coverings_l28 hE hm _ _ _ hw3 ?_ _
    intro w3_z0 w3_z1 w3_z3
    show sxWP sc cl Q 112 (54, [w3_z0, w3_z1, some (.int w3.1), w3_z3], [], (cW nw kp im ol (q2.1, w3.2.1, w3.2.2.1, w3.2.2.2.1, w3.2.2.2.2.1, w3.2.2.2.2.2) sr tp (mW mk mg mt mc T)), 0, 0)
    obtain rfl := Option.some.inj hf
    refine stp hm 2 ?_
    exact h
  · show sxWP sc cl Q 112 (7, [some (.ref 0), some (.int v1), none, none], [], (cW nw kp im ol sn sr tp (mW mk mg mt mc T)), 0, 0)
    obtain rfl := Option.some.inj hf
    refine stp hm 2 ?_
    exact h

def M_isKind (v0 : Int32)  : Int32 := M_isIn v0 (0:Int32) (2:Int32)
set_option maxRecDepth 10000 in
theorem M_isKind_ok {v0 : Int32} {r : Int32} (hc : call = sxE sc (d + 2)) (hf : M_isKind v0 = r) (h : Q (some (.int r)) hp) : call 212 [.int v0] hp Q := by
  refine ent hc rfl (fun cl hE hm => ?_)
  unfold M_isKind at hf
  refine stp hm 4 (M_isIn_ok hE rfl ?_)
  show sxWP sc cl Q 212 (6, [some (.int v0)], [.int (M_isIn v0 (0:Int32) (2:Int32))], hp, 0, 0)
  subst hf
  refine stp hm 1 (And.intro (M_isIn_z) ?_)
  exact h
theorem M_isKind_z {v0 : Int32}  : M_isKind v0 = 0 ∨ M_isKind v0 = 1 := by
  unfold M_isKind
  (repeat' split) <;> first | exact Or.inl rfl | exact Or.inr rfl | exact M_isIn_z

def M_whole_j41  (v2 : Int32) (k1 : Int32) (k2 : Int32) (cff_j : (Nat → Int32)) : Option ((Int32 × (Nat → Int32)) ⊕ (Nat → Int32)) := grd (gi k1 36) (some (Sum.inl (v2 + (1:Int32), upd cff_j k1.toNatClampNeg k2)))
def M_whole_s2   (mrg : Int64) (cco : Int64) (cfo : (Nat → Int32)) (s : (Int32 × (Nat → Int32))) : Option ((Int32 × (Nat → Int32)) ⊕ (Nat → Int32)) := if (36:Int32) ≤ s.1 then (some (Sum.inr s.2)) else (if cco = (0:Int64) then (if (M_has s.1 mrg) = (0:Int32) then (M_whole_j41 s.1 s.1 (-5:Int32) s.2) else (grd (gi s.1 36) (M_whole_j41 s.1 s.1 (cfo s.1.toNatClampNeg) s.2))) else (some (Sum.inr s.2)))
def M_whole_j113  (k1 : Int64) (k2 : Int64) (cco_j : Int64) (cwe_j : UInt32) (cff_j : (Nat → Int32)) : Option (Int64 × Int64 × UInt32 × (Nat → Int32)) := some (cco_j, k1 + k2, cwe_j, cff_j)
def M_whole_j112  (k1 : Int64) (cco_j : Int64) (cwe_j : UInt32) (cff_j : (Nat → Int32)) : Option (Int64 × Int64 × UInt32 × (Nat → Int32)) := M_whole_j113 k1 (0:Int64) cco_j cwe_j cff_j
def M_whole (v1 : UInt32) (mrg : Int64) (cco : Int64) (cct : Int64) (cac : Int32) (caf : Int32) (cwe : UInt32) (cfo : (Nat → Int32)) (cff : (Nat → Int32)) : Option (Int64 × Int64 × UInt32 × (Nat → Int32)) := Option.bind (wh (M_whole_s2 mrg cco cfo) FU ((0:Int32), cff)) (fun w1 => grd (nn32 (FP.fadd cwe v1)) (if cac = (-1:Int32) then (M_whole_j112 cct (cco + (1:Int64)) (FP.fadd cwe v1) w1) else (if (M_has cac mrg) = (0:Int32) then (M_whole_j112 cct (cco + (1:Int64)) (FP.fadd cwe v1) w1) else (grd (gi cac 36) (some (cco + (1:Int64), cct + (if (cfo cac.toNatClampNeg) = caf then (1:Int64) else (0:Int64)), FP.fadd cwe v1, w1))))))
set_option maxRecDepth 10000 in
theorem M_whole_l2 {v1 : UInt32}   (hE : cl = sxE sc (d + 1)) (hm : CallMono cl) : ∀ (n : Nat) (s : (Int32 × (Nat → Int32))) (r : (Nat → Int32)), wh (M_whole_s2 mk.1 mc.1 mc.2.2.2.2.2.1) n s = some r → (∀ (z2 : Option Value), sxWP sc cl Q 209 (48, [some (.ref 59), some (.float v1), z2], [], (cW nw kp im ol sn sr tp (mW mk mg mt (mc.1, mc.2.1, mc.2.2.1, mc.2.2.2.1, mc.2.2.2.2.1, mc.2.2.2.2.2.1, r, mc.2.2.2.2.2.2.2) T)), 0, 0)) → sxWP sc cl Q 209 (2, [some (.ref 59), some (.float v1), some (.int s.1)], [], (cW nw kp im ol sn sr tp (mW mk mg mt (mc.1, mc.2.1, mc.2.2.1, mc.2.2.2.1, mc.2.2.2.2.1, mc.2.2.2.2.2.1, s.2, mc.2.2.2.2.2.2.2) T)), 0, 0) := by
  refine wh_run (A := fun (s : (Int32 × (Nat → Int32))) => sxWP sc cl Q 209 (2, [some (.ref 59), some (.float v1), some (.int s.1)], [], (cW nw kp im ol sn sr tp (mW mk mg mt (mc.1, mc.2.1, mc.2.2.1, mc.2.2.2.1, mc.2.2.2.2.1, mc.2.2.2.2.2.1, s.2, mc.2.2.2.2.2.2.2) T)), 0, 0)) (B := fun (r : (Nat → Int32)) => ∀ (z2 : Option Value), sxWP sc cl Q 209 (48, [some (.ref 59), some (.float v1), z2], [], (cW nw kp im ol sn sr tp (mW mk mg mt (mc.1, mc.2.1, mc.2.2.1, mc.2.2.2.1, mc.2.2.2.2.1, mc.2.2.2.2.2.1, r, mc.2.2.2.2.2.2.2) T)), 0, 0)) (fun s x hf hA hB => ?_)
  have J41 : ∀ (v2 : Int32) (k1 : Int32) (k2 : Int32) (cff_j : (Nat → Int32)), M_whole_j41 v2 k1 k2 cff_j = some x → sxWP sc cl Q 209 (41, [some (.ref 59), some (.float v1), some (.int v2)], [.int k2, .int k1, .ref 79], (cW nw kp im ol sn sr tp (mW mk mg mt (mc.1, mc.2.1, mc.2.2.1, mc.2.2.2.1, mc.2.2.2.2.1, mc.2.2.2.2.2.1, cff_j, mc.2.2.2.2.2.2.2) T)), 0, 0) := by
    intro v2 k1 k2 cff_j hf
    unfold M_whole_j41 at hf
    obtain ⟨g1, hf⟩ := grd_e hf
    refine stp hm 1 (And.intro (gi_in g1) (?_ : sxWP sc cl Q 209 (42, [some (.ref 59), some (.float v1), some (.int v2)], [], (cW nw kp im ol sn sr tp (mW mk mg mt (mc.1, mc.2.1, mc.2.2.1, mc.2.2.2.1, mc.2.2.2.2.1, mc.2.2.2.2.2.1, upd cff_j k1.toNatClampNeg k2, mc.2.2.2.2.2.2.2) T)), 0, 0)))
    obtain rfl := Option.some.inj hf
    refine stp hm 2 (?_ : sxWP sc cl Q 209 (2, [some (.ref 59), some (.float v1), some (.int (v2 + (1:Int32)))], [], (cW nw kp im ol sn sr tp (mW mk mg mt (mc.1, mc.2.1, mc.2.2.1, mc.2.2.2.1, mc.2.2.2.2.1, mc.2.2.2.2.2.1, upd cff_j k1.toNatClampNeg k2, mc.2.2.2.2.2.2.2) T)), 0, 0))
    exact hA _ rfl
  unfold M_whole_s2 at hf
  refine stp hm 3 (br hf (fun c2 hf => ?_) (fun c2 hf => ?_))
  · show sxWP sc cl Q 209 (48, [some (.ref 59), some (.float v1), some (.int s.1)], [], (cW nw kp im ol sn sr tp (mW mk mg mt (mc.1, mc.2.1, mc.2.2.1, mc.2.2.2.1, mc.2.2.2.2.1, mc.2.2.2.2.2.1, s.2, mc.2.2.2.2.2.2.2) T)), 0, 0)
    obtain rfl := Option.some.inj hf
    exact hB _ rfl _
  · show sxWP sc cl Q 209 (8, [some (.ref 59), some (.float v1), some (.int s.1)], [], (cW nw kp im ol sn sr tp (mW mk mg mt (mc.1, mc.2.1, mc.2.2.1, mc.2.2.2.1, mc.2.2.2.2.1, mc.2.2.2.2.2.1, s.2, mc.2.2.2.2.2.2.2) T)), 0, 0)
    refine stp hm 5 (brnI (lg_cmp_eq _ _) hf (fun c3 hf => ?_) (fun c3 hf => ?_))
    · show sxWP sc cl Q 209 (48, [some (.ref 59), some (.float v1), some (.int s.1)], [], (cW nw kp im ol sn sr tp (mW mk mg mt (mc.1, mc.2.1, mc.2.2.1, mc.2.2.2.1, mc.2.2.2.2.1, mc.2.2.2.2.2.1, s.2, mc.2.2.2.2.2.2.2) T)), 0, 0)
      obtain rfl := Option.some.inj hf
      exact hB _ rfl _
    · show sxWP sc cl Q 209 (17, [some (.ref 59), some (.float v1), some (.int s.1)], [], (cW nw kp im ol sn sr tp (mW mk mg mt (mc.1, mc.2.1, mc.2.2.1, mc.2.2.2.1, mc.2.2.2.2.1, mc.2.2.2.2.2.1, s.2, mc.2.2.2.2.2.2.2) T)), 0, 0)
      refine stp hm 6 (M_has_ok hE rfl ?_)
      show sxWP sc cl Q 209 (27, [some (.ref 59), some (.float v1), some (.int s.1)], [.int (M_has s.1 mk.1), .int s.1, .ref 79], (cW nw kp im ol sn sr tp (mW mk mg mt (mc.1, mc.2.1, mc.2.2.1, mc.2.2.2.1, mc.2.2.2.2.1, mc.2.2.2.2.2.1, s.2, mc.2.2.2.2.2.2.2) T)), 0, 0)
      refine stp hm 1 (br hf (fun c4 hf => ?_) (fun c4 hf => ?_))
      · show sxWP sc cl Q 209 (39, [some (.ref 59), some (.float v1), some (.int s.1)], [.int s.1, .ref 79], (cW nw kp im ol sn sr tp (mW mk mg mt (mc.1, mc.2.1, mc.2.2.1, mc.2.2.2.1, mc.2.2.2.2.1, mc.2.2.2.2.2.1, s.2, mc.2.2.2.2.2.2.2) T)), 0, 0)
        refine stp hm 1 (?_ : sxWP sc cl Q 209 (41, [some (.ref 59), some (.float v1), some (.int s.1)], [.int (-5:Int32), .int s.1, .ref 79], (cW nw kp im ol sn sr tp (mW mk mg mt (mc.1, mc.2.1, mc.2.2.1, mc.2.2.2.1, mc.2.2.2.2.1, mc.2.2.2.2.2.1, s.2, mc.2.2.2.2.2.2.2) T)), 0, 0))
        exact J41 _ _ _ _ hf
      · show sxWP sc cl Q 209 (30, [some (.ref 59), some (.float v1), some (.int s.1)], [.int s.1, .ref 79], (cW nw kp im ol sn sr tp (mW mk mg mt (mc.1, mc.2.1, mc.2.2.1, mc.2.2.2.1, mc.2.2.2.2.1, mc.2.2.2.2.2.1, s.2, mc.2.2.2.2.2.2.2) T)), 0, 0)
        obtain ⟨g5, hf⟩ := grd_e hf
        refine stp hm 4 (And.intro (gi_in g5) (?_ : sxWP sc cl Q 209 (36, [some (.ref 59), some (.float v1), some (.int s.1)], [.int (mc.2.2.2.2.2.1 s.1.toNatClampNeg), .int s.1, .ref 79], (cW nw kp im ol sn sr tp (mW mk mg mt (mc.1, mc.2.1, mc.2.2.1, mc.2.2.2.1, mc.2.2.2.2.1, mc.2.2.2.2.2.1, s.2, mc.2.2.2.2.2.2.2) T)), 0, 0)))
        refine stp hm 1 (?_ : sxWP sc cl Q 209 (41, [some (.ref 59), some (.float v1), some (.int s.1)], [.int (mc.2.2.2.2.2.1 s.1.toNatClampNeg), .int s.1, .ref 79], (cW nw kp im ol sn sr tp (mW mk mg mt (mc.1, mc.2.1, mc.2.2.1, mc.2.2.2.1, mc.2.2.2.2.1, mc.2.2.2.2.2.1, s.2, mc.2.2.2.2.2.2.2) T)), 0, 0))
        exact J41 _ _ _ _ hf
set_option maxRecDepth 10000 in
theorem M_whole_ok {v1 : UInt32} {q : (Int64 × Int64 × UInt32 × (Nat → Int32))} (hc : call = sxE sc (d + 2)) (hf : M_whole v1 mk.1 mc.1 mc.2.1 mc.2.2.1 mc.2.2.2.1 mc.2.2.2.2.1 mc.2.2.2.2.2.1 mc.2.2.2.2.2.2.1 = some q) (h : Q none (cW nw kp im ol sn sr tp (mW mk mg mt (q.1, q.2.1, mc.2.2.1, mc.2.2.2.1, q.2.2.1, mc.2.2.2.2.2.1, q.2.2.2, mc.2.2.2.2.2.2.2) T))) : call 209 [.ref 59, .float v1] (cW nw kp im ol sn sr tp (mW mk mg mt mc T)) Q := by
  refine ent hc rfl (fun cl hE hm => ?_)
  have J113 : ∀ (k1 : Int64) (k2 : Int64) (cco_j : Int64) (cct_j : Int64) (cwe_j : UInt32) (cff_j : (Nat → Int32)) (z0 : Option Value) (z1 : Option Value) (z2 : Option Value), M_whole_j113 k1 k2 cco_j cwe_j cff_j = some q → sxWP sc cl Q 209 (113, [z0, z1, z2], [.long k2, .long k1, .ref 59], (cW nw kp im ol sn sr tp (mW mk mg mt (cco_j, cct_j, mc.2.2.1, mc.2.2.2.1, cwe_j, mc.2.2.2.2.2.1, cff_j, mc.2.2.2.2.2.2.2) T)), 0, 0) := by
    intro k1 k2 cco_j cct_j cwe_j cff_j z0 z1 z2 hf
    unfold M_whole_j113 at hf
    obtain rfl := Option.some.inj hf
    refine stp hm 3 ?_
    exact h
  have J112 : ∀ (k1 : Int64) (cco_j : Int64) (cct_j : Int64) (cwe_j : UInt32) (cff_j : (Nat → Int32)) (z0 : Option Value) (z1 : Option Value) (z2 : Option Value), M_whole_j112 k1 cco_j cwe_j cff_j = some q → sxWP sc cl Q 209 (112, [z0, z1, z2], [.long k1, .ref 59], (cW nw kp im ol sn sr tp (mW mk mg mt (cco_j, cct_j, mc.2.2.1, mc.2.2.2.1, cwe_j, mc.2.2.2.2.2.1, cff_j, mc.2.2.2.2.2.2.2) T)), 0, 0) := by
    intro k1 cco_j cct_j cwe_j cff_j z0 z1 z2 hf
    unfold M_whole_j112 at hf
    refine stp hm 1 (?_ : sxWP sc cl Q 209 (113, [z0, z1, z2], [.long (0:Int64), .long k1, .ref 59], (cW nw kp im ol sn sr tp (mW mk mg mt (cco_j, cct_j, mc.2.2.1, mc.2.2.2.1, cwe_j, mc.2.2.2.2.2.1, cff_j, mc.2.2.2.2.2.2.2) T)), 0, 0))
    exact J113 _ _ _ _ _ _ _ _ _ hf
  unfold M_whole at hf
  obtain ⟨w1, hw1, hf⟩ := bnd hf
  refine stp hm 2 (?_ : sxWP sc cl Q 209 (2, [some (.ref 59), some (.float v1), some (.int (0:Int32))], [], (cW nw kp im ol sn sr tp (mW mk mg mt mc T)), 0, 0))
  refine M_whole_l2 hE hm _ _ _ hw1 ?_
  intro w1_z2
  show sxWP sc cl Q 209 (48, [some (.ref 59), some (.float v1), w1_z2], [], (cW nw kp im ol sn sr tp (mW mk mg mt (mc.1, mc.2.1, mc.2.2.1, mc.2.2.2.1, mc.2.2.2.2.1, mc.2.2.2.2.2.1, w1, mc.2.2.2.2.2.2.2) T)), 0, 0)
  obtain ⟨g2, hf⟩ := grd_e hf
  refine stp hm 11 (And.intro (nn32_e g2) (?_ : sxWP sc cl Q 209 (65, [some (.ref 59), some (.float v1), w1_z2], [.float (FP.fadd mc.2.2.2.2.1 v1), .ref 59], (cW nw kp im ol sn sr tp (mW mk mg mt (mc.1 + (1:Int64), mc.2.1, mc.2.2.1, mc.2.2.2.1, mc.2.2.2.2.1, mc.2.2.2.2.2.1, w1, mc.2.2.2.2.2.2.2) T)), 0, 0)))
  refine stp hm 8 (br hf (fun c3 hf => ?_) (fun c3 hf => ?_))
  · show sxWP sc cl Q 209 (112, [some (.ref 59), some (.float v1), w1_z2], [.long mc.2.1, .ref 59], (cW nw kp im ol sn sr tp (mW mk mg mt (mc.1 + (1:Int64), mc.2.1, mc.2.2.1, mc.2.2.2.1, FP.fadd mc.2.2.2.2.1 v1, mc.2.2.2.2.2.1, w1, mc.2.2.2.2.2.2.2) T)), 0, 0)
    exact J112 _ _ _ _ _ _ _ _ hf
  · show sxWP sc cl Q 209 (81, [some (.ref 59), some (.float v1), w1_z2], [.long mc.2.1, .ref 59], (cW nw kp im ol sn sr tp (mW mk mg mt (mc.1 + (1:Int64), mc.2.1, mc.2.2.1, mc.2.2.2.1, FP.fadd mc.2.2.2.2.1 v1, mc.2.2.2.2.2.1, w1, mc.2.2.2.2.2.2.2) T)), 0, 0)
    refine stp hm 4 (M_has_ok hE rfl ?_)
    show sxWP sc cl Q 209 (89, [some (.ref 59), some (.float v1), w1_z2], [.int (M_has mc.2.2.1 mk.1), .long mc.2.1, .ref 59], (cW nw kp im ol sn sr tp (mW mk mg mt (mc.1 + (1:Int64), mc.2.1, mc.2.2.1, mc.2.2.2.1, FP.fadd mc.2.2.2.2.1 v1, mc.2.2.2.2.2.1, w1, mc.2.2.2.2.2.2.2) T)), 0, 0)
    refine stp hm 1 (br hf (fun c4 hf => ?_) (fun c4 hf => ?_))
    · show sxWP sc cl Q 209 (112, [some (.ref 59), some (.float v1), w1_z2], [.long mc.2.1, .ref 59], (cW nw kp im ol sn sr tp (mW mk mg mt (mc.1 + (1:Int64), mc.2.1, mc.2.2.1, mc.2.2.2.1, FP.fadd mc.2.2.2.2.1 v1, mc.2.2.2.2.2.1, w1, mc.2.2.2.2.2.2.2) T)), 0, 0)
      exact J112 _ _ _ _ _ _ _ _ hf
    · show sxWP sc cl Q 209 (92, [some (.ref 59), some (.float v1), w1_z2], [.long mc.2.1, .ref 59], (cW nw kp im ol sn sr tp (mW mk mg mt (mc.1 + (1:Int64), mc.2.1, mc.2.2.1, mc.2.2.2.1, FP.fadd mc.2.2.2.2.1 v1, mc.2.2.2.2.2.1, w1, mc.2.2.2.2.2.2.2) T)), 0, 0)
      obtain ⟨g5, hf⟩ := grd_e hf
      refine stp hm 5 (And.intro (gi_in g5) (?_ : sxWP sc cl Q 209 (101, [some (.ref 59), some (.float v1), w1_z2], [.int (mc.2.2.2.2.2.1 mc.2.2.1.toNatClampNeg), .long mc.2.1, .ref 59], (cW nw kp im ol sn sr tp (mW mk mg mt (mc.1 + (1:Int64), mc.2.1, mc.2.2.1, mc.2.2.2.1, FP.fadd mc.2.2.2.2.1 v1, mc.2.2.2.2.2.1, w1, mc.2.2.2.2.2.2.2) T)), 0, 0)))
      have m6 : ∀ (m6_0 : Int64), m6_0 = (if (mc.2.2.2.2.2.1 mc.2.2.1.toNatClampNeg) = mc.2.2.2.1 then (1:Int64) else (0:Int64)) → sxWP sc cl Q 209 (113, [some (.ref 59), some (.float v1), w1_z2], [.long m6_0, .long mc.2.1, .ref 59], (cW nw kp im ol sn sr tp (mW mk mg mt (mc.1 + (1:Int64), mc.2.1, mc.2.2.1, mc.2.2.2.1, FP.fadd mc.2.2.2.2.1 v1, mc.2.2.2.2.2.1, w1, mc.2.2.2.2.2.2.2) T)), 0, 0) := by
        intro m6_0 em6_0
        subst em6_0
        obtain rfl := Option.some.inj hf
        refine stp hm 3 ?_
        exact h
      refine stp hm 3 (bsn (c := (mc.2.2.2.2.2.1 mc.2.2.1.toNatClampNeg) = mc.2.2.2.1) (fun c7 => ?_) (fun c7 => ?_))
      · have c7 : ¬ (mc.2.2.2.2.2.1 mc.2.2.1.toNatClampNeg) = mc.2.2.2.1 := c7
        refine stp hm 1 (?_ : sxWP sc cl Q 209 (113, [some (.ref 59), some (.float v1), w1_z2], [.long (0:Int64), .long mc.2.1, .ref 59], (cW nw kp im ol sn sr tp (mW mk mg mt (mc.1 + (1:Int64), mc.2.1, mc.2.2.1, mc.2.2.2.1, FP.fadd mc.2.2.2.2.1 v1, mc.2.2.2.2.2.1, w1, mc.2.2.2.2.2.2.2) T)), 0, 0))
        exact m6 _ (by rw [if_neg c7])
      · have c7 : (mc.2.2.2.2.2.1 mc.2.2.1.toNatClampNeg) = mc.2.2.2.1 := c7
        refine stp hm 2 (?_ : sxWP sc cl Q 209 (113, [some (.ref 59), some (.float v1), w1_z2], [.long (1:Int64), .long mc.2.1, .ref 59], (cW nw kp im ol sn sr tp (mW mk mg mt (mc.1 + (1:Int64), mc.2.1, mc.2.2.1, mc.2.2.2.1, FP.fadd mc.2.2.2.2.1 v1, mc.2.2.2.2.2.1, w1, mc.2.2.2.2.2.2.2) T)), 0, 0))
        exact m6 _ (by rw [if_pos c7])

def M_forms (v0 : Int32)  : Int32 := if v0 = (2:Int32) then (4:Int32) else (2:Int32)
set_option maxRecDepth 10000 in
theorem M_forms_ok {v0 : Int32} {r : Int32} (hc : call = sxE sc (d + 1)) (hf : M_forms v0 = r) (h : Q (some (.int r)) hp) : call 208 [.int v0] hp Q := by
  refine ent hc rfl (fun cl hE hm => ?_)
  unfold M_forms at hf
  have m1 : ∀ (m1_0 : Int32), m1_0 = (if v0 = (2:Int32) then (4:Int32) else (2:Int32)) → sxWP sc cl Q 208 (10, [some (.int v0)], [.int m1_0], hp, 0, 0) := by
    intro m1_0 em1_0
    subst em1_0
    subst hf
    refine stp hm 1 ?_
    exact h
  refine stp hm 3 (bsn (c := v0 = (2:Int32)) (fun c2 => ?_) (fun c2 => ?_))
  · have c2 : ¬ v0 = (2:Int32) := c2
    refine stp hm 1 (?_ : sxWP sc cl Q 208 (10, [some (.int v0)], [.int (2:Int32)], hp, 0, 0))
    exact m1 _ (by rw [if_neg c2])
  · have c2 : v0 = (2:Int32) := c2
    refine stp hm 2 (?_ : sxWP sc cl Q 208 (10, [some (.int v0)], [.int (4:Int32)], hp, 0, 0))
    exact m1 _ (by rw [if_pos c2])

def M_stone_j136  (v1 : Int32) (v2 : Int32) : Int64 := if v1 = (0:Int32) then ((((1:Int64) <<< (v2.toInt64 &&& 63)) ||| ((1:Int64) <<< ((v2 + (1:Int32)).toInt64 &&& 63))) ||| ((1:Int64) <<< ((v2 + (6:Int32)).toInt64 &&& 63))) else (if v1 = (1:Int32) then ((((1:Int64) <<< (v2.toInt64 &&& 63)) ||| ((1:Int64) <<< ((v2 + (1:Int32)).toInt64 &&& 63))) ||| ((1:Int64) <<< ((v2 + (7:Int32)).toInt64 &&& 63))) else (if v1 = (2:Int32) then ((((1:Int64) <<< (v2.toInt64 &&& 63)) ||| ((1:Int64) <<< ((v2 + (6:Int32)).toInt64 &&& 63))) ||| ((1:Int64) <<< ((v2 + (7:Int32)).toInt64 &&& 63))) else ((((1:Int64) <<< (v2.toInt64 &&& 63)) ||| ((1:Int64) <<< ((v2 + (5:Int32)).toInt64 &&& 63))) ||| ((1:Int64) <<< ((v2 + (6:Int32)).toInt64 &&& 63)))))
def M_stone_j134   : Int64 := (0:Int64)
def M_stone (v0 : Int32) (v1 : Int32) (v2 : Int32)  : Int64 := if (2:Int32) ≤ v0 then (if (v2 / (6:Int32)) = (5:Int32) then M_stone_j134 else (if v1 = (3:Int32) then (if (v2 - v2 / (6:Int32) * (6:Int32)) = (0:Int32) then M_stone_j134 else (M_stone_j136 v1 v2)) else (if (v2 - v2 / (6:Int32) * (6:Int32)) = (5:Int32) then M_stone_j134 else (M_stone_j136 v1 v2)))) else (if (if v1 = (0:Int32) then (if (6:Int32) ≤ (((v2 - v2 / (6:Int32) * (6:Int32)) + v0) + (1:Int32)) then (0:Int32) else (1:Int32)) else (if (6:Int32) ≤ (((v2 / (6:Int32)) + v0) + (1:Int32)) then (0:Int32) else (1:Int32))) = (0:Int32) then (0:Int64) else (if v0 = (0:Int32) then (((1:Int64) <<< (v2.toInt64 &&& 63)) ||| ((1:Int64) <<< ((v2 + (if v1 = (0:Int32) then (1:Int32) else (6:Int32))).toInt64 &&& 63))) else ((((1:Int64) <<< (v2.toInt64 &&& 63)) ||| ((1:Int64) <<< ((v2 + (if v1 = (0:Int32) then (1:Int32) else (6:Int32))).toInt64 &&& 63))) ||| ((1:Int64) <<< ((v2 + ((2:Int32) * (if v1 = (0:Int32) then (1:Int32) else (6:Int32)))).toInt64 &&& 63)))))
set_option maxRecDepth 10000 in
theorem M_stone_ok {v0 : Int32} {v1 : Int32} {v2 : Int32} {r : Int64} (hc : call = sxE sc (d + 1)) (hf : M_stone v0 v1 v2 = r) (h : Q (some (.long r)) hp) : call 207 [.int v0, .int v1, .int v2] hp Q := by
  refine ent hc rfl (fun cl hE hm => ?_)
  have J136 : ∀ (v1 : Int32) (v2 : Int32) (z0 : Option Value) (z3 : Option Value) (z4 : Option Value) (z5 : Option Value) (z6 : Option Value) (z7 : Option Value) (z8 : Option Value), M_stone_j136 v1 v2 = r → sxWP sc cl Q 207 (136, [z0, some (.int v1), some (.int v2), z3, z4, z5, z6, z7, z8], [], hp, 0, 0) := by
    intro v1 v2 z0 z3 z4 z5 z6 z7 z8 hf
    unfold M_stone_j136 at hf
    refine stp hm 2 ?_
    show sxWP sc cl Q 207 ((swT (v1).toInt (0) [164, 181, 198] 216), [z0, some (.int v1), some (.int v2), z3, z4, z5, z6, z7, z8], [], hp, 0, 0)
    rcases ite_or hf with ⟨c1_0, hf⟩ | ⟨c1_0, hf⟩
    · rw [show swT (v1).toInt (0) [164, 181, 198] 216 = 164 by rw [c1_0]; rfl]
      subst hf
      refine stp hm 16 ?_
      exact h
    rcases ite_or hf with ⟨c1_1, hf⟩ | ⟨c1_1, hf⟩
    · rw [show swT (v1).toInt (0) [164, 181, 198] 216 = 181 by rw [c1_1]; rfl]
      subst hf
      refine stp hm 16 ?_
      exact h
    rcases ite_or hf with ⟨c1_2, hf⟩ | ⟨c1_2, hf⟩
    · rw [show swT (v1).toInt (0) [164, 181, 198] 216 = 198 by rw [c1_2]; rfl]
      subst hf
      refine stp hm 16 ?_
      exact h
    have tc1_0 : ¬ (v1).toInt = 0 := fun e => c1_0 (Int32.toInt_inj.mp e)
    have tc1_1 : ¬ (v1).toInt = 1 := fun e => c1_1 (Int32.toInt_inj.mp e)
    have tc1_2 : ¬ (v1).toInt = 2 := fun e => c1_2 (Int32.toInt_inj.mp e)
    rw [show swT (v1).toInt (0) [164, 181, 198] 216 = 216 by simp [swT, tc1_0, tc1_1, tc1_2]]
    subst hf
    refine stp hm 16 ?_
    exact h
  have J134 : ∀  (z0 : Option Value) (z1 : Option Value) (z2 : Option Value) (z3 : Option Value) (z4 : Option Value) (z5 : Option Value) (z6 : Option Value) (z7 : Option Value) (z8 : Option Value), M_stone_j134 = r → sxWP sc cl Q 207 (134, [z0, z1, z2, z3, z4, z5, z6, z7, z8], [], hp, 0, 0) := by
    intro z0 z1 z2 z3 z4 z5 z6 z7 z8 hf
    unfold M_stone_j134 at hf
    subst hf
    refine stp hm 2 ?_
    exact h
  unfold M_stone at hf
  refine stp hm 3 (And.intro (by decide) (?_ : sxWP sc cl Q 207 (4, [some (.int v0), some (.int v1), some (.int v2), none, none, none, none, none, none], [.int (v2 / (6:Int32))], hp, 0, 0)))
  refine stp hm 4 (And.intro (by decide) (?_ : sxWP sc cl Q 207 (9, [some (.int v0), some (.int v1), some (.int v2), some (.int (v2 / (6:Int32))), none, none, none, none, none], [.int (v2 - v2 / (6:Int32) * (6:Int32))], hp, 0, 0)))
  refine stp hm 4 (br hf (fun c2 hf => ?_) (fun c2 hf => ?_))
  · show sxWP sc cl Q 207 (110, [some (.int v0), some (.int v1), some (.int v2), some (.int (v2 / (6:Int32))), some (.int (v2 - v2 / (6:Int32) * (6:Int32))), none, none, none, none], [], hp, 0, 0)
    refine stp hm 3 (br hf (fun c3 hf => ?_) (fun c3 hf => ?_))
    · show sxWP sc cl Q 207 (134, [some (.int v0), some (.int v1), some (.int v2), some (.int (v2 / (6:Int32))), some (.int (v2 - v2 / (6:Int32) * (6:Int32))), none, none, none, none], [], hp, 0, 0)
      exact J134 _ _ _ _ _ _ _ _ _ hf
    · show sxWP sc cl Q 207 (115, [some (.int v0), some (.int v1), some (.int v2), some (.int (v2 / (6:Int32))), some (.int (v2 - v2 / (6:Int32) * (6:Int32))), none, none, none, none], [], hp, 0, 0)
      refine stp hm 3 (brn hf (fun c4 hf => ?_) (fun c4 hf => ?_))
      · show sxWP sc cl Q 207 (128, [some (.int v0), some (.int v1), some (.int v2), some (.int (v2 / (6:Int32))), some (.int (v2 - v2 / (6:Int32) * (6:Int32))), none, none, none, none], [], hp, 0, 0)
        refine stp hm 3 (brn hf (fun c5 hf => ?_) (fun c5 hf => ?_))
        · show sxWP sc cl Q 207 (136, [some (.int v0), some (.int v1), some (.int v2), some (.int (v2 / (6:Int32))), some (.int (v2 - v2 / (6:Int32) * (6:Int32))), none, none, none, none], [], hp, 0, 0)
          exact J136 _ _ _ _ _ _ _ _ _ hf
        · show sxWP sc cl Q 207 (134, [some (.int v0), some (.int v1), some (.int v2), some (.int (v2 / (6:Int32))), some (.int (v2 - v2 / (6:Int32) * (6:Int32))), none, none, none, none], [], hp, 0, 0)
          exact J134 _ _ _ _ _ _ _ _ _ hf
      · show sxWP sc cl Q 207 (120, [some (.int v0), some (.int v1), some (.int v2), some (.int (v2 / (6:Int32))), some (.int (v2 - v2 / (6:Int32) * (6:Int32))), none, none, none, none], [], hp, 0, 0)
        refine stp hm 2 (brn hf (fun c6 hf => ?_) (fun c6 hf => ?_))
        · show sxWP sc cl Q 207 (136, [some (.int v0), some (.int v1), some (.int v2), some (.int (v2 / (6:Int32))), some (.int (v2 - v2 / (6:Int32) * (6:Int32))), none, none, none, none], [], hp, 0, 0)
          exact J136 _ _ _ _ _ _ _ _ _ hf
        · show sxWP sc cl Q 207 (125, [some (.int v0), some (.int v1), some (.int v2), some (.int (v2 / (6:Int32))), some (.int (v2 - v2 / (6:Int32) * (6:Int32))), none, none, none, none], [], hp, 0, 0)
          refine stp hm 1 (?_ : sxWP sc cl Q 207 (134, [some (.int v0), some (.int v1), some (.int v2), some (.int (v2 / (6:Int32))), some (.int (v2 - v2 / (6:Int32) * (6:Int32))), none, none, none, none], [], hp, 0, 0))
          exact J134 _ _ _ _ _ _ _ _ _ hf
  · show sxWP sc cl Q 207 (16, [some (.int v0), some (.int v1), some (.int v2), some (.int (v2 / (6:Int32))), some (.int (v2 - v2 / (6:Int32) * (6:Int32))), none, none, none, none], [], hp, 0, 0)
    have m7 : ∀ (m7_0 : Int32), m7_0 = (if v1 = (0:Int32) then (1:Int32) else (6:Int32)) → sxWP sc cl Q 207 (26, [some (.int v0), some (.int v1), some (.int v2), some (.int (v2 / (6:Int32))), some (.int (v2 - v2 / (6:Int32) * (6:Int32))), none, none, none, none], [.int m7_0], hp, 0, 0) := by
      intro m7_0 em7_0
      subst em7_0
      have m8 : ∀ (m8_0 : Int32), m8_0 = (if v1 = (0:Int32) then (if (6:Int32) ≤ (((v2 - v2 / (6:Int32) * (6:Int32)) + v0) + (1:Int32)) then (0:Int32) else (1:Int32)) else (if (6:Int32) ≤ (((v2 / (6:Int32)) + v0) + (1:Int32)) then (0:Int32) else (1:Int32))) → sxWP sc cl Q 207 (66, [some (.int v0), some (.int v1), some (.int v2), some (.int (v2 / (6:Int32))), some (.int (v2 - v2 / (6:Int32) * (6:Int32))), some (.int (if v1 = (0:Int32) then (1:Int32) else (6:Int32))), none, none, none], [.int m8_0], hp, 0, 0) := by
        intro m8_0 em8_0
        subst em8_0
        have m9 : ∀ (m9_0 : Int64), m9_0 = (if (if v1 = (0:Int32) then (if (6:Int32) ≤ (((v2 - v2 / (6:Int32) * (6:Int32)) + v0) + (1:Int32)) then (0:Int32) else (1:Int32)) else (if (6:Int32) ≤ (((v2 / (6:Int32)) + v0) + (1:Int32)) then (0:Int32) else (1:Int32))) = (0:Int32) then (0:Int64) else (if v0 = (0:Int32) then (((1:Int64) <<< (v2.toInt64 &&& 63)) ||| ((1:Int64) <<< ((v2 + (if v1 = (0:Int32) then (1:Int32) else (6:Int32))).toInt64 &&& 63))) else ((((1:Int64) <<< (v2.toInt64 &&& 63)) ||| ((1:Int64) <<< ((v2 + (if v1 = (0:Int32) then (1:Int32) else (6:Int32))).toInt64 &&& 63))) ||| ((1:Int64) <<< ((v2 + ((2:Int32) * (if v1 = (0:Int32) then (1:Int32) else (6:Int32)))).toInt64 &&& 63))))) → sxWP sc cl Q 207 (109, [some (.int v0), some (.int v1), some (.int v2), some (.int (v2 / (6:Int32))), some (.int (v2 - v2 / (6:Int32) * (6:Int32))), some (.int (if v1 = (0:Int32) then (1:Int32) else (6:Int32))), some (.int (if v1 = (0:Int32) then (if (6:Int32) ≤ (((v2 - v2 / (6:Int32) * (6:Int32)) + v0) + (1:Int32)) then (0:Int32) else (1:Int32)) else (if (6:Int32) ≤ (((v2 / (6:Int32)) + v0) + (1:Int32)) then (0:Int32) else (1:Int32)))), some (.long (((1:Int64) <<< (v2.toInt64 &&& 63)) ||| ((1:Int64) <<< ((v2 + (if v1 = (0:Int32) then (1:Int32) else (6:Int32))).toInt64 &&& 63)))), none], [.long m9_0], hp, 0, 0) := by
          intro m9_0 em9_0
          subst em9_0
          subst hf
          refine stp hm 1 ?_
          exact h
        refine stp hm 13 (bsn (c := (if v1 = (0:Int32) then (if (6:Int32) ≤ (((v2 - v2 / (6:Int32) * (6:Int32)) + v0) + (1:Int32)) then (0:Int32) else (1:Int32)) else (if (6:Int32) ≤ (((v2 / (6:Int32)) + v0) + (1:Int32)) then (0:Int32) else (1:Int32))) = (0:Int32)) (fun c10 => ?_) (fun c10 => ?_))
        · have c10 : ¬ (if v1 = (0:Int32) then (if (6:Int32) ≤ (((v2 - v2 / (6:Int32) * (6:Int32)) + v0) + (1:Int32)) then (0:Int32) else (1:Int32)) else (if (6:Int32) ≤ (((v2 / (6:Int32)) + v0) + (1:Int32)) then (0:Int32) else (1:Int32))) = (0:Int32) := c10
          refine stp hm 2 (bsn (c := v0 = (0:Int32)) (fun c11 => ?_) (fun c11 => ?_))
          · have c11 : ¬ v0 = (0:Int32) := c11
            refine stp hm 9 (?_ : sxWP sc cl Q 207 (109, [some (.int v0), some (.int v1), some (.int v2), some (.int (v2 / (6:Int32))), some (.int (v2 - v2 / (6:Int32) * (6:Int32))), some (.int (if v1 = (0:Int32) then (1:Int32) else (6:Int32))), some (.int (if v1 = (0:Int32) then (if (6:Int32) ≤ (((v2 - v2 / (6:Int32) * (6:Int32)) + v0) + (1:Int32)) then (0:Int32) else (1:Int32)) else (if (6:Int32) ≤ (((v2 / (6:Int32)) + v0) + (1:Int32)) then (0:Int32) else (1:Int32)))), some (.long (((1:Int64) <<< (v2.toInt64 &&& 63)) ||| ((1:Int64) <<< ((v2 + (if v1 = (0:Int32) then (1:Int32) else (6:Int32))).toInt64 &&& 63)))), none], [.long ((((1:Int64) <<< (v2.toInt64 &&& 63)) ||| ((1:Int64) <<< ((v2 + (if v1 = (0:Int32) then (1:Int32) else (6:Int32))).toInt64 &&& 63))) ||| ((1:Int64) <<< ((v2 + ((2:Int32) * (if v1 = (0:Int32) then (1:Int32) else (6:Int32)))).toInt64 &&& 63)))], hp, 0, 0))
            exact m9 _ (by rw [if_neg c10, if_neg c11])
          · have c11 : v0 = (0:Int32) := c11
            refine stp hm 2 (?_ : sxWP sc cl Q 207 (109, [some (.int v0), some (.int v1), some (.int v2), some (.int (v2 / (6:Int32))), some (.int (v2 - v2 / (6:Int32) * (6:Int32))), some (.int (if v1 = (0:Int32) then (1:Int32) else (6:Int32))), some (.int (if v1 = (0:Int32) then (if (6:Int32) ≤ (((v2 - v2 / (6:Int32) * (6:Int32)) + v0) + (1:Int32)) then (0:Int32) else (1:Int32)) else (if (6:Int32) ≤ (((v2 / (6:Int32)) + v0) + (1:Int32)) then (0:Int32) else (1:Int32)))), some (.long (((1:Int64) <<< (v2.toInt64 &&& 63)) ||| ((1:Int64) <<< ((v2 + (if v1 = (0:Int32) then (1:Int32) else (6:Int32))).toInt64 &&& 63)))), none], [.long (((1:Int64) <<< (v2.toInt64 &&& 63)) ||| ((1:Int64) <<< ((v2 + (if v1 = (0:Int32) then (1:Int32) else (6:Int32))).toInt64 &&& 63)))], hp, 0, 0))
            exact m9 _ (by rw [if_neg c10, if_pos c11])
        · have c10 : (if v1 = (0:Int32) then (if (6:Int32) ≤ (((v2 - v2 / (6:Int32) * (6:Int32)) + v0) + (1:Int32)) then (0:Int32) else (1:Int32)) else (if (6:Int32) ≤ (((v2 / (6:Int32)) + v0) + (1:Int32)) then (0:Int32) else (1:Int32))) = (0:Int32) := c10
          refine stp hm 2 (?_ : sxWP sc cl Q 207 (109, [some (.int v0), some (.int v1), some (.int v2), some (.int (v2 / (6:Int32))), some (.int (v2 - v2 / (6:Int32) * (6:Int32))), some (.int (if v1 = (0:Int32) then (1:Int32) else (6:Int32))), some (.int (if v1 = (0:Int32) then (if (6:Int32) ≤ (((v2 - v2 / (6:Int32) * (6:Int32)) + v0) + (1:Int32)) then (0:Int32) else (1:Int32)) else (if (6:Int32) ≤ (((v2 / (6:Int32)) + v0) + (1:Int32)) then (0:Int32) else (1:Int32)))), some (.long (((1:Int64) <<< (v2.toInt64 &&& 63)) ||| ((1:Int64) <<< ((v2 + (if v1 = (0:Int32) then (1:Int32) else (6:Int32))).toInt64 &&& 63)))), none], [.long (0:Int64)], hp, 0, 0))
          exact m9 _ (by rw [if_pos c10])
      refine stp hm 3 (bsn (c := v1 = (0:Int32)) (fun c12 => ?_) (fun c12 => ?_))
      · have c12 : ¬ v1 = (0:Int32) := c12
        refine stp hm 7 (bs (c := (6:Int32) ≤ (((v2 / (6:Int32)) + v0) + (1:Int32))) (fun c13 => ?_) (fun c13 => ?_))
        · have c13 : (6:Int32) ≤ (((v2 / (6:Int32)) + v0) + (1:Int32)) := c13
          refine stp hm 1 (?_ : sxWP sc cl Q 207 (66, [some (.int v0), some (.int v1), some (.int v2), some (.int (v2 / (6:Int32))), some (.int (v2 - v2 / (6:Int32) * (6:Int32))), some (.int (if v1 = (0:Int32) then (1:Int32) else (6:Int32))), none, none, none], [.int (0:Int32)], hp, 0, 0))
          exact m8 _ (by rw [if_neg c12, if_pos c13])
        · have c13 : ¬ (6:Int32) ≤ (((v2 / (6:Int32)) + v0) + (1:Int32)) := c13
          refine stp hm 2 (?_ : sxWP sc cl Q 207 (66, [some (.int v0), some (.int v1), some (.int v2), some (.int (v2 / (6:Int32))), some (.int (v2 - v2 / (6:Int32) * (6:Int32))), some (.int (if v1 = (0:Int32) then (1:Int32) else (6:Int32))), none, none, none], [.int (1:Int32)], hp, 0, 0))
          exact m8 _ (by rw [if_neg c12, if_neg c13])
      · have c12 : v1 = (0:Int32) := c12
        refine stp hm 7 (bs (c := (6:Int32) ≤ (((v2 - v2 / (6:Int32) * (6:Int32)) + v0) + (1:Int32))) (fun c14 => ?_) (fun c14 => ?_))
        · have c14 : (6:Int32) ≤ (((v2 - v2 / (6:Int32) * (6:Int32)) + v0) + (1:Int32)) := c14
          refine stp hm 2 (?_ : sxWP sc cl Q 207 (66, [some (.int v0), some (.int v1), some (.int v2), some (.int (v2 / (6:Int32))), some (.int (v2 - v2 / (6:Int32) * (6:Int32))), some (.int (if v1 = (0:Int32) then (1:Int32) else (6:Int32))), none, none, none], [.int (0:Int32)], hp, 0, 0))
          exact m8 _ (by rw [if_pos c12, if_pos c14])
        · have c14 : ¬ (6:Int32) ≤ (((v2 - v2 / (6:Int32) * (6:Int32)) + v0) + (1:Int32)) := c14
          refine stp hm 2 (?_ : sxWP sc cl Q 207 (66, [some (.int v0), some (.int v1), some (.int v2), some (.int (v2 / (6:Int32))), some (.int (v2 - v2 / (6:Int32) * (6:Int32))), some (.int (if v1 = (0:Int32) then (1:Int32) else (6:Int32))), none, none, none], [.int (1:Int32)], hp, 0, 0))
          exact m8 _ (by rw [if_pos c12, if_neg c14])
    refine stp hm 2 (bsn (c := v1 = (0:Int32)) (fun c15 => ?_) (fun c15 => ?_))
    · have c15 : ¬ v1 = (0:Int32) := c15
      refine stp hm 1 (?_ : sxWP sc cl Q 207 (26, [some (.int v0), some (.int v1), some (.int v2), some (.int (v2 / (6:Int32))), some (.int (v2 - v2 / (6:Int32) * (6:Int32))), none, none, none, none], [.int (6:Int32)], hp, 0, 0))
      exact m7 _ (by rw [if_neg c15])
    · have c15 : v1 = (0:Int32) := c15
      refine stp hm 2 (?_ : sxWP sc cl Q 207 (26, [some (.int v0), some (.int v1), some (.int v2), some (.int (v2 / (6:Int32))), some (.int (v2 - v2 / (6:Int32) * (6:Int32))), none, none, none, none], [.int (1:Int32)], hp, 0, 0))
      exact m7 _ (by rw [if_pos c15])

def N_formOver_s2  (v1 : Int32) (sdp : Int32) (sop : (Nat → Int64)) (s : Int32) : Option (Int32 ⊕ (Int32 ⊕ Unit)) := if sdp ≤ s then (some (Sum.inr (Sum.inr ()))) else (if (18:Int32) ≤ s then (some (Sum.inr (Sum.inr ()))) else (grd (gi s 19) (grd (gi (s + (1:Int32)) 19) (if (G_holds ((sop s.toNatClampNeg) &&& ((sop (s + (1:Int32)).toNatClampNeg) ^^^ (-1:Int64))) v1) = (0:Int32) then (some (Sum.inl (s + (1:Int32)))) else (some (Sum.inr (Sum.inl s)))))))
def N_formOver (v1 : Int32) (sdp : Int32) (sop : (Nat → Int64)) (str : (Nat → Int32)) : Option Int32 := Option.bind (wh (N_formOver_s2 v1 sdp sop) FU (0:Int32)) (Sum.elim (fun w1_0a => grd (gi w1_0a 19) (some (str w1_0a.toNatClampNeg))) (fun w1_0b => some (-5:Int32)))
set_option maxRecDepth 10000 in
theorem N_formOver_l2 {v1 : Int32}   (hE : cl = sxE sc (d + 2)) (hm : CallMono cl) : ∀ (n : Nat) (s : Int32) (r : (Int32 ⊕ Unit)), wh (N_formOver_s2 v1 sn.2.1 sn.2.2.2.1) n s = some r → ((∀ p0, r = Sum.inl p0 → ∀ (z1 : Option Value), sxWP sc cl Q 78 (42, [some (.ref 39), z1, some (.int p0)], [], (cW nw kp im ol sn sr tp (mW mk mg mt mc T)), 0, 0)) ∧ (∀ p0, r = Sum.inr p0 → ∀ (z0 z1 z2 : Option Value), sxWP sc cl Q 78 (55, [z0, z1, z2], [], (cW nw kp im ol sn sr tp (mW mk mg mt mc T)), 0, 0))) → sxWP sc cl Q 78 (2, [some (.ref 39), some (.int v1), some (.int s)], [], (cW nw kp im ol sn sr tp (mW mk mg mt mc T)), 0, 0) := by
  refine wh_run (A := fun (s : Int32) => sxWP sc cl Q 78 (2, [some (.ref 39), some (.int v1), some (.int s)], [], (cW nw kp im ol sn sr tp (mW mk mg mt mc T)), 0, 0)) (B := fun (r : (Int32 ⊕ Unit)) => (∀ p0, r = Sum.inl p0 → ∀ (z1 : Option Value), sxWP sc cl Q 78 (42, [some (.ref 39), z1, some (.int p0)], [], (cW nw kp im ol sn sr tp (mW mk mg mt mc T)), 0, 0)) ∧ (∀ p0, r = Sum.inr p0 → ∀ (z0 z1 z2 : Option Value), sxWP sc cl Q 78 (55, [z0, z1, z2], [], (cW nw kp im ol sn sr tp (mW mk mg mt mc T)), 0, 0))) (fun s x hf hA hB => ?_)
  unfold N_formOver_s2 at hf
  refine stp hm 4 (br hf (fun c1 hf => ?_) (fun c1 hf => ?_))
  · show sxWP sc cl Q 78 (55, [some (.ref 39), some (.int v1), some (.int s)], [], (cW nw kp im ol sn sr tp (mW mk mg mt mc T)), 0, 0)
    obtain rfl := Option.some.inj hf
    exact (hB _ rfl).2 _ rfl _ _ _
  · show sxWP sc cl Q 78 (10, [some (.ref 39), some (.int v1), some (.int s)], [], (cW nw kp im ol sn sr tp (mW mk mg mt mc T)), 0, 0)
    refine stp hm 3 (br hf (fun c2 hf => ?_) (fun c2 hf => ?_))
    · show sxWP sc cl Q 78 (55, [some (.ref 39), some (.int v1), some (.int s)], [], (cW nw kp im ol sn sr tp (mW mk mg mt mc T)), 0, 0)
      obtain rfl := Option.some.inj hf
      exact (hB _ rfl).2 _ rfl _ _ _
    · show sxWP sc cl Q 78 (16, [some (.ref 39), some (.int v1), some (.int s)], [], (cW nw kp im ol sn sr tp (mW mk mg mt mc T)), 0, 0)
      obtain ⟨g3, hf⟩ := grd_e hf
      refine stp hm 4 (And.intro (gi_in g3) (?_ : sxWP sc cl Q 78 (22, [some (.ref 39), some (.int v1), some (.int s)], [.long (sn.2.2.2.1 s.toNatClampNeg)], (cW nw kp im ol sn sr tp (mW mk mg mt mc T)), 0, 0)))
      obtain ⟨g4, hf⟩ := grd_e hf
      refine stp hm 6 (And.intro (gi_in g4) (?_ : sxWP sc cl Q 78 (30, [some (.ref 39), some (.int v1), some (.int s)], [.long (sn.2.2.2.1 (s + (1:Int32)).toNatClampNeg), .long (sn.2.2.2.1 s.toNatClampNeg)], (cW nw kp im ol sn sr tp (mW mk mg mt mc T)), 0, 0)))
      refine stp hm 5 (G_holds_ok hE rfl ?_)
      show sxWP sc cl Q 78 (39, [some (.ref 39), some (.int v1), some (.int s)], [.int (G_holds ((sn.2.2.2.1 s.toNatClampNeg) &&& ((sn.2.2.2.1 (s + (1:Int32)).toNatClampNeg) ^^^ (-1:Int64))) v1)], (cW nw kp im ol sn sr tp (mW mk mg mt mc T)), 0, 0)
      refine stp hm 1 (br hf (fun c5 hf => ?_) (fun c5 hf => ?_))
      · show sxWP sc cl Q 78 (49, [some (.ref 39), some (.int v1), some (.int s)], [], (cW nw kp im ol sn sr tp (mW mk mg mt mc T)), 0, 0)
        obtain rfl := Option.some.inj hf
        refine stp hm 2 (?_ : sxWP sc cl Q 78 (2, [some (.ref 39), some (.int v1), some (.int (s + (1:Int32)))], [], (cW nw kp im ol sn sr tp (mW mk mg mt mc T)), 0, 0))
        exact hA _ rfl
      · show sxWP sc cl Q 78 (42, [some (.ref 39), some (.int v1), some (.int s)], [], (cW nw kp im ol sn sr tp (mW mk mg mt mc T)), 0, 0)
        obtain rfl := Option.some.inj hf
        exact (hB _ rfl).1 _ rfl _
set_option maxRecDepth 10000 in
theorem N_formOver_ok {v1 : Int32} {q : Int32} (hc : call = sxE sc (d + 3)) (hf : N_formOver v1 sn.2.1 sn.2.2.2.1 sn.2.2.2.2.1 = some q) (h : Q (some (.int q)) (cW nw kp im ol sn sr tp (mW mk mg mt mc T))) : call 78 [.ref 39, .int v1] (cW nw kp im ol sn sr tp (mW mk mg mt mc T)) Q := by
  refine ent hc rfl (fun cl hE hm => ?_)
  unfold N_formOver at hf
  obtain ⟨w1, hw1, hf⟩ := bnd hf
  refine stp hm 2 (?_ : sxWP sc cl Q 78 (2, [some (.ref 39), some (.int v1), some (.int (0:Int32))], [], (cW nw kp im ol sn sr tp (mW mk mg mt mc T)), 0, 0))
  refine N_formOver_l2 hE hm _ _ _ hw1 ?_
  refine ⟨fun w1_0a e0 => ?_, fun w1_0b e0 => ?_⟩
  · subst e0
    replace hf : (grd (gi w1_0a 19) (some (sn.2.2.2.2.1 w1_0a.toNatClampNeg))) = some q := hf
    intro w1_z1
    show sxWP sc cl Q 78 (42, [some (.ref 39), w1_z1, some (.int w1_0a)], [], (cW nw kp im ol sn sr tp (mW mk mg mt mc T)), 0, 0)
    obtain ⟨g2, hf⟩ := grd_e hf
    refine stp hm 4 (And.intro (gi_in g2) (?_ : sxWP sc cl Q 78 (48, [some (.ref 39), w1_z1, some (.int w1_0a)], [.int (sn.2.2.2.2.1 w1_0a.toNatClampNeg)], (cW nw kp im ol sn sr tp (mW mk mg mt mc T)), 0, 0)))
    obtain rfl := Option.some.inj hf
    refine stp hm 1 ?_
    exact h
  · subst e0
    replace hf : (some (-5:Int32)) = some q := hf
    intro w1_z0 w1_z1 w1_z2
    show sxWP sc cl Q 78 (55, [w1_z0, w1_z1, w1_z2], [], (cW nw kp im ol sn sr tp (mW mk mg mt mc T)), 0, 0)
    obtain rfl := Option.some.inj hf
    refine stp hm 2 ?_
    exact h

def X_firsts_j54  (k0 : Int32) (skd_j : Int32) (sdp_j : Int32) (sfd_j : Int32) (sop_j : (Nat → Int64)) (str_j : (Nat → Int32)) (spr_j : (Nat → UInt32)) : Option (Int32 × Int32 × Int32 × Int32 × (Nat → Int64) × (Nat → Int32) × (Nat → UInt32)) := some (k0, skd_j, sdp_j, sfd_j, sop_j, str_j, spr_j)
def X_firsts_j14  (skd_j : Int32) (sdp_j : Int32) (sfd_j : Int32) (sop_j : (Nat → Int64)) (str_j : (Nat → Int32)) (spr_j : (Nat → UInt32)) : Option (Int32 × Int32 × Int32 × Int32 × (Nat → Int64) × (Nat → Int32) × (Nat → UInt32)) := some ((-1:Int32), skd_j, sdp_j, sfd_j, sop_j, str_j, spr_j)
def X_firsts (v1 : Int32) (v2 : Int32) (nrg : Int64) (skd : Int32) (sdp : Int32) (sfd : Int32) (sop : (Nat → Int64)) (str : (Nat → Int32)) (spr : (Nat → UInt32)) : Option (Int32 × Int32 × Int32 × Int32 × (Nat → Int64) × (Nat → Int32) × (Nat → UInt32)) := if (N_isKind v1) = (0:Int32) then (X_firsts_j14 skd sdp sfd sop str spr) else (if (G_isCell v2) = (0:Int32) then (X_firsts_j14 skd sdp sfd sop str spr) else (Option.bind (N_start v1 nrg sop str spr) (fun q3 => Option.bind (N_advance q3.1 q3.2.1 q3.2.2.1 q3.2.2.2.1 q3.2.2.2.2.1 q3.2.2.2.2.2) (fun q4 => if q4.1 = (0:Int32) then (X_firsts_j54 (-5:Int32) q3.1 q4.2.1 q4.2.2.1 q4.2.2.2.1 q4.2.2.2.2.1 q4.2.2.2.2.2) else (Option.bind (N_formOver v2 q4.2.1 q4.2.2.2.1 q4.2.2.2.2.1) (fun q6 => X_firsts_j54 q6 q3.1 q4.2.1 q4.2.2.1 q4.2.2.2.1 q4.2.2.2.2.1 q4.2.2.2.2.2))))))
set_option maxRecDepth 10000 in
theorem X_firsts_ok {v1 : Int32} {v2 : Int32} {q : (Int32 × Int32 × Int32 × Int32 × (Nat → Int64) × (Nat → Int32) × (Nat → UInt32))} (hc : call = sxE sc (d + 5)) (hf : X_firsts v1 v2 nw.1 sn.1 sn.2.1 sn.2.2.1 sn.2.2.2.1 sn.2.2.2.2.1 sn.2.2.2.2.2 = some q) (h : Q (some (.int q.1)) (cW nw kp im ol (q.2.1, q.2.2.1, q.2.2.2.1, q.2.2.2.2.1, q.2.2.2.2.2.1, q.2.2.2.2.2.2) sr tp (mW mk mg mt mc T))) : call 113 [.ref 0, .int v1, .int v2] (cW nw kp im ol sn sr tp (mW mk mg mt mc T)) Q := by
  refine ent hc rfl (fun cl hE hm => ?_)
  have J54 : ∀ (k0 : Int32) (skd_j : Int32) (sdp_j : Int32) (sfd_j : Int32) (sop_j : (Nat → Int64)) (str_j : (Nat → Int32)) (spr_j : (Nat → UInt32)) (z0 : Option Value) (z1 : Option Value) (z2 : Option Value), X_firsts_j54 k0 skd_j sdp_j sfd_j sop_j str_j spr_j = some q → sxWP sc cl Q 113 (54, [z0, z1, z2], [.int k0], (cW nw kp im ol (skd_j, sdp_j, sfd_j, sop_j, str_j, spr_j) sr tp (mW mk mg mt mc T)), 0, 0) := by
    intro k0 skd_j sdp_j sfd_j sop_j str_j spr_j z0 z1 z2 hf
    unfold X_firsts_j54 at hf
    obtain rfl := Option.some.inj hf
    refine stp hm 1 ?_
    exact h
  have J14 : ∀ (skd_j : Int32) (sdp_j : Int32) (sfd_j : Int32) (sop_j : (Nat → Int64)) (str_j : (Nat → Int32)) (spr_j : (Nat → UInt32)) (z0 : Option Value) (z1 : Option Value) (z2 : Option Value), X_firsts_j14 skd_j sdp_j sfd_j sop_j str_j spr_j = some q → sxWP sc cl Q 113 (14, [z0, z1, z2], [], (cW nw kp im ol (skd_j, sdp_j, sfd_j, sop_j, str_j, spr_j) sr tp (mW mk mg mt mc T)), 0, 0) := by
    intro skd_j sdp_j sfd_j sop_j str_j spr_j z0 z1 z2 hf
    unfold X_firsts_j14 at hf
    obtain rfl := Option.some.inj hf
    refine stp hm 2 ?_
    exact h
  unfold X_firsts at hf
  refine stp hm 2 (N_isKind_ok hE rfl ?_)
  show sxWP sc cl Q 113 (4, [some (.ref 0), some (.int v1), some (.int v2)], [.int (N_isKind v1)], (cW nw kp im ol sn sr tp (mW mk mg mt mc T)), 0, 0)
  refine stp hm 1 (br hf (fun c1 hf => ?_) (fun c1 hf => ?_))
  · show sxWP sc cl Q 113 (14, [some (.ref 0), some (.int v1), some (.int v2)], [], (cW nw kp im ol sn sr tp (mW mk mg mt mc T)), 0, 0)
    exact J14 _ _ _ _ _ _ _ _ _ hf
  · show sxWP sc cl Q 113 (7, [some (.ref 0), some (.int v1), some (.int v2)], [], (cW nw kp im ol sn sr tp (mW mk mg mt mc T)), 0, 0)
    refine stp hm 2 (G_isCell_ok hE rfl ?_)
    show sxWP sc cl Q 113 (11, [some (.ref 0), some (.int v1), some (.int v2)], [.int (G_isCell v2)], (cW nw kp im ol sn sr tp (mW mk mg mt mc T)), 0, 0)
    refine stp hm 1 (brn hf (fun c2 hf => ?_) (fun c2 hf => ?_))
    · show sxWP sc cl Q 113 (16, [some (.ref 0), some (.int v1), some (.int v2)], [], (cW nw kp im ol sn sr tp (mW mk mg mt mc T)), 0, 0)
      obtain ⟨q3, hq3, hf⟩ := bnd hf
      refine stp hm 7 (N_start_ok hE hq3 ?_)
      show sxWP sc cl Q 113 (31, [some (.ref 0), some (.int v1), some (.int v2)], [], (cW nw kp im ol (q3.1, q3.2.1, q3.2.2.1, q3.2.2.2.1, q3.2.2.2.2.1, q3.2.2.2.2.2) sr tp (mW mk mg mt mc T)), 0, 0)
      obtain ⟨q4, hq4, hf⟩ := bnd hf
      refine stp hm 3 (N_advance_ok hE hq4 ?_)
      show sxWP sc cl Q 113 (38, [some (.ref 0), some (.int v1), some (.int v2)], [.int q4.1], (cW nw kp im ol (q3.1, q4.2.1, q4.2.2.1, q4.2.2.2.1, q4.2.2.2.2.1, q4.2.2.2.2.2) sr tp (mW mk mg mt mc T)), 0, 0)
      refine stp hm 1 (br hf (fun c5 hf => ?_) (fun c5 hf => ?_))
      · show sxWP sc cl Q 113 (52, [some (.ref 0), some (.int v1), some (.int v2)], [], (cW nw kp im ol (q3.1, q4.2.1, q4.2.2.1, q4.2.2.2.1, q4.2.2.2.2.1, q4.2.2.2.2.2) sr tp (mW mk mg mt mc T)), 0, 0)
        refine stp hm 1 (?_ : sxWP sc cl Q 113 (54, [some (.ref 0), some (.int v1), some (.int v2)], [.int (-5:Int32)], (cW nw kp im ol (q3.1, q4.2.1, q4.2.2.1, q4.2.2.2.1, q4.2.2.2.2.1, q4.2.2.2.2.2) sr tp (mW mk mg mt mc T)), 0, 0))
        exact J54 _ _ _ _ _ _ _ _ _ _ hf
      · show sxWP sc cl Q 113 (41, [some (.ref 0), some (.int v1), some (.int v2)], [], (cW nw kp im ol (q3.1, q4.2.1, q4.2.2.1, q4.2.2.2.1, q4.2.2.2.2.1, q4.2.2.2.2.2) sr tp (mW mk mg mt mc T)), 0, 0)
        obtain ⟨q6, hq6, hf⟩ := bnd hf
        refine stp hm 4 (N_formOver_ok hE hq6 ?_)
        show sxWP sc cl Q 113 (49, [some (.ref 0), some (.int v1), some (.int v2)], [.int q6], (cW nw kp im ol (q3.1, q4.2.1, q4.2.2.1, q4.2.2.2.1, q4.2.2.2.2.1, q4.2.2.2.2.2) sr tp (mW mk mg mt mc T)), 0, 0)
        refine stp hm 1 (?_ : sxWP sc cl Q 113 (54, [some (.ref 0), some (.int v1), some (.int v2)], [.int q6], (cW nw kp im ol (q3.1, q4.2.1, q4.2.2.1, q4.2.2.2.1, q4.2.2.2.2.1, q4.2.2.2.2.2) sr tp (mW mk mg mt mc T)), 0, 0))
        exact J54 _ _ _ _ _ _ _ _ _ _ hf
    · show sxWP sc cl Q 113 (14, [some (.ref 0), some (.int v1), some (.int v2)], [], (cW nw kp im ol sn sr tp (mW mk mg mt mc T)), 0, 0)
      exact J14 _ _ _ _ _ _ _ _ _ hf

def N_product_j29  (k0 : UInt32) : Option UInt32 := some k0
def N_product_j28   : Option UInt32 := N_product_j29 FP.fconst0
def N_product  (sdp : Int32) (spr : (Nat → UInt32)) : Option UInt32 := if sdp < (0:Int32) then N_product_j28 else (if (18:Int32) < sdp then N_product_j28 else (grd (gi sdp 19) (N_product_j29 (spr sdp.toNatClampNeg))))
set_option maxRecDepth 10000 in
theorem N_product_ok  {q : UInt32} (hc : call = sxE sc (d + 1)) (hf : N_product sn.2.1 sn.2.2.2.2.2 = some q) (h : Q (some (.float q)) (cW nw kp im ol sn sr tp (mW mk mg mt mc T))) : call 79 [.ref 39] (cW nw kp im ol sn sr tp (mW mk mg mt mc T)) Q := by
  refine ent hc rfl (fun cl hE hm => ?_)
  have J29 : ∀ (k0 : UInt32) (z0 : Option Value), N_product_j29 k0 = some q → sxWP sc cl Q 79 (29, [z0], [.float k0], (cW nw kp im ol sn sr tp (mW mk mg mt mc T)), 0, 0) := by
    intro k0 z0 hf
    unfold N_product_j29 at hf
    obtain rfl := Option.some.inj hf
    refine stp hm 1 ?_
    exact h
  have J28 : ∀  (z0 : Option Value), N_product_j28 = some q → sxWP sc cl Q 79 (28, [z0], [], (cW nw kp im ol sn sr tp (mW mk mg mt mc T)), 0, 0) := by
    intro z0 hf
    unfold N_product_j28 at hf
    refine stp hm 1 (?_ : sxWP sc cl Q 79 (29, [z0], [.float FP.fconst0], (cW nw kp im ol sn sr tp (mW mk mg mt mc T)), 0, 0))
    exact J29 _ _ hf
  unfold N_product at hf
  refine stp hm 3 (br hf (fun c1 hf => ?_) (fun c1 hf => ?_))
  · show sxWP sc cl Q 79 (28, [some (.ref 39)], [], (cW nw kp im ol sn sr tp (mW mk mg mt mc T)), 0, 0)
    exact J28 _ hf
  · show sxWP sc cl Q 79 (7, [some (.ref 39)], [], (cW nw kp im ol sn sr tp (mW mk mg mt mc T)), 0, 0)
    refine stp hm 4 (br hf (fun c2 hf => ?_) (fun c2 hf => ?_))
    · show sxWP sc cl Q 79 (28, [some (.ref 39)], [], (cW nw kp im ol sn sr tp (mW mk mg mt mc T)), 0, 0)
      exact J28 _ hf
    · show sxWP sc cl Q 79 (16, [some (.ref 39)], [], (cW nw kp im ol sn sr tp (mW mk mg mt mc T)), 0, 0)
      obtain ⟨g3, hf⟩ := grd_e hf
      refine stp hm 5 (And.intro (gi_in g3) (?_ : sxWP sc cl Q 79 (25, [some (.ref 39)], [.float (sn.2.2.2.2.2 sn.2.1.toNatClampNeg)], (cW nw kp im ol sn sr tp (mW mk mg mt mc T)), 0, 0)))
      refine stp hm 1 (?_ : sxWP sc cl Q 79 (29, [some (.ref 39)], [.float (sn.2.2.2.2.2 sn.2.1.toNatClampNeg)], (cW nw kp im ol sn sr tp (mW mk mg mt mc T)), 0, 0))
      exact J29 _ _ hf

def X_weight_s28   (skd : Int32) (s : (UInt32 × Int32 × Int32 × Int32 × (Nat → Int64) × (Nat → Int32) × (Nat → UInt32))) : Option ((UInt32 × Int32 × Int32 × Int32 × (Nat → Int64) × (Nat → Int32) × (Nat → UInt32)) ⊕ (UInt32 × Int32 × Int32 × (Nat → Int64) × (Nat → Int32) × (Nat → UInt32))) := if (1000000:Int32) ≤ s.2.1 then (some (Sum.inr (s.1, s.2.2.1, s.2.2.2.1, s.2.2.2.2.1, s.2.2.2.2.2.1, s.2.2.2.2.2.2))) else (Option.bind (N_advance skd s.2.2.1 s.2.2.2.1 s.2.2.2.2.1 s.2.2.2.2.2.1 s.2.2.2.2.2.2) (fun q2 => if q2.1 = (0:Int32) then (some (Sum.inr (s.1, q2.2.1, q2.2.2.1, q2.2.2.2.1, q2.2.2.2.2.1, q2.2.2.2.2.2))) else (Option.bind (N_product q2.2.1 q2.2.2.2.2.2) (fun q4 => grd (nn32 (FP.fadd s.1 q4)) (some (Sum.inl (FP.fadd s.1 q4, s.2.1 + (1:Int32), q2.2.1, q2.2.2.1, q2.2.2.2.1, q2.2.2.2.2.1, q2.2.2.2.2.2)))))))
def X_weight (v1 : Int32) (nrg : Int64) (skd : Int32) (sdp : Int32) (sfd : Int32) (sop : (Nat → Int64)) (str : (Nat → Int32)) (spr : (Nat → UInt32)) : Option (Int32 × Int32 × Int32 × Int32 × (Nat → Int64) × (Nat → Int32) × (Nat → UInt32)) := if (N_isKind v1) = (0:Int32) then (some ((-1:Int32), skd, sdp, sfd, sop, str, spr)) else (Option.bind (N_start v1 nrg sop str spr) (fun q2 => Option.bind (wh (X_weight_s28 q2.1) FU (FP.fconst0, (0:Int32), q2.2.1, q2.2.2.1, q2.2.2.2.1, q2.2.2.2.2.1, q2.2.2.2.2.2)) (fun w3 => Option.bind (B_ofFloat w3.1) (fun q4 => some (q4, q2.1, w3.2.1, w3.2.2.1, w3.2.2.2.1, w3.2.2.2.2.1, w3.2.2.2.2.2)))))
set_option maxRecDepth 10000 in
theorem X_weight_l28    (hE : cl = sxE sc (d + 4)) (hm : CallMono cl) : ∀ (n : Nat) (s : (UInt32 × Int32 × Int32 × Int32 × (Nat → Int64) × (Nat → Int32) × (Nat → UInt32))) (r : (UInt32 × Int32 × Int32 × (Nat → Int64) × (Nat → Int32) × (Nat → UInt32))), wh (X_weight_s28 sn.1) n s = some r → (∀ (z0 z1 z3 : Option Value), sxWP sc cl Q 114 (61, [z0, z1, some (.float r.1), z3], [], (cW nw kp im ol (sn.1, r.2.1, r.2.2.1, r.2.2.2.1, r.2.2.2.2.1, r.2.2.2.2.2) sr tp (mW mk mg mt mc T)), 0, 0)) → ∀ (z1 : Option Value), sxWP sc cl Q 114 (28, [some (.ref 0), z1, some (.float s.1), some (.int s.2.1)], [], (cW nw kp im ol (sn.1, s.2.2.1, s.2.2.2.1, s.2.2.2.2.1, s.2.2.2.2.2.1, s.2.2.2.2.2.2) sr tp (mW mk mg mt mc T)), 0, 0) := by
  refine wh_run (A := fun (s : (UInt32 × Int32 × Int32 × Int32 × (Nat → Int64) × (Nat → Int32) × (Nat → UInt32))) => ∀ (z1 : Option Value), sxWP sc cl Q 114 (28, [some (.ref 0), z1, some (.float s.1), some (.int s.2.1)], [], (cW nw kp im ol (sn.1, s.2.2.1, s.2.2.2.1, s.2.2.2.2.1, s.2.2.2.2.2.1, s.2.2.2.2.2.2) sr tp (mW mk mg mt mc T)), 0, 0)) (B := fun (r : (UInt32 × Int32 × Int32 × (Nat → Int64) × (Nat → Int32) × (Nat → UInt32))) => ∀ (z0 z1 z3 : Option Value), sxWP sc cl Q 114 (61, [z0, z1, some (.float r.1), z3], [], (cW nw kp im ol (sn.1, r.2.1, r.2.2.1, r.2.2.2.1, r.2.2.2.2.1, r.2.2.2.2.2) sr tp (mW mk mg mt mc T)), 0, 0)) (fun s x hf hA hB => ?_)
  intro z1
  unfold X_weight_s28 at hf
  refine stp hm 3 (br hf (fun c1 hf => ?_) (fun c1 hf => ?_))
  · show sxWP sc cl Q 114 (61, [some (.ref 0), z1, some (.float s.1), some (.int s.2.1)], [], (cW nw kp im ol (sn.1, s.2.2.1, s.2.2.2.1, s.2.2.2.2.1, s.2.2.2.2.2.1, s.2.2.2.2.2.2) sr tp (mW mk mg mt mc T)), 0, 0)
    obtain rfl := Option.some.inj hf
    exact hB _ rfl _ _ _
  · show sxWP sc cl Q 114 (35, [some (.ref 0), z1, some (.float s.1), some (.int s.2.1)], [], (cW nw kp im ol (sn.1, s.2.2.1, s.2.2.2.1, s.2.2.2.2.1, s.2.2.2.2.2.1, s.2.2.2.2.2.2) sr tp (mW mk mg mt mc T)), 0, 0)
    obtain ⟨q2, hq2, hf⟩ := bnd hf
    refine stp hm 3 (N_advance_ok hE hq2 ?_)
    show sxWP sc cl Q 114 (42, [some (.ref 0), z1, some (.float s.1), some (.int s.2.1)], [.int q2.1], (cW nw kp im ol (sn.1, q2.2.1, q2.2.2.1, q2.2.2.2.1, q2.2.2.2.2.1, q2.2.2.2.2.2) sr tp (mW mk mg mt mc T)), 0, 0)
    refine stp hm 1 (br hf (fun c3 hf => ?_) (fun c3 hf => ?_))
    · show sxWP sc cl Q 114 (61, [some (.ref 0), z1, some (.float s.1), some (.int s.2.1)], [], (cW nw kp im ol (sn.1, q2.2.1, q2.2.2.1, q2.2.2.2.1, q2.2.2.2.2.1, q2.2.2.2.2.2) sr tp (mW mk mg mt mc T)), 0, 0)
      obtain rfl := Option.some.inj hf
      exact hB _ rfl _ _ _
    · show sxWP sc cl Q 114 (45, [some (.ref 0), z1, some (.float s.1), some (.int s.2.1)], [], (cW nw kp im ol (sn.1, q2.2.1, q2.2.2.1, q2.2.2.2.1, q2.2.2.2.2.1, q2.2.2.2.2.2) sr tp (mW mk mg mt mc T)), 0, 0)
      obtain ⟨q4, hq4, hf⟩ := bnd hf
      refine stp hm 4 (N_product_ok hE hq4 ?_)
      show sxWP sc cl Q 114 (53, [some (.ref 0), z1, some (.float s.1), some (.int s.2.1)], [.float q4, .float s.1], (cW nw kp im ol (sn.1, q2.2.1, q2.2.2.1, q2.2.2.2.1, q2.2.2.2.2.1, q2.2.2.2.2.2) sr tp (mW mk mg mt mc T)), 0, 0)
      obtain ⟨g5, hf⟩ := grd_e hf
      refine stp hm 1 (And.intro (nn32_e g5) (?_ : sxWP sc cl Q 114 (54, [some (.ref 0), z1, some (.float s.1), some (.int s.2.1)], [.float (FP.fadd s.1 q4)], (cW nw kp im ol (sn.1, q2.2.1, q2.2.2.1, q2.2.2.2.1, q2.2.2.2.2.1, q2.2.2.2.2.2) sr tp (mW mk mg mt mc T)), 0, 0)))
      obtain rfl := Option.some.inj hf
      refine stp hm 3 (?_ : sxWP sc cl Q 114 (28, [some (.ref 0), (sxc2 z1), some (.float (FP.fadd s.1 q4)), some (.int (s.2.1 + (1:Int32)))], [], (cW nw kp im ol (sn.1, q2.2.1, q2.2.2.1, q2.2.2.2.1, q2.2.2.2.2.1, q2.2.2.2.2.2) sr tp (mW mk mg mt mc T)), 0, 0))
      exact hA _ rfl _
set_option maxRecDepth 10000 in
theorem X_weight_ok {v1 : Int32} {q : (Int32 × Int32 × Int32 × Int32 × (Nat → Int64) × (Nat → Int32) × (Nat → UInt32))} (hc : call = sxE sc (d + 5)) (hf : X_weight v1 nw.1 sn.1 sn.2.1 sn.2.2.1 sn.2.2.2.1 sn.2.2.2.2.1 sn.2.2.2.2.2 = some q) (h : Q (some (.int q.1)) (cW nw kp im ol (q.2.1, q.2.2.1, q.2.2.2.1, q.2.2.2.2.1, q.2.2.2.2.2.1, q.2.2.2.2.2.2) sr tp (mW mk mg mt mc T))) : call 114 [.ref 0, .int v1] (cW nw kp im ol sn sr tp (mW mk mg mt mc T)) Q := by
  refine ent hc rfl (fun cl hE hm => ?_)
  unfold X_weight at hf
  refine stp hm 2 (N_isKind_ok hE rfl ?_)
  show sxWP sc cl Q 114 (4, [some (.ref 0), some (.int v1), none, none], [.int (N_isKind v1)], (cW nw kp im ol sn sr tp (mW mk mg mt mc T)), 0, 0)
  refine stp hm 1 (brn hf (fun c1 hf => ?_) (fun c1 hf => ?_))
  · show sxWP sc cl Q 114 (9, [some (.ref 0), some (.int v1), none, none], [], (cW nw kp im ol sn sr tp (mW mk mg mt mc T)), 0, 0)
    obtain ⟨q2, hq2, hf⟩ := bnd hf
    refine stp hm 7 (N_start_ok hE hq2 ?_)
    show sxWP sc cl Q 114 (24, [some (.ref 0), some (.int v1), none, none], [], (cW nw kp im ol (q2.1, q2.2.1, q2.2.2.1, q2.2.2.2.1, q2.2.2.2.2.1, q2.2.2.2.2.2) sr tp (mW mk mg mt mc T)), 0, 0)
    obtain ⟨w3, hw3, hf⟩ := bnd hf
    refine stp hm 4 (?_ : sxWP sc cl Q 114 (28, [some (.ref 0), some (.int v1), some (.float FP.fconst0), some (.int (0:Int32))], [], (cW nw kp im ol (q2.1, q2.2.1, q2.2.2.1, q2.2.2.2.1, q2.2.2.2.2.1, q2.2.2.2.2.2) sr tp (mW mk mg mt mc T)), 0, 0))
    refine X_weight_l28 hE hm _ _ _ hw3 ?_ _
    intro w3_z0 w3_z1 w3_z3
    show sxWP sc cl Q 114 (61, [w3_z0, w3_z1, some (.float w3.1), w3_z3], [], (cW nw kp im ol (q2.1, w3.2.1, w3.2.2.1, w3.2.2.2.1, w3.2.2.2.2.1, w3.2.2.2.2.2) sr tp (mW mk mg mt mc T)), 0, 0)
    obtain ⟨q4, hq4, hf⟩ := bnd hf
    refine stp hm 2 (B_ofFloat_ok hE hq4 ?_)
    show sxWP sc cl Q 114 (65, [w3_z0, w3_z1, some (.float w3.1), w3_z3], [.int q4], (cW nw kp im ol (q2.1, w3.2.1, w3.2.2.1, w3.2.2.2.1, w3.2.2.2.2.1, w3.2.2.2.2.2) sr tp (mW mk mg mt mc T)), 0, 0)
    obtain rfl := Option.some.inj hf
    refine stp hm 1 ?_
    exact h
  · show sxWP sc cl Q 114 (7, [some (.ref 0), some (.int v1), none, none], [], (cW nw kp im ol sn sr tp (mW mk mg mt mc T)), 0, 0)
    obtain rfl := Option.some.inj hf
    refine stp hm 2 ?_
    exact h

def N_isEven_s7  (v0 : Int64) (s : (Int32 × Int32 × Int32)) : Option ((Int32 × Int32 × Int32) ⊕ (Int32 × Int32)) := if (36:Int32) ≤ s.2.2 then (some (Sum.inr (s.1, s.2.1))) else (some (Sum.inl (if (G_holds v0 s.2.2) = (0:Int32) then s.1 else (if (((s.2.2 / (6:Int32)) + (s.2.2 - s.2.2 / (6:Int32) * (6:Int32))) - ((s.2.2 / (6:Int32)) + (s.2.2 - s.2.2 / (6:Int32) * (6:Int32))) / (3:Int32) * (3:Int32)) = (0:Int32) then (s.1 + (1:Int32)) else s.1), if (G_holds v0 s.2.2) = (0:Int32) then s.2.1 else (if (((s.2.2 / (6:Int32)) + (s.2.2 - s.2.2 / (6:Int32) * (6:Int32))) - ((s.2.2 / (6:Int32)) + (s.2.2 - s.2.2 / (6:Int32) * (6:Int32))) / (3:Int32) * (3:Int32)) = (1:Int32) then (s.2.1 + (1:Int32)) else s.2.1), s.2.2 + (1:Int32))))
def N_isEven (v0 : Int64)  : Option Int32 := Option.bind (wh (N_isEven_s7 v0) FU ((0:Int32), (0:Int32), (0:Int32))) (fun w1 => some (if w1.1 = w1.2 then (if ((w1.1 + w1.2) + w1.2) = (J_Long_bitCount v0) then (1:Int32) else (0:Int32)) else (0:Int32)))
set_option maxRecDepth 10000 in
theorem N_isEven_l7 {v0 : Int64}   (hE : cl = sxE sc (d + 2)) (hm : CallMono cl) : ∀ (n : Nat) (s : (Int32 × Int32 × Int32)) (r : (Int32 × Int32)), wh (N_isEven_s7 v0) n s = some r → (∀ (z4 z5 z6 : Option Value), sxWP sc cl Q 81 (80, [some (.long v0), none, some (.int r.1), some (.int r.2), z4, z5, z6], [], (cW nw kp im ol sn sr tp (mW mk mg mt mc T)), 0, 0)) → ∀ (z5 z6 : Option Value), sxWP sc cl Q 81 (7, [some (.long v0), none, some (.int s.1), some (.int s.2.1), some (.int s.2.2), z5, z6], [], (cW nw kp im ol sn sr tp (mW mk mg mt mc T)), 0, 0) := by
  refine wh_run (A := fun (s : (Int32 × Int32 × Int32)) => ∀ (z5 z6 : Option Value), sxWP sc cl Q 81 (7, [some (.long v0), none, some (.int s.1), some (.int s.2.1), some (.int s.2.2), z5, z6], [], (cW nw kp im ol sn sr tp (mW mk mg mt mc T)), 0, 0)) (B := fun (r : (Int32 × Int32)) => ∀ (z4 z5 z6 : Option Value), sxWP sc cl Q 81 (80, [some (.long v0), none, some (.int r.1), some (.int r.2), z4, z5, z6], [], (cW nw kp im ol sn sr tp (mW mk mg mt mc T)), 0, 0)) (fun s x hf hA hB => ?_)
  intro z5 z6
  unfold N_isEven_s7 at hf
  refine stp hm 3 (br hf (fun c1 hf => ?_) (fun c1 hf => ?_))
  · show sxWP sc cl Q 81 (80, [some (.long v0), none, some (.int s.1), some (.int s.2.1), some (.int s.2.2), z5, z6], [], (cW nw kp im ol sn sr tp (mW mk mg mt mc T)), 0, 0)
    obtain rfl := Option.some.inj hf
    exact hB _ rfl _ _ _
  · show sxWP sc cl Q 81 (14, [some (.long v0), none, some (.int s.1), some (.int s.2.1), some (.int s.2.2), z5, z6], [], (cW nw kp im ol sn sr tp (mW mk mg mt mc T)), 0, 0)
    refine stp hm 3 (And.intro (by decide) (?_ : sxWP sc cl Q 81 (19, [some (.long v0), none, some (.int s.1), some (.int s.2.1), some (.int s.2.2), z5, z6], [.int (s.2.2 / (6:Int32))], (cW nw kp im ol sn sr tp (mW mk mg mt mc T)), 0, 0)))
    refine stp hm 3 (And.intro (by decide) (?_ : sxWP sc cl Q 81 (24, [some (.long v0), none, some (.int s.1), some (.int s.2.1), some (.int s.2.2), z5, z6], [.int (s.2.2 - s.2.2 / (6:Int32) * (6:Int32)), .int (s.2.2 / (6:Int32))], (cW nw kp im ol sn sr tp (mW mk mg mt mc T)), 0, 0)))
    refine stp hm 3 (And.intro (by decide) (?_ : sxWP sc cl Q 81 (27, [some (.long v0), none, some (.int s.1), some (.int s.2.1), some (.int s.2.2), z5, z6], [.int (((s.2.2 / (6:Int32)) + (s.2.2 - s.2.2 / (6:Int32) * (6:Int32))) - ((s.2.2 / (6:Int32)) + (s.2.2 - s.2.2 / (6:Int32) * (6:Int32))) / (3:Int32) * (3:Int32))], (cW nw kp im ol sn sr tp (mW mk mg mt mc T)), 0, 0)))
    refine stp hm 4 (G_holds_ok hE rfl ?_)
    show sxWP sc cl Q 81 (35, [some (.long v0), none, some (.int s.1), some (.int s.2.1), some (.int s.2.2), some (.int (((s.2.2 / (6:Int32)) + (s.2.2 - s.2.2 / (6:Int32) * (6:Int32))) - ((s.2.2 / (6:Int32)) + (s.2.2 - s.2.2 / (6:Int32) * (6:Int32))) / (3:Int32) * (3:Int32))), z6], [.int (G_holds v0 s.2.2)], (cW nw kp im ol sn sr tp (mW mk mg mt mc T)), 0, 0)
    have m2 : ∀ (m2_0 : Int32), m2_0 = (if (G_holds v0 s.2.2) = (0:Int32) then s.1 else (if (((s.2.2 / (6:Int32)) + (s.2.2 - s.2.2 / (6:Int32) * (6:Int32))) - ((s.2.2 / (6:Int32)) + (s.2.2 - s.2.2 / (6:Int32) * (6:Int32))) / (3:Int32) * (3:Int32)) = (0:Int32) then (s.1 + (1:Int32)) else s.1)) → sxWP sc cl Q 81 (54, [some (.long v0), none, some (.int s.1), some (.int s.2.1), some (.int s.2.2), some (.int (((s.2.2 / (6:Int32)) + (s.2.2 - s.2.2 / (6:Int32) * (6:Int32))) - ((s.2.2 / (6:Int32)) + (s.2.2 - s.2.2 / (6:Int32) * (6:Int32))) / (3:Int32) * (3:Int32))), some (.int (G_holds v0 s.2.2))], [.int m2_0], (cW nw kp im ol sn sr tp (mW mk mg mt mc T)), 0, 0) := by
      intro m2_0 em2_0
      subst em2_0
      have m3 : ∀ (m3_0 : Int32), m3_0 = (if (G_holds v0 s.2.2) = (0:Int32) then s.2.1 else (if (((s.2.2 / (6:Int32)) + (s.2.2 - s.2.2 / (6:Int32) * (6:Int32))) - ((s.2.2 / (6:Int32)) + (s.2.2 - s.2.2 / (6:Int32) * (6:Int32))) / (3:Int32) * (3:Int32)) = (1:Int32) then (s.2.1 + (1:Int32)) else s.2.1)) → sxWP sc cl Q 81 (73, [some (.long v0), none, some (.int (if (G_holds v0 s.2.2) = (0:Int32) then s.1 else (if (((s.2.2 / (6:Int32)) + (s.2.2 - s.2.2 / (6:Int32) * (6:Int32))) - ((s.2.2 / (6:Int32)) + (s.2.2 - s.2.2 / (6:Int32) * (6:Int32))) / (3:Int32) * (3:Int32)) = (0:Int32) then (s.1 + (1:Int32)) else s.1))), some (.int s.2.1), some (.int s.2.2), some (.int (((s.2.2 / (6:Int32)) + (s.2.2 - s.2.2 / (6:Int32) * (6:Int32))) - ((s.2.2 / (6:Int32)) + (s.2.2 - s.2.2 / (6:Int32) * (6:Int32))) / (3:Int32) * (3:Int32))), some (.int (G_holds v0 s.2.2))], [.int m3_0], (cW nw kp im ol sn sr tp (mW mk mg mt mc T)), 0, 0) := by
        intro m3_0 em3_0
        subst em3_0
        obtain rfl := Option.some.inj hf
        refine stp hm 3 (?_ : sxWP sc cl Q 81 (7, [some (.long v0), none, some (.int (if (G_holds v0 s.2.2) = (0:Int32) then s.1 else (if (((s.2.2 / (6:Int32)) + (s.2.2 - s.2.2 / (6:Int32) * (6:Int32))) - ((s.2.2 / (6:Int32)) + (s.2.2 - s.2.2 / (6:Int32) * (6:Int32))) / (3:Int32) * (3:Int32)) = (0:Int32) then (s.1 + (1:Int32)) else s.1))), some (.int (if (G_holds v0 s.2.2) = (0:Int32) then s.2.1 else (if (((s.2.2 / (6:Int32)) + (s.2.2 - s.2.2 / (6:Int32) * (6:Int32))) - ((s.2.2 / (6:Int32)) + (s.2.2 - s.2.2 / (6:Int32) * (6:Int32))) / (3:Int32) * (3:Int32)) = (1:Int32) then (s.2.1 + (1:Int32)) else s.2.1))), some (.int (s.2.2 + (1:Int32))), some (.int (((s.2.2 / (6:Int32)) + (s.2.2 - s.2.2 / (6:Int32) * (6:Int32))) - ((s.2.2 / (6:Int32)) + (s.2.2 - s.2.2 / (6:Int32) * (6:Int32))) / (3:Int32) * (3:Int32))), some (.int (G_holds v0 s.2.2))], [], (cW nw kp im ol sn sr tp (mW mk mg mt mc T)), 0, 0))
        exact hA _ rfl _ _
      refine stp hm 3 (bs (c := (G_holds v0 s.2.2) = (0:Int32)) (fun c4 => ?_) (fun c4 => ?_))
      · have c4 : (G_holds v0 s.2.2) = (0:Int32) := c4
        refine stp hm 1 (?_ : sxWP sc cl Q 81 (73, [some (.long v0), none, some (.int (if (G_holds v0 s.2.2) = (0:Int32) then s.1 else (if (((s.2.2 / (6:Int32)) + (s.2.2 - s.2.2 / (6:Int32) * (6:Int32))) - ((s.2.2 / (6:Int32)) + (s.2.2 - s.2.2 / (6:Int32) * (6:Int32))) / (3:Int32) * (3:Int32)) = (0:Int32) then (s.1 + (1:Int32)) else s.1))), some (.int s.2.1), some (.int s.2.2), some (.int (((s.2.2 / (6:Int32)) + (s.2.2 - s.2.2 / (6:Int32) * (6:Int32))) - ((s.2.2 / (6:Int32)) + (s.2.2 - s.2.2 / (6:Int32) * (6:Int32))) / (3:Int32) * (3:Int32))), some (.int (G_holds v0 s.2.2))], [.int s.2.1], (cW nw kp im ol sn sr tp (mW mk mg mt mc T)), 0, 0))
        exact m3 _ (by rw [if_pos c4])
      · have c4 : ¬ (G_holds v0 s.2.2) = (0:Int32) := c4
        refine stp hm 3 (bsn (c := (((s.2.2 / (6:Int32)) + (s.2.2 - s.2.2 / (6:Int32) * (6:Int32))) - ((s.2.2 / (6:Int32)) + (s.2.2 - s.2.2 / (6:Int32) * (6:Int32))) / (3:Int32) * (3:Int32)) = (1:Int32)) (fun c5 => ?_) (fun c5 => ?_))
        · have c5 : ¬ (((s.2.2 / (6:Int32)) + (s.2.2 - s.2.2 / (6:Int32) * (6:Int32))) - ((s.2.2 / (6:Int32)) + (s.2.2 - s.2.2 / (6:Int32) * (6:Int32))) / (3:Int32) * (3:Int32)) = (1:Int32) := c5
          refine stp hm 1 (?_ : sxWP sc cl Q 81 (73, [some (.long v0), none, some (.int (if (G_holds v0 s.2.2) = (0:Int32) then s.1 else (if (((s.2.2 / (6:Int32)) + (s.2.2 - s.2.2 / (6:Int32) * (6:Int32))) - ((s.2.2 / (6:Int32)) + (s.2.2 - s.2.2 / (6:Int32) * (6:Int32))) / (3:Int32) * (3:Int32)) = (0:Int32) then (s.1 + (1:Int32)) else s.1))), some (.int s.2.1), some (.int s.2.2), some (.int (((s.2.2 / (6:Int32)) + (s.2.2 - s.2.2 / (6:Int32) * (6:Int32))) - ((s.2.2 / (6:Int32)) + (s.2.2 - s.2.2 / (6:Int32) * (6:Int32))) / (3:Int32) * (3:Int32))), some (.int (G_holds v0 s.2.2))], [.int s.2.1], (cW nw kp im ol sn sr tp (mW mk mg mt mc T)), 0, 0))
          exact m3 _ (by rw [if_neg c4, if_neg c5])
        · have c5 : (((s.2.2 / (6:Int32)) + (s.2.2 - s.2.2 / (6:Int32) * (6:Int32))) - ((s.2.2 / (6:Int32)) + (s.2.2 - s.2.2 / (6:Int32) * (6:Int32))) / (3:Int32) * (3:Int32)) = (1:Int32) := c5
          refine stp hm 4 (?_ : sxWP sc cl Q 81 (73, [some (.long v0), none, some (.int (if (G_holds v0 s.2.2) = (0:Int32) then s.1 else (if (((s.2.2 / (6:Int32)) + (s.2.2 - s.2.2 / (6:Int32) * (6:Int32))) - ((s.2.2 / (6:Int32)) + (s.2.2 - s.2.2 / (6:Int32) * (6:Int32))) / (3:Int32) * (3:Int32)) = (0:Int32) then (s.1 + (1:Int32)) else s.1))), some (.int s.2.1), some (.int s.2.2), some (.int (((s.2.2 / (6:Int32)) + (s.2.2 - s.2.2 / (6:Int32) * (6:Int32))) - ((s.2.2 / (6:Int32)) + (s.2.2 - s.2.2 / (6:Int32) * (6:Int32))) / (3:Int32) * (3:Int32))), some (.int (G_holds v0 s.2.2))], [.int (s.2.1 + (1:Int32))], (cW nw kp im ol sn sr tp (mW mk mg mt mc T)), 0, 0))
          exact m3 _ (by rw [if_neg c4, if_pos c5])
    refine stp hm 3 (bs (c := (G_holds v0 s.2.2) = (0:Int32)) (fun c6 => ?_) (fun c6 => ?_))
    · have c6 : (G_holds v0 s.2.2) = (0:Int32) := c6
      refine stp hm 1 (?_ : sxWP sc cl Q 81 (54, [some (.long v0), none, some (.int s.1), some (.int s.2.1), some (.int s.2.2), some (.int (((s.2.2 / (6:Int32)) + (s.2.2 - s.2.2 / (6:Int32) * (6:Int32))) - ((s.2.2 / (6:Int32)) + (s.2.2 - s.2.2 / (6:Int32) * (6:Int32))) / (3:Int32) * (3:Int32))), some (.int (G_holds v0 s.2.2))], [.int s.1], (cW nw kp im ol sn sr tp (mW mk mg mt mc T)), 0, 0))
      exact m2 _ (by rw [if_pos c6])
    · have c6 : ¬ (G_holds v0 s.2.2) = (0:Int32) := c6
      refine stp hm 2 (bsn (c := (((s.2.2 / (6:Int32)) + (s.2.2 - s.2.2 / (6:Int32) * (6:Int32))) - ((s.2.2 / (6:Int32)) + (s.2.2 - s.2.2 / (6:Int32) * (6:Int32))) / (3:Int32) * (3:Int32)) = (0:Int32)) (fun c7 => ?_) (fun c7 => ?_))
      · have c7 : ¬ (((s.2.2 / (6:Int32)) + (s.2.2 - s.2.2 / (6:Int32) * (6:Int32))) - ((s.2.2 / (6:Int32)) + (s.2.2 - s.2.2 / (6:Int32) * (6:Int32))) / (3:Int32) * (3:Int32)) = (0:Int32) := c7
        refine stp hm 1 (?_ : sxWP sc cl Q 81 (54, [some (.long v0), none, some (.int s.1), some (.int s.2.1), some (.int s.2.2), some (.int (((s.2.2 / (6:Int32)) + (s.2.2 - s.2.2 / (6:Int32) * (6:Int32))) - ((s.2.2 / (6:Int32)) + (s.2.2 - s.2.2 / (6:Int32) * (6:Int32))) / (3:Int32) * (3:Int32))), some (.int (G_holds v0 s.2.2))], [.int s.1], (cW nw kp im ol sn sr tp (mW mk mg mt mc T)), 0, 0))
        exact m2 _ (by rw [if_neg c6, if_neg c7])
      · have c7 : (((s.2.2 / (6:Int32)) + (s.2.2 - s.2.2 / (6:Int32) * (6:Int32))) - ((s.2.2 / (6:Int32)) + (s.2.2 - s.2.2 / (6:Int32) * (6:Int32))) / (3:Int32) * (3:Int32)) = (0:Int32) := c7
        refine stp hm 4 (?_ : sxWP sc cl Q 81 (54, [some (.long v0), none, some (.int s.1), some (.int s.2.1), some (.int s.2.2), some (.int (((s.2.2 / (6:Int32)) + (s.2.2 - s.2.2 / (6:Int32) * (6:Int32))) - ((s.2.2 / (6:Int32)) + (s.2.2 - s.2.2 / (6:Int32) * (6:Int32))) / (3:Int32) * (3:Int32))), some (.int (G_holds v0 s.2.2))], [.int (s.1 + (1:Int32))], (cW nw kp im ol sn sr tp (mW mk mg mt mc T)), 0, 0))
        exact m2 _ (by rw [if_neg c6, if_pos c7])
set_option maxRecDepth 10000 in
theorem N_isEven_ok {v0 : Int64} {q : Int32} (hc : call = sxE sc (d + 3)) (hf : N_isEven v0 = some q) (h : Q (some (.int q)) (cW nw kp im ol sn sr tp (mW mk mg mt mc T))) : call 81 [.long v0] (cW nw kp im ol sn sr tp (mW mk mg mt mc T)) Q := by
  refine ent hc rfl (fun cl hE hm => ?_)
  unfold N_isEven at hf
  obtain ⟨w1, hw1, hf⟩ := bnd hf
  refine stp hm 6 (?_ : sxWP sc cl Q 81 (7, [some (.long v0), none, some (.int (0:Int32)), some (.int (0:Int32)), some (.int (0:Int32)), none, none], [], (cW nw kp im ol sn sr tp (mW mk mg mt mc T)), 0, 0))
  refine N_isEven_l7 hE hm _ _ _ hw1 ?_ _ _
  intro w1_z4 w1_z5 w1_z6
  show sxWP sc cl Q 81 (80, [some (.long v0), none, some (.int w1.1), some (.int w1.2), w1_z4, w1_z5, w1_z6], [], (cW nw kp im ol sn sr tp (mW mk mg mt mc T)), 0, 0)
  have m2 : ∀ (m2_0 : Int32), m2_0 = (if w1.1 = w1.2 then (if ((w1.1 + w1.2) + w1.2) = (J_Long_bitCount v0) then (1:Int32) else (0:Int32)) else (0:Int32)) → sxWP sc cl Q 81 (102, [some (.long v0), none, some (.int w1.1), some (.int w1.2), w1_z4, w1_z5, w1_z6], [.int m2_0], (cW nw kp im ol sn sr tp (mW mk mg mt mc T)), 0, 0) := by
    intro m2_0 em2_0
    subst em2_0
    obtain rfl := Option.some.inj hf
    refine stp hm 1 (And.intro (by (repeat' split) <;> first | exact Or.inl rfl | exact Or.inr rfl) ?_)
    exact h
  refine stp hm 3 (bsn (c := w1.1 = w1.2) (fun c3 => ?_) (fun c3 => ?_))
  · have c3 : ¬ w1.1 = w1.2 := c3
    refine stp hm 1 (?_ : sxWP sc cl Q 81 (102, [some (.long v0), none, some (.int w1.1), some (.int w1.2), w1_z4, w1_z5, w1_z6], [.int (0:Int32)], (cW nw kp im ol sn sr tp (mW mk mg mt mc T)), 0, 0))
    exact m2 _ (by rw [if_neg c3])
  · have c3 : w1.1 = w1.2 := c3
    refine stp hm 7 (J_Long_bitCount_ok hE rfl ?_)
    show sxWP sc cl Q 81 (94, [some (.long v0), none, some (.int w1.1), some (.int w1.2), w1_z4, w1_z5, w1_z6], [.int (J_Long_bitCount v0), .int ((w1.1 + w1.2) + w1.2)], (cW nw kp im ol sn sr tp (mW mk mg mt mc T)), 0, 0)
    refine stp hm 1 (bsn (c := ((w1.1 + w1.2) + w1.2) = (J_Long_bitCount v0)) (fun c4 => ?_) (fun c4 => ?_))
    · have c4 : ¬ ((w1.1 + w1.2) + w1.2) = (J_Long_bitCount v0) := c4
      refine stp hm 1 (?_ : sxWP sc cl Q 81 (102, [some (.long v0), none, some (.int w1.1), some (.int w1.2), w1_z4, w1_z5, w1_z6], [.int (0:Int32)], (cW nw kp im ol sn sr tp (mW mk mg mt mc T)), 0, 0))
      exact m2 _ (by rw [if_pos c3, if_neg c4])
    · have c4 : ((w1.1 + w1.2) + w1.2) = (J_Long_bitCount v0) := c4
      refine stp hm 2 (?_ : sxWP sc cl Q 81 (102, [some (.long v0), none, some (.int w1.1), some (.int w1.2), w1_z4, w1_z5, w1_z6], [.int (1:Int32)], (cW nw kp im ol sn sr tp (mW mk mg mt mc T)), 0, 0))
      exact m2 _ (by rw [if_pos c3, if_pos c4])

def N_coloursBar_j54  (k0 : Int32) : Option Int32 := grd (zb k0) (some k0)
def N_coloursBar_j53   : Option Int32 := N_coloursBar_j54 (0:Int32)
def N_coloursBar_j49   : Option Int32 := N_coloursBar_j54 (1:Int32)
def N_coloursBar (v0 : Int32) (v1 : Int64)  : Option Int32 := if v0 = (0:Int32) then (some (if ((J_Long_bitCount (v1 &&& (45460576917:Int64))) * (2:Int32)) = (J_Long_bitCount v1) then (0:Int32) else (1:Int32))) else (if v0 = (1:Int32) then (Option.bind (N_isEven v1) (fun q3 => if q3 = (0:Int32) then N_coloursBar_j49 else (Option.bind (G_mirror v1) (fun q5 => Option.bind (N_isEven q5) (fun q6 => some (if q6 = (0:Int32) then (1:Int32) else (0:Int32))))))) else N_coloursBar_j53)
set_option maxRecDepth 10000 in
theorem N_coloursBar_ok {v0 : Int32} {v1 : Int64} {q : Int32} (hc : call = sxE sc (d + 4)) (hf : N_coloursBar v0 v1 = some q) (h : Q (some (.int q)) (cW nw kp im ol sn sr tp (mW mk mg mt mc T))) : call 80 [.int v0, .long v1] (cW nw kp im ol sn sr tp (mW mk mg mt mc T)) Q := by
  refine ent hc rfl (fun cl hE hm => ?_)
  have J54 : ∀ (k0 : Int32) (z0 : Option Value) (z1 : Option Value) (z2 : Option Value), N_coloursBar_j54 k0 = some q → sxWP sc cl Q 80 (54, [z0, z1, z2], [.int k0], (cW nw kp im ol sn sr tp (mW mk mg mt mc T)), 0, 0) := by
    intro k0 z0 z1 z2 hf
    unfold N_coloursBar_j54 at hf
    obtain ⟨g0, hf⟩ := grd_e hf
    obtain rfl := Option.some.inj hf
    refine stp hm 1 (And.intro (zb_e g0) ?_)
    exact h
  have J53 : ∀  (z0 : Option Value) (z1 : Option Value) (z2 : Option Value), N_coloursBar_j53 = some q → sxWP sc cl Q 80 (53, [z0, z1, z2], [], (cW nw kp im ol sn sr tp (mW mk mg mt mc T)), 0, 0) := by
    intro z0 z1 z2 hf
    unfold N_coloursBar_j53 at hf
    refine stp hm 1 (?_ : sxWP sc cl Q 80 (54, [z0, z1, z2], [.int (0:Int32)], (cW nw kp im ol sn sr tp (mW mk mg mt mc T)), 0, 0))
    exact J54 _ _ _ _ hf
  have J49 : ∀  (z0 : Option Value) (z1 : Option Value) (z2 : Option Value), N_coloursBar_j49 = some q → sxWP sc cl Q 80 (49, [z0, z1, z2], [], (cW nw kp im ol sn sr tp (mW mk mg mt mc T)), 0, 0) := by
    intro z0 z1 z2 hf
    unfold N_coloursBar_j49 at hf
    refine stp hm 2 (?_ : sxWP sc cl Q 80 (54, [z0, z1, z2], [.int (1:Int32)], (cW nw kp im ol sn sr tp (mW mk mg mt mc T)), 0, 0))
    exact J54 _ _ _ _ hf
  unfold N_coloursBar at hf
  refine stp hm 2 (brn hf (fun c1 hf => ?_) (fun c1 hf => ?_))
  · show sxWP sc cl Q 80 (27, [some (.int v0), some (.long v1), none], [], (cW nw kp im ol sn sr tp (mW mk mg mt mc T)), 0, 0)
    refine stp hm 3 (brn hf (fun c2 hf => ?_) (fun c2 hf => ?_))
    · show sxWP sc cl Q 80 (53, [some (.int v0), some (.long v1), none], [], (cW nw kp im ol sn sr tp (mW mk mg mt mc T)), 0, 0)
      exact J53 _ _ _ hf
    · show sxWP sc cl Q 80 (32, [some (.int v0), some (.long v1), none], [], (cW nw kp im ol sn sr tp (mW mk mg mt mc T)), 0, 0)
      obtain ⟨q3, hq3, hf⟩ := bnd hf
      refine stp hm 2 (N_isEven_ok hE hq3 ?_)
      show sxWP sc cl Q 80 (36, [some (.int v0), some (.long v1), none], [.int q3], (cW nw kp im ol sn sr tp (mW mk mg mt mc T)), 0, 0)
      refine stp hm 1 (br hf (fun c4 hf => ?_) (fun c4 hf => ?_))
      · show sxWP sc cl Q 80 (49, [some (.int v0), some (.long v1), none], [], (cW nw kp im ol sn sr tp (mW mk mg mt mc T)), 0, 0)
        exact J49 _ _ _ hf
      · show sxWP sc cl Q 80 (39, [some (.int v0), some (.long v1), none], [], (cW nw kp im ol sn sr tp (mW mk mg mt mc T)), 0, 0)
        obtain ⟨q5, hq5, hf⟩ := bnd hf
        refine stp hm 2 (G_mirror_ok hE hq5 ?_)
        show sxWP sc cl Q 80 (43, [some (.int v0), some (.long v1), none], [.long q5], (cW nw kp im ol sn sr tp (mW mk mg mt mc T)), 0, 0)
        obtain ⟨q6, hq6, hf⟩ := bnd hf
        refine stp hm 1 (N_isEven_ok hE hq6 ?_)
        show sxWP sc cl Q 80 (46, [some (.int v0), some (.long v1), none], [.int q6], (cW nw kp im ol sn sr tp (mW mk mg mt mc T)), 0, 0)
        have m7 : ∀ (m7_0 : Int32), m7_0 = (if q6 = (0:Int32) then (1:Int32) else (0:Int32)) → sxWP sc cl Q 80 (54, [some (.int v0), some (.long v1), none], [.int m7_0], (cW nw kp im ol sn sr tp (mW mk mg mt mc T)), 0, 0) := by
          intro m7_0 em7_0
          subst em7_0
          obtain rfl := Option.some.inj hf
          refine stp hm 1 (And.intro (by (repeat' split) <;> first | exact Or.inl rfl | exact Or.inr rfl) ?_)
          exact h
        refine stp hm 1 (bsn (c := q6 = (0:Int32)) (fun c8 => ?_) (fun c8 => ?_))
        · have c8 : ¬ q6 = (0:Int32) := c8
          refine stp hm 1 (?_ : sxWP sc cl Q 80 (54, [some (.int v0), some (.long v1), none], [.int (0:Int32)], (cW nw kp im ol sn sr tp (mW mk mg mt mc T)), 0, 0))
          exact m7 _ (by rw [if_neg c8])
        · have c8 : q6 = (0:Int32) := c8
          refine stp hm 2 (?_ : sxWP sc cl Q 80 (54, [some (.int v0), some (.long v1), none], [.int (1:Int32)], (cW nw kp im ol sn sr tp (mW mk mg mt mc T)), 0, 0))
          exact m7 _ (by rw [if_pos c8])
  · show sxWP sc cl Q 80 (4, [some (.int v0), some (.long v1), none], [], (cW nw kp im ol sn sr tp (mW mk mg mt mc T)), 0, 0)
    refine stp hm 4 (J_Long_bitCount_ok hE rfl ?_)
    show sxWP sc cl Q 80 (12, [some (.int v0), some (.long v1), none], [.int (J_Long_bitCount (v1 &&& (45460576917:Int64)))], (cW nw kp im ol sn sr tp (mW mk mg mt mc T)), 0, 0)
    refine stp hm 4 (J_Long_bitCount_ok hE rfl ?_)
    show sxWP sc cl Q 80 (18, [some (.int v0), some (.long v1), none], [.int (J_Long_bitCount v1), .int ((J_Long_bitCount (v1 &&& (45460576917:Int64))) * (2:Int32))], (cW nw kp im ol sn sr tp (mW mk mg mt mc T)), 0, 0)
    have m9 : ∀ (m9_0 : Int32), m9_0 = (if ((J_Long_bitCount (v1 &&& (45460576917:Int64))) * (2:Int32)) = (J_Long_bitCount v1) then (0:Int32) else (1:Int32)) → sxWP sc cl Q 80 (26, [some (.int v0), some (.long v1), none], [.int m9_0], (cW nw kp im ol sn sr tp (mW mk mg mt mc T)), 0, 0) := by
      intro m9_0 em9_0
      subst em9_0
      obtain rfl := Option.some.inj hf
      refine stp hm 1 (And.intro (by (repeat' split) <;> first | exact Or.inl rfl | exact Or.inr rfl) ?_)
      exact h
    refine stp hm 1 (bs (c := ((J_Long_bitCount (v1 &&& (45460576917:Int64))) * (2:Int32)) = (J_Long_bitCount v1)) (fun c10 => ?_) (fun c10 => ?_))
    · have c10 : ((J_Long_bitCount (v1 &&& (45460576917:Int64))) * (2:Int32)) = (J_Long_bitCount v1) := c10
      refine stp hm 1 (?_ : sxWP sc cl Q 80 (26, [some (.int v0), some (.long v1), none], [.int (0:Int32)], (cW nw kp im ol sn sr tp (mW mk mg mt mc T)), 0, 0))
      exact m9 _ (by rw [if_pos c10])
    · have c10 : ¬ ((J_Long_bitCount (v1 &&& (45460576917:Int64))) * (2:Int32)) = (J_Long_bitCount v1) := c10
      refine stp hm 2 (?_ : sxWP sc cl Q 80 (26, [some (.int v0), some (.long v1), none], [.int (1:Int32)], (cW nw kp im ol sn sr tp (mW mk mg mt mc T)), 0, 0))
      exact m9 _ (by rw [if_neg c10])

def X_barred (v1 : Int32) (nrg : Int64) (okn : Int32) (org : Int64) (osi : Int32) (oti : Int32) (ole : Int32) (oto : Int32) (oow : Int64) (oco : Int64) (ost : (Nat → Int32)) (owa : (Nat → Int32)) (owv : (Nat → Int32)) (owh : (Nat → Int32)) (olo : (Nat → Int32)) (ohi : (Nat → Int32)) (ora : (Nat → Int32)) (odi : (Nat → Int32)) (oqu : (Nat → Int32)) : Option (Int32 × Int32 × Int64 × Int32 × Int32 × Int32 × Int32 × Int64 × Int64 × (Nat → Int32) × (Nat → Int32) × (Nat → Int32) × (Nat → Int32) × (Nat → Int32) × (Nat → Int32) × (Nat → Int32) × (Nat → Int32)) := if (N_isKind v1) = (0:Int32) then (some ((-1:Int32), okn, org, osi, oti, ole, oto, oow, oco, ost, owa, owv, owh, olo, ohi, odi, oqu)) else (grd (decide (¬ (if v1 = (0:Int32) then (2:Int32) else (3:Int32)) = 0)) (if ((J_Long_bitCount nrg) - (J_Long_bitCount nrg) / (if v1 = (0:Int32) then (2:Int32) else (3:Int32)) * (if v1 = (0:Int32) then (2:Int32) else (3:Int32))) = (0:Int32) then (Option.bind (N_coloursBar v1 nrg) (fun q5 => if q5 = (0:Int32) then (Option.bind (O_look nrg okn org osi oti ole oto oow oco ost owa owv owh olo ohi ora odi oqu) (fun q7 => some (if v1 = (0:Int32) then (if q7.2.2.1 = (0:Int32) then (-5:Int32) else (if q7.2.2.2.1 = (0:Int32) then (2:Int32) else (-5:Int32))) else (-5:Int32), q7.1, q7.2.1, q7.2.2.1, q7.2.2.2.1, q7.2.2.2.2.1, q7.2.2.2.2.2.1, q7.2.2.2.2.2.2.1, q7.2.2.2.2.2.2.2.1, q7.2.2.2.2.2.2.2.2.1, q7.2.2.2.2.2.2.2.2.2.1, q7.2.2.2.2.2.2.2.2.2.2.1, q7.2.2.2.2.2.2.2.2.2.2.2.1, q7.2.2.2.2.2.2.2.2.2.2.2.2.1, q7.2.2.2.2.2.2.2.2.2.2.2.2.2.1, q7.2.2.2.2.2.2.2.2.2.2.2.2.2.2.1, q7.2.2.2.2.2.2.2.2.2.2.2.2.2.2.2))) else (some ((1:Int32), okn, org, osi, oti, ole, oto, oow, oco, ost, owa, owv, owh, olo, ohi, odi, oqu)))) else (some ((0:Int32), okn, org, osi, oti, ole, oto, oow, oco, ost, owa, owv, owh, olo, ohi, odi, oqu))))
set_option maxRecDepth 10000 in
theorem X_barred_ok {v1 : Int32} {q : (Int32 × Int32 × Int64 × Int32 × Int32 × Int32 × Int32 × Int64 × Int64 × (Nat → Int32) × (Nat → Int32) × (Nat → Int32) × (Nat → Int32) × (Nat → Int32) × (Nat → Int32) × (Nat → Int32) × (Nat → Int32))} (hc : call = sxE sc (d + 5)) (hf : X_barred v1 nw.1 ol.1 ol.2.1 ol.2.2.1 ol.2.2.2.1 ol.2.2.2.2.1 ol.2.2.2.2.2.1 ol.2.2.2.2.2.2.1 ol.2.2.2.2.2.2.2.1 ol.2.2.2.2.2.2.2.2.1 ol.2.2.2.2.2.2.2.2.2.1 ol.2.2.2.2.2.2.2.2.2.2.1 ol.2.2.2.2.2.2.2.2.2.2.2.1 ol.2.2.2.2.2.2.2.2.2.2.2.2.1 ol.2.2.2.2.2.2.2.2.2.2.2.2.2.1 ol.2.2.2.2.2.2.2.2.2.2.2.2.2.2.1 ol.2.2.2.2.2.2.2.2.2.2.2.2.2.2.2.1 ol.2.2.2.2.2.2.2.2.2.2.2.2.2.2.2.2 = some q) (h : Q (some (.int q.1)) (cW nw kp im (q.2.1, q.2.2.1, q.2.2.2.1, q.2.2.2.2.1, q.2.2.2.2.2.1, q.2.2.2.2.2.2.1, q.2.2.2.2.2.2.2.1, q.2.2.2.2.2.2.2.2.1, q.2.2.2.2.2.2.2.2.2.1, q.2.2.2.2.2.2.2.2.2.2.1, q.2.2.2.2.2.2.2.2.2.2.2.1, q.2.2.2.2.2.2.2.2.2.2.2.2.1, q.2.2.2.2.2.2.2.2.2.2.2.2.2.1, q.2.2.2.2.2.2.2.2.2.2.2.2.2.2.1, ol.2.2.2.2.2.2.2.2.2.2.2.2.2.2.1, q.2.2.2.2.2.2.2.2.2.2.2.2.2.2.2.1, q.2.2.2.2.2.2.2.2.2.2.2.2.2.2.2.2) sn sr tp (mW mk mg mt mc T))) : call 115 [.ref 0, .int v1] (cW nw kp im ol sn sr tp (mW mk mg mt mc T)) Q := by
  refine ent hc rfl (fun cl hE hm => ?_)
  unfold X_barred at hf
  refine stp hm 2 (N_isKind_ok hE rfl ?_)
  show sxWP sc cl Q 115 (4, [some (.ref 0), some (.int v1), none], [.int (N_isKind v1)], (cW nw kp im ol sn sr tp (mW mk mg mt mc T)), 0, 0)
  refine stp hm 1 (brn hf (fun c1 hf => ?_) (fun c1 hf => ?_))
  · show sxWP sc cl Q 115 (9, [some (.ref 0), some (.int v1), none], [], (cW nw kp im ol sn sr tp (mW mk mg mt mc T)), 0, 0)
    have m2 : ∀ (m2_0 : Int32), m2_0 = (if v1 = (0:Int32) then (2:Int32) else (3:Int32)) → sxWP sc cl Q 115 (18, [some (.ref 0), some (.int v1), none], [.int m2_0], (cW nw kp im ol sn sr tp (mW mk mg mt mc T)), 0, 0) := by
      intro m2_0 em2_0
      subst em2_0
      refine stp hm 5 (J_Long_bitCount_ok hE rfl ?_)
      show sxWP sc cl Q 115 (29, [some (.ref 0), some (.int v1), some (.int (if v1 = (0:Int32) then (2:Int32) else (3:Int32)))], [.int (J_Long_bitCount nw.1)], (cW nw kp im ol sn sr tp (mW mk mg mt mc T)), 0, 0)
      obtain ⟨g3, hf⟩ := grd_e hf
      refine stp hm 2 (And.intro (of_decide_eq_true g3) (?_ : sxWP sc cl Q 115 (31, [some (.ref 0), some (.int v1), some (.int (if v1 = (0:Int32) then (2:Int32) else (3:Int32)))], [.int ((J_Long_bitCount nw.1) - (J_Long_bitCount nw.1) / (if v1 = (0:Int32) then (2:Int32) else (3:Int32)) * (if v1 = (0:Int32) then (2:Int32) else (3:Int32)))], (cW nw kp im ol sn sr tp (mW mk mg mt mc T)), 0, 0)))
      refine stp hm 1 (br hf (fun c4 hf => ?_) (fun c4 hf => ?_))
      · show sxWP sc cl Q 115 (36, [some (.ref 0), some (.int v1), some (.int (if v1 = (0:Int32) then (2:Int32) else (3:Int32)))], [], (cW nw kp im ol sn sr tp (mW mk mg mt mc T)), 0, 0)
        obtain ⟨q5, hq5, hf⟩ := bnd hf
        refine stp hm 5 (N_coloursBar_ok hE hq5 ?_)
        show sxWP sc cl Q 115 (47, [some (.ref 0), some (.int v1), some (.int (if v1 = (0:Int32) then (2:Int32) else (3:Int32)))], [.int q5], (cW nw kp im ol sn sr tp (mW mk mg mt mc T)), 0, 0)
        refine stp hm 1 (br hf (fun c6 hf => ?_) (fun c6 hf => ?_))
        · show sxWP sc cl Q 115 (52, [some (.ref 0), some (.int v1), some (.int (if v1 = (0:Int32) then (2:Int32) else (3:Int32)))], [], (cW nw kp im ol sn sr tp (mW mk mg mt mc T)), 0, 0)
          obtain ⟨q7, hq7, hf⟩ := bnd hf
          refine stp hm 6 (O_look_ok hE hq7 ?_)
          show sxWP sc cl Q 115 (66, [some (.ref 0), some (.int v1), some (.int (if v1 = (0:Int32) then (2:Int32) else (3:Int32)))], [], (cW nw kp im (q7.1, q7.2.1, q7.2.2.1, q7.2.2.2.1, q7.2.2.2.2.1, q7.2.2.2.2.2.1, q7.2.2.2.2.2.2.1, q7.2.2.2.2.2.2.2.1, q7.2.2.2.2.2.2.2.2.1, q7.2.2.2.2.2.2.2.2.2.1, q7.2.2.2.2.2.2.2.2.2.2.1, q7.2.2.2.2.2.2.2.2.2.2.2.1, q7.2.2.2.2.2.2.2.2.2.2.2.2.1, q7.2.2.2.2.2.2.2.2.2.2.2.2.2.1, ol.2.2.2.2.2.2.2.2.2.2.2.2.2.2.1, q7.2.2.2.2.2.2.2.2.2.2.2.2.2.2.1, q7.2.2.2.2.2.2.2.2.2.2.2.2.2.2.2) sn sr tp (mW mk mg mt mc T)), 0, 0)
          have m8 : ∀ (m8_0 : Int32), m8_0 = (if v1 = (0:Int32) then (if q7.2.2.1 = (0:Int32) then (-5:Int32) else (if q7.2.2.2.1 = (0:Int32) then (2:Int32) else (-5:Int32))) else (-5:Int32)) → sxWP sc cl Q 115 (96, [some (.ref 0), some (.int v1), some (.int (if v1 = (0:Int32) then (2:Int32) else (3:Int32)))], [.int m8_0], (cW nw kp im (q7.1, q7.2.1, q7.2.2.1, q7.2.2.2.1, q7.2.2.2.2.1, q7.2.2.2.2.2.1, q7.2.2.2.2.2.2.1, q7.2.2.2.2.2.2.2.1, q7.2.2.2.2.2.2.2.2.1, q7.2.2.2.2.2.2.2.2.2.1, q7.2.2.2.2.2.2.2.2.2.2.1, q7.2.2.2.2.2.2.2.2.2.2.2.1, q7.2.2.2.2.2.2.2.2.2.2.2.2.1, q7.2.2.2.2.2.2.2.2.2.2.2.2.2.1, ol.2.2.2.2.2.2.2.2.2.2.2.2.2.2.1, q7.2.2.2.2.2.2.2.2.2.2.2.2.2.2.1, q7.2.2.2.2.2.2.2.2.2.2.2.2.2.2.2) sn sr tp (mW mk mg mt mc T)), 0, 0) := by
            intro m8_0 em8_0
            subst em8_0
            obtain rfl := Option.some.inj hf
            refine stp hm 1 ?_
            exact h
          refine stp hm 2 (bsn (c := v1 = (0:Int32)) (fun c9 => ?_) (fun c9 => ?_))
          · have c9 : ¬ v1 = (0:Int32) := c9
            refine stp hm 1 (?_ : sxWP sc cl Q 115 (96, [some (.ref 0), some (.int v1), some (.int (if v1 = (0:Int32) then (2:Int32) else (3:Int32)))], [.int (-5:Int32)], (cW nw kp im (q7.1, q7.2.1, q7.2.2.1, q7.2.2.2.1, q7.2.2.2.2.1, q7.2.2.2.2.2.1, q7.2.2.2.2.2.2.1, q7.2.2.2.2.2.2.2.1, q7.2.2.2.2.2.2.2.2.1, q7.2.2.2.2.2.2.2.2.2.1, q7.2.2.2.2.2.2.2.2.2.2.1, q7.2.2.2.2.2.2.2.2.2.2.2.1, q7.2.2.2.2.2.2.2.2.2.2.2.2.1, q7.2.2.2.2.2.2.2.2.2.2.2.2.2.1, ol.2.2.2.2.2.2.2.2.2.2.2.2.2.2.1, q7.2.2.2.2.2.2.2.2.2.2.2.2.2.2.1, q7.2.2.2.2.2.2.2.2.2.2.2.2.2.2.2) sn sr tp (mW mk mg mt mc T)), 0, 0))
            exact m8 _ (by rw [if_neg c9])
          · have c9 : v1 = (0:Int32) := c9
            refine stp hm 4 (bs (c := q7.2.2.1 = (0:Int32)) (fun c10 => ?_) (fun c10 => ?_))
            · have c10 : q7.2.2.1 = (0:Int32) := c10
              refine stp hm 1 (?_ : sxWP sc cl Q 115 (96, [some (.ref 0), some (.int v1), some (.int (if v1 = (0:Int32) then (2:Int32) else (3:Int32)))], [.int (-5:Int32)], (cW nw kp im (q7.1, q7.2.1, q7.2.2.1, q7.2.2.2.1, q7.2.2.2.2.1, q7.2.2.2.2.2.1, q7.2.2.2.2.2.2.1, q7.2.2.2.2.2.2.2.1, q7.2.2.2.2.2.2.2.2.1, q7.2.2.2.2.2.2.2.2.2.1, q7.2.2.2.2.2.2.2.2.2.2.1, q7.2.2.2.2.2.2.2.2.2.2.2.1, q7.2.2.2.2.2.2.2.2.2.2.2.2.1, q7.2.2.2.2.2.2.2.2.2.2.2.2.2.1, ol.2.2.2.2.2.2.2.2.2.2.2.2.2.2.1, q7.2.2.2.2.2.2.2.2.2.2.2.2.2.2.1, q7.2.2.2.2.2.2.2.2.2.2.2.2.2.2.2) sn sr tp (mW mk mg mt mc T)), 0, 0))
              exact m8 _ (by rw [if_pos c9, if_pos c10])
            · have c10 : ¬ q7.2.2.1 = (0:Int32) := c10
              refine stp hm 4 (bsn (c := q7.2.2.2.1 = (0:Int32)) (fun c11 => ?_) (fun c11 => ?_))
              · have c11 : ¬ q7.2.2.2.1 = (0:Int32) := c11
                refine stp hm 1 (?_ : sxWP sc cl Q 115 (96, [some (.ref 0), some (.int v1), some (.int (if v1 = (0:Int32) then (2:Int32) else (3:Int32)))], [.int (-5:Int32)], (cW nw kp im (q7.1, q7.2.1, q7.2.2.1, q7.2.2.2.1, q7.2.2.2.2.1, q7.2.2.2.2.2.1, q7.2.2.2.2.2.2.1, q7.2.2.2.2.2.2.2.1, q7.2.2.2.2.2.2.2.2.1, q7.2.2.2.2.2.2.2.2.2.1, q7.2.2.2.2.2.2.2.2.2.2.1, q7.2.2.2.2.2.2.2.2.2.2.2.1, q7.2.2.2.2.2.2.2.2.2.2.2.2.1, q7.2.2.2.2.2.2.2.2.2.2.2.2.2.1, ol.2.2.2.2.2.2.2.2.2.2.2.2.2.2.1, q7.2.2.2.2.2.2.2.2.2.2.2.2.2.2.1, q7.2.2.2.2.2.2.2.2.2.2.2.2.2.2.2) sn sr tp (mW mk mg mt mc T)), 0, 0))
                exact m8 _ (by rw [if_pos c9, if_neg c10, if_neg c11])
              · have c11 : q7.2.2.2.1 = (0:Int32) := c11
                refine stp hm 2 (?_ : sxWP sc cl Q 115 (96, [some (.ref 0), some (.int v1), some (.int (if v1 = (0:Int32) then (2:Int32) else (3:Int32)))], [.int (2:Int32)], (cW nw kp im (q7.1, q7.2.1, q7.2.2.1, q7.2.2.2.1, q7.2.2.2.2.1, q7.2.2.2.2.2.1, q7.2.2.2.2.2.2.1, q7.2.2.2.2.2.2.2.1, q7.2.2.2.2.2.2.2.2.1, q7.2.2.2.2.2.2.2.2.2.1, q7.2.2.2.2.2.2.2.2.2.2.1, q7.2.2.2.2.2.2.2.2.2.2.2.1, q7.2.2.2.2.2.2.2.2.2.2.2.2.1, q7.2.2.2.2.2.2.2.2.2.2.2.2.2.1, ol.2.2.2.2.2.2.2.2.2.2.2.2.2.2.1, q7.2.2.2.2.2.2.2.2.2.2.2.2.2.2.1, q7.2.2.2.2.2.2.2.2.2.2.2.2.2.2.2) sn sr tp (mW mk mg mt mc T)), 0, 0))
                exact m8 _ (by rw [if_pos c9, if_neg c10, if_pos c11])
        · show sxWP sc cl Q 115 (50, [some (.ref 0), some (.int v1), some (.int (if v1 = (0:Int32) then (2:Int32) else (3:Int32)))], [], (cW nw kp im ol sn sr tp (mW mk mg mt mc T)), 0, 0)
          obtain rfl := Option.some.inj hf
          refine stp hm 2 ?_
          exact h
      · show sxWP sc cl Q 115 (34, [some (.ref 0), some (.int v1), some (.int (if v1 = (0:Int32) then (2:Int32) else (3:Int32)))], [], (cW nw kp im ol sn sr tp (mW mk mg mt mc T)), 0, 0)
        obtain rfl := Option.some.inj hf
        refine stp hm 2 ?_
        exact h
    refine stp hm 2 (bsn (c := v1 = (0:Int32)) (fun c12 => ?_) (fun c12 => ?_))
    · have c12 : ¬ v1 = (0:Int32) := c12
      refine stp hm 1 (?_ : sxWP sc cl Q 115 (18, [some (.ref 0), some (.int v1), none], [.int (3:Int32)], (cW nw kp im ol sn sr tp (mW mk mg mt mc T)), 0, 0))
      exact m2 _ (by rw [if_neg c12])
    · have c12 : v1 = (0:Int32) := c12
      refine stp hm 2 (?_ : sxWP sc cl Q 115 (18, [some (.ref 0), some (.int v1), none], [.int (2:Int32)], (cW nw kp im ol sn sr tp (mW mk mg mt mc T)), 0, 0))
      exact m2 _ (by rw [if_pos c12])
  · show sxWP sc cl Q 115 (7, [some (.ref 0), some (.int v1), none], [], (cW nw kp im ol sn sr tp (mW mk mg mt mc T)), 0, 0)
    obtain rfl := Option.some.inj hf
    refine stp hm 2 ?_
    exact h
end PT
