/-! methods as functions (printed by wip/whole/dec) -/
section PT
variable {sc : sxS} {d : Nat} {Q : sxR} {hp : sxH} {call cl : sxX} {nw kp : tSt} {im : Int32} {ol : tOl} {sn : tSn} {sr : tSc} {tp : Nat → tTp} {mk : tMk} {mg : tMg} {mt : tMt} {mc : tMc} {T : sxH}

def R_copy_4_s7   (kss : Int32) (kso : (Nat → Int32)) (ksq : (Nat → Int32)) (s : (Int32 × Int32 × (Nat → Int32) × (Nat → Int32))) : Option ((Int32 × Int32 × (Nat → Int32) × (Nat → Int32)) ⊕ (Int32 × (Nat → Int32) × (Nat → Int32))) := if kss ≤ s.1 then (some (Sum.inr (s.2.1, s.2.2.1, s.2.2.2))) else (Option.bind (R_one s.1 kso) (fun q2 => Option.bind (R_other s.1 ksq) (fun q3 => Option.bind (R_append q2 q3 s.2.1 s.2.2.1 s.2.2.2) (fun q4 => some (Sum.inl (s.1 + (1:Int32), q4.2.1, q4.2.2.1, q4.2.2.2))))))
def R_copy_4  (nso : (Nat → Int32)) (nsq : (Nat → Int32)) (kss : Int32) (kso : (Nat → Int32)) (ksq : (Nat → Int32)) : Option (Int32 × (Nat → Int32) × (Nat → Int32)) := Option.bind (R_emptied) (fun q1 => Option.bind (wh (R_copy_4_s7 kss kso ksq) FU ((0:Int32), q1.2, nso, nsq)) (fun w2 => some (w2.1, w2.2.1, w2.2.2)))
set_option maxRecDepth 10000 in
theorem R_copy_4_l7    (hE : cl = sxE sc (d + 1)) (hm : CallMono cl) : ∀ (n : Nat) (s : (Int32 × Int32 × (Nat → Int32) × (Nat → Int32))) (r : (Int32 × (Nat → Int32) × (Nat → Int32))), wh (R_copy_4_s7 kp.2.2.2.2.1.1 kp.2.2.2.2.1.2.1 kp.2.2.2.2.1.2.2) n s = some r → (∀ (z0 z1 z2 : Option Value), sxWP sc cl Q 50 (36, [z0, z1, z2], [], (cW (nw.1, nw.2.1, nw.2.2.1, nw.2.2.2.1, (r.1, r.2.1, r.2.2), nw.2.2.2.2.2.1, nw.2.2.2.2.2.2) kp im ol sn sr tp (mW mk mg mt mc T)), 0, 0)) → sxWP sc cl Q 50 (7, [some (.ref 6), some (.ref 20), some (.int s.1)], [], (cW (nw.1, nw.2.1, nw.2.2.1, nw.2.2.2.1, (s.2.1, s.2.2.1, s.2.2.2), nw.2.2.2.2.2.1, nw.2.2.2.2.2.2) kp im ol sn sr tp (mW mk mg mt mc T)), 0, 0) := by
  refine wh_run (A := fun (s : (Int32 × Int32 × (Nat → Int32) × (Nat → Int32))) => sxWP sc cl Q 50 (7, [some (.ref 6), some (.ref 20), some (.int s.1)], [], (cW (nw.1, nw.2.1, nw.2.2.1, nw.2.2.2.1, (s.2.1, s.2.2.1, s.2.2.2), nw.2.2.2.2.2.1, nw.2.2.2.2.2.2) kp im ol sn sr tp (mW mk mg mt mc T)), 0, 0)) (B := fun (r : (Int32 × (Nat → Int32) × (Nat → Int32))) => ∀ (z0 z1 z2 : Option Value), sxWP sc cl Q 50 (36, [z0, z1, z2], [], (cW (nw.1, nw.2.1, nw.2.2.1, nw.2.2.2.1, (r.1, r.2.1, r.2.2), nw.2.2.2.2.2.1, nw.2.2.2.2.2.2) kp im ol sn sr tp (mW mk mg mt mc T)), 0, 0)) (fun s x hf hA hB => ?_)
  unfold R_copy_4_s7 at hf
  refine stp hm 4 (br hf (fun c1 hf => ?_) (fun c1 hf => ?_))
  · show sxWP sc cl Q 50 (36, [some (.ref 6), some (.ref 20), some (.int s.1)], [], (cW (nw.1, nw.2.1, nw.2.2.1, nw.2.2.2.1, (s.2.1, s.2.2.1, s.2.2.2), nw.2.2.2.2.2.1, nw.2.2.2.2.2.2) kp im ol sn sr tp (mW mk mg mt mc T)), 0, 0)
    obtain rfl := Option.some.inj hf
    exact hB _ rfl _ _ _
  · show sxWP sc cl Q 50 (15, [some (.ref 6), some (.ref 20), some (.int s.1)], [], (cW (nw.1, nw.2.1, nw.2.2.1, nw.2.2.2.1, (s.2.1, s.2.2.1, s.2.2.2), nw.2.2.2.2.2.1, nw.2.2.2.2.2.2) kp im ol sn sr tp (mW mk mg mt mc T)), 0, 0)
    obtain ⟨q2, hq2, hf⟩ := bnd hf
    refine stp hm 4 (R_one_4_ok hE hq2 ?_)
    show sxWP sc cl Q 50 (21, [some (.ref 6), some (.ref 20), some (.int s.1)], [.int q2, .ref 6], (cW (nw.1, nw.2.1, nw.2.2.1, nw.2.2.2.1, (s.2.1, s.2.2.1, s.2.2.2), nw.2.2.2.2.2.1, nw.2.2.2.2.2.2) kp im ol sn sr tp (mW mk mg mt mc T)), 0, 0)
    obtain ⟨q3, hq3, hf⟩ := bnd hf
    refine stp hm 3 (R_other_4_ok hE hq3 ?_)
    show sxWP sc cl Q 50 (26, [some (.ref 6), some (.ref 20), some (.int s.1)], [.int q3, .int q2, .ref 6], (cW (nw.1, nw.2.1, nw.2.2.1, nw.2.2.2.1, (s.2.1, s.2.2.1, s.2.2.2), nw.2.2.2.2.2.1, nw.2.2.2.2.2.2) kp im ol sn sr tp (mW mk mg mt mc T)), 0, 0)
    obtain ⟨q4, hq4, hf⟩ := bnd hf
    refine stp hm 1 (R_append_ok hE hq4 ?_)
    show sxWP sc cl Q 50 (29, [some (.ref 6), some (.ref 20), some (.int s.1)], [.int q4.1], (cW (nw.1, nw.2.1, nw.2.2.1, nw.2.2.2.1, (q4.2.1, q4.2.2.1, q4.2.2.2), nw.2.2.2.2.2.1, nw.2.2.2.2.2.2) kp im ol sn sr tp (mW mk mg mt mc T)), 0, 0)
    obtain rfl := Option.some.inj hf
    refine stp hm 3 (?_ : sxWP sc cl Q 50 (7, [some (.ref 6), some (.ref 20), some (.int (s.1 + (1:Int32)))], [], (cW (nw.1, nw.2.1, nw.2.2.1, nw.2.2.2.1, (q4.2.1, q4.2.2.1, q4.2.2.2), nw.2.2.2.2.2.1, nw.2.2.2.2.2.2) kp im ol sn sr tp (mW mk mg mt mc T)), 0, 0))
    exact hA _ rfl
set_option maxRecDepth 10000 in
theorem R_copy_4_ok  {q : (Int32 × (Nat → Int32) × (Nat → Int32))} (hc : call = sxE sc (d + 2)) (hf : R_copy_4 nw.2.2.2.2.1.2.1 nw.2.2.2.2.1.2.2 kp.2.2.2.2.1.1 kp.2.2.2.2.1.2.1 kp.2.2.2.2.1.2.2 = some q) (h : Q none (cW (nw.1, nw.2.1, nw.2.2.1, nw.2.2.2.1, (q.1, q.2.1, q.2.2), nw.2.2.2.2.2.1, nw.2.2.2.2.2.2) kp im ol sn sr tp (mW mk mg mt mc T))) : call 50 [.ref 6, .ref 20] (cW nw kp im ol sn sr tp (mW mk mg mt mc T)) Q := by
  refine ent hc rfl (fun cl hE hm => ?_)
  unfold R_copy_4 at hf
  obtain ⟨q1, hq1, hf⟩ := bnd hf
  refine stp hm 2 (R_emptied_ok hE hq1 ?_)
  show sxWP sc cl Q 50 (4, [some (.ref 6), some (.ref 20), none], [.int q1.1], (cW (nw.1, nw.2.1, nw.2.2.1, nw.2.2.2.1, (q1.2, nw.2.2.2.2.1.2.1, nw.2.2.2.2.1.2.2), nw.2.2.2.2.2.1, nw.2.2.2.2.2.2) kp im ol sn sr tp (mW mk mg mt mc T)), 0, 0)
  obtain ⟨w2, hw2, hf⟩ := bnd hf
  refine stp hm 3 (?_ : sxWP sc cl Q 50 (7, [some (.ref 6), some (.ref 20), some (.int (0:Int32))], [], (cW (nw.1, nw.2.1, nw.2.2.1, nw.2.2.2.1, (q1.2, nw.2.2.2.2.1.2.1, nw.2.2.2.2.1.2.2), nw.2.2.2.2.2.1, nw.2.2.2.2.2.2) kp im ol sn sr tp (mW mk mg mt mc T)), 0, 0))
  refine R_copy_4_l7 hE hm _ _ _ hw2 ?_
  intro w2_z0 w2_z1 w2_z2
  show sxWP sc cl Q 50 (36, [w2_z0, w2_z1, w2_z2], [], (cW (nw.1, nw.2.1, nw.2.2.1, nw.2.2.2.1, (w2.1, w2.2.1, w2.2.2), nw.2.2.2.2.2.1, nw.2.2.2.2.2.2) kp im ol sn sr tp (mW mk mg mt mc T)), 0, 0)
  obtain rfl := Option.some.inj hf
  refine stp hm 1 ?_
  exact h

set_option maxRecDepth 10000 in
theorem R_one_5_ok {v1 : Int32} {q : Int32} (hc : call = sxE sc (d + 1)) (hf : R_one_2 v1 kp.2.2.2.2.2.1.2.1 = some q) (h : Q (some (.int q)) (cW nw kp im ol sn sr tp (mW mk mg mt mc T))) : call 48 [.ref 23, .int v1] (cW nw kp im ol sn sr tp (mW mk mg mt mc T)) Q := by
  refine ent hc rfl (fun cl hE hm => ?_)
  have J23 : ∀ (k0 : Int32) (z0 : Option Value) (z1 : Option Value), R_one_2_j23 k0 = some q → sxWP sc cl Q 48 (23, [z0, z1], [.int k0], (cW nw kp im ol sn sr tp (mW mk mg mt mc T)), 0, 0) := by
    intro k0 z0 z1 hf
    unfold R_one_2_j23 at hf
    obtain rfl := Option.some.inj hf
    refine stp hm 1 ?_
    exact h
  have J22 : ∀  (z0 : Option Value) (z1 : Option Value), R_one_2_j22 = some q → sxWP sc cl Q 48 (22, [z0, z1], [], (cW nw kp im ol sn sr tp (mW mk mg mt mc T)), 0, 0) := by
    intro z0 z1 hf
    unfold R_one_2_j22 at hf
    refine stp hm 1 (?_ : sxWP sc cl Q 48 (23, [z0, z1], [.int (0:Int32)], (cW nw kp im ol sn sr tp (mW mk mg mt mc T)), 0, 0))
    exact J23 _ _ _ hf
  unfold R_one_2 at hf
  refine stp hm 2 (br hf (fun c1 hf => ?_) (fun c1 hf => ?_))
  · show sxWP sc cl Q 48 (22, [some (.ref 23), some (.int v1)], [], (cW nw kp im ol sn sr tp (mW mk mg mt mc T)), 0, 0)
    exact J22 _ _ hf
  · show sxWP sc cl Q 48 (4, [some (.ref 23), some (.int v1)], [], (cW nw kp im ol sn sr tp (mW mk mg mt mc T)), 0, 0)
    refine stp hm 5 (br hf (fun c2 hf => ?_) (fun c2 hf => ?_))
    · show sxWP sc cl Q 48 (22, [some (.ref 23), some (.int v1)], [], (cW nw kp im ol sn sr tp (mW mk mg mt mc T)), 0, 0)
      exact J22 _ _ hf
    · show sxWP sc cl Q 48 (13, [some (.ref 23), some (.int v1)], [], (cW nw kp im ol sn sr tp (mW mk mg mt mc T)), 0, 0)
      obtain ⟨g3, hf⟩ := grd_e hf
      refine stp hm 4 (And.intro (gi_in g3) (?_ : sxWP sc cl Q 48 (19, [some (.ref 23), some (.int v1)], [.int (kp.2.2.2.2.2.1.2.1 v1.toNatClampNeg)], (cW nw kp im ol sn sr tp (mW mk mg mt mc T)), 0, 0)))
      refine stp hm 1 (?_ : sxWP sc cl Q 48 (23, [some (.ref 23), some (.int v1)], [.int (kp.2.2.2.2.2.1.2.1 v1.toNatClampNeg)], (cW nw kp im ol sn sr tp (mW mk mg mt mc T)), 0, 0))
      exact J23 _ _ _ hf

set_option maxRecDepth 10000 in
theorem R_other_5_ok {v1 : Int32} {q : Int32} (hc : call = sxE sc (d + 1)) (hf : R_other_2 v1 kp.2.2.2.2.2.1.2.2 = some q) (h : Q (some (.int q)) (cW nw kp im ol sn sr tp (mW mk mg mt mc T))) : call 49 [.ref 23, .int v1] (cW nw kp im ol sn sr tp (mW mk mg mt mc T)) Q := by
  refine ent hc rfl (fun cl hE hm => ?_)
  have J23 : ∀ (k0 : Int32) (z0 : Option Value) (z1 : Option Value), R_other_2_j23 k0 = some q → sxWP sc cl Q 49 (23, [z0, z1], [.int k0], (cW nw kp im ol sn sr tp (mW mk mg mt mc T)), 0, 0) := by
    intro k0 z0 z1 hf
    unfold R_other_2_j23 at hf
    obtain rfl := Option.some.inj hf
    refine stp hm 1 ?_
    exact h
  have J22 : ∀  (z0 : Option Value) (z1 : Option Value), R_other_2_j22 = some q → sxWP sc cl Q 49 (22, [z0, z1], [], (cW nw kp im ol sn sr tp (mW mk mg mt mc T)), 0, 0) := by
    intro z0 z1 hf
    unfold R_other_2_j22 at hf
    refine stp hm 1 (?_ : sxWP sc cl Q 49 (23, [z0, z1], [.int (0:Int32)], (cW nw kp im ol sn sr tp (mW mk mg mt mc T)), 0, 0))
    exact J23 _ _ _ hf
  unfold R_other_2 at hf
  refine stp hm 2 (br hf (fun c1 hf => ?_) (fun c1 hf => ?_))
  · show sxWP sc cl Q 49 (22, [some (.ref 23), some (.int v1)], [], (cW nw kp im ol sn sr tp (mW mk mg mt mc T)), 0, 0)
    exact J22 _ _ hf
  · show sxWP sc cl Q 49 (4, [some (.ref 23), some (.int v1)], [], (cW nw kp im ol sn sr tp (mW mk mg mt mc T)), 0, 0)
    refine stp hm 5 (br hf (fun c2 hf => ?_) (fun c2 hf => ?_))
    · show sxWP sc cl Q 49 (22, [some (.ref 23), some (.int v1)], [], (cW nw kp im ol sn sr tp (mW mk mg mt mc T)), 0, 0)
      exact J22 _ _ hf
    · show sxWP sc cl Q 49 (13, [some (.ref 23), some (.int v1)], [], (cW nw kp im ol sn sr tp (mW mk mg mt mc T)), 0, 0)
      obtain ⟨g3, hf⟩ := grd_e hf
      refine stp hm 4 (And.intro (gi_in g3) (?_ : sxWP sc cl Q 49 (19, [some (.ref 23), some (.int v1)], [.int (kp.2.2.2.2.2.1.2.2 v1.toNatClampNeg)], (cW nw kp im ol sn sr tp (mW mk mg mt mc T)), 0, 0)))
      refine stp hm 1 (?_ : sxWP sc cl Q 49 (23, [some (.ref 23), some (.int v1)], [.int (kp.2.2.2.2.2.1.2.2 v1.toNatClampNeg)], (cW nw kp im ol sn sr tp (mW mk mg mt mc T)), 0, 0))
      exact J23 _ _ _ hf

def R_copy_5_s7   (kes : Int32) (keo : (Nat → Int32)) (keq : (Nat → Int32)) (s : (Int32 × Int32 × (Nat → Int32) × (Nat → Int32))) : Option ((Int32 × Int32 × (Nat → Int32) × (Nat → Int32)) ⊕ (Int32 × (Nat → Int32) × (Nat → Int32))) := if kes ≤ s.1 then (some (Sum.inr (s.2.1, s.2.2.1, s.2.2.2))) else (Option.bind (R_one_2 s.1 keo) (fun q2 => Option.bind (R_other_2 s.1 keq) (fun q3 => Option.bind (R_append_2 q2 q3 s.2.1 s.2.2.1 s.2.2.2) (fun q4 => some (Sum.inl (s.1 + (1:Int32), q4.2.1, q4.2.2.1, q4.2.2.2))))))
def R_copy_5  (neo : (Nat → Int32)) (neq : (Nat → Int32)) (kes : Int32) (keo : (Nat → Int32)) (keq : (Nat → Int32)) : Option (Int32 × (Nat → Int32) × (Nat → Int32)) := Option.bind (R_emptied) (fun q1 => Option.bind (wh (R_copy_5_s7 kes keo keq) FU ((0:Int32), q1.2, neo, neq)) (fun w2 => some (w2.1, w2.2.1, w2.2.2)))
set_option maxRecDepth 10000 in
theorem R_copy_5_l7    (hE : cl = sxE sc (d + 1)) (hm : CallMono cl) : ∀ (n : Nat) (s : (Int32 × Int32 × (Nat → Int32) × (Nat → Int32))) (r : (Int32 × (Nat → Int32) × (Nat → Int32))), wh (R_copy_5_s7 kp.2.2.2.2.2.1.1 kp.2.2.2.2.2.1.2.1 kp.2.2.2.2.2.1.2.2) n s = some r → (∀ (z0 z1 z2 : Option Value), sxWP sc cl Q 50 (36, [z0, z1, z2], [], (cW (nw.1, nw.2.1, nw.2.2.1, nw.2.2.2.1, nw.2.2.2.2.1, (r.1, r.2.1, r.2.2), nw.2.2.2.2.2.2) kp im ol sn sr tp (mW mk mg mt mc T)), 0, 0)) → sxWP sc cl Q 50 (7, [some (.ref 9), some (.ref 23), some (.int s.1)], [], (cW (nw.1, nw.2.1, nw.2.2.1, nw.2.2.2.1, nw.2.2.2.2.1, (s.2.1, s.2.2.1, s.2.2.2), nw.2.2.2.2.2.2) kp im ol sn sr tp (mW mk mg mt mc T)), 0, 0) := by
  refine wh_run (A := fun (s : (Int32 × Int32 × (Nat → Int32) × (Nat → Int32))) => sxWP sc cl Q 50 (7, [some (.ref 9), some (.ref 23), some (.int s.1)], [], (cW (nw.1, nw.2.1, nw.2.2.1, nw.2.2.2.1, nw.2.2.2.2.1, (s.2.1, s.2.2.1, s.2.2.2), nw.2.2.2.2.2.2) kp im ol sn sr tp (mW mk mg mt mc T)), 0, 0)) (B := fun (r : (Int32 × (Nat → Int32) × (Nat → Int32))) => ∀ (z0 z1 z2 : Option Value), sxWP sc cl Q 50 (36, [z0, z1, z2], [], (cW (nw.1, nw.2.1, nw.2.2.1, nw.2.2.2.1, nw.2.2.2.2.1, (r.1, r.2.1, r.2.2), nw.2.2.2.2.2.2) kp im ol sn sr tp (mW mk mg mt mc T)), 0, 0)) (fun s x hf hA hB => ?_)
  unfold R_copy_5_s7 at hf
  refine stp hm 4 (br hf (fun c1 hf => ?_) (fun c1 hf => ?_))
  · show sxWP sc cl Q 50 (36, [some (.ref 9), some (.ref 23), some (.int s.1)], [], (cW (nw.1, nw.2.1, nw.2.2.1, nw.2.2.2.1, nw.2.2.2.2.1, (s.2.1, s.2.2.1, s.2.2.2), nw.2.2.2.2.2.2) kp im ol sn sr tp (mW mk mg mt mc T)), 0, 0)
    obtain rfl := Option.some.inj hf
    exact hB _ rfl _ _ _
  · show sxWP sc cl Q 50 (15, [some (.ref 9), some (.ref 23), some (.int s.1)], [], (cW (nw.1, nw.2.1, nw.2.2.1, nw.2.2.2.1, nw.2.2.2.2.1, (s.2.1, s.2.2.1, s.2.2.2), nw.2.2.2.2.2.2) kp im ol sn sr tp (mW mk mg mt mc T)), 0, 0)
    obtain ⟨q2, hq2, hf⟩ := bnd hf
    refine stp hm 4 (R_one_5_ok hE hq2 ?_)
    show sxWP sc cl Q 50 (21, [some (.ref 9), some (.ref 23), some (.int s.1)], [.int q2, .ref 9], (cW (nw.1, nw.2.1, nw.2.2.1, nw.2.2.2.1, nw.2.2.2.2.1, (s.2.1, s.2.2.1, s.2.2.2), nw.2.2.2.2.2.2) kp im ol sn sr tp (mW mk mg mt mc T)), 0, 0)
    obtain ⟨q3, hq3, hf⟩ := bnd hf
    refine stp hm 3 (R_other_5_ok hE hq3 ?_)
    show sxWP sc cl Q 50 (26, [some (.ref 9), some (.ref 23), some (.int s.1)], [.int q3, .int q2, .ref 9], (cW (nw.1, nw.2.1, nw.2.2.1, nw.2.2.2.1, nw.2.2.2.2.1, (s.2.1, s.2.2.1, s.2.2.2), nw.2.2.2.2.2.2) kp im ol sn sr tp (mW mk mg mt mc T)), 0, 0)
    obtain ⟨q4, hq4, hf⟩ := bnd hf
    refine stp hm 1 (R_append_2_ok hE hq4 ?_)
    show sxWP sc cl Q 50 (29, [some (.ref 9), some (.ref 23), some (.int s.1)], [.int q4.1], (cW (nw.1, nw.2.1, nw.2.2.1, nw.2.2.2.1, nw.2.2.2.2.1, (q4.2.1, q4.2.2.1, q4.2.2.2), nw.2.2.2.2.2.2) kp im ol sn sr tp (mW mk mg mt mc T)), 0, 0)
    obtain rfl := Option.some.inj hf
    refine stp hm 3 (?_ : sxWP sc cl Q 50 (7, [some (.ref 9), some (.ref 23), some (.int (s.1 + (1:Int32)))], [], (cW (nw.1, nw.2.1, nw.2.2.1, nw.2.2.2.1, nw.2.2.2.2.1, (q4.2.1, q4.2.2.1, q4.2.2.2), nw.2.2.2.2.2.2) kp im ol sn sr tp (mW mk mg mt mc T)), 0, 0))
    exact hA _ rfl
set_option maxRecDepth 10000 in
theorem R_copy_5_ok  {q : (Int32 × (Nat → Int32) × (Nat → Int32))} (hc : call = sxE sc (d + 2)) (hf : R_copy_5 nw.2.2.2.2.2.1.2.1 nw.2.2.2.2.2.1.2.2 kp.2.2.2.2.2.1.1 kp.2.2.2.2.2.1.2.1 kp.2.2.2.2.2.1.2.2 = some q) (h : Q none (cW (nw.1, nw.2.1, nw.2.2.1, nw.2.2.2.1, nw.2.2.2.2.1, (q.1, q.2.1, q.2.2), nw.2.2.2.2.2.2) kp im ol sn sr tp (mW mk mg mt mc T))) : call 50 [.ref 9, .ref 23] (cW nw kp im ol sn sr tp (mW mk mg mt mc T)) Q := by
  refine ent hc rfl (fun cl hE hm => ?_)
  unfold R_copy_5 at hf
  obtain ⟨q1, hq1, hf⟩ := bnd hf
  refine stp hm 2 (R_emptied_2_ok hE hq1 ?_)
  show sxWP sc cl Q 50 (4, [some (.ref 9), some (.ref 23), none], [.int q1.1], (cW (nw.1, nw.2.1, nw.2.2.1, nw.2.2.2.1, nw.2.2.2.2.1, (q1.2, nw.2.2.2.2.2.1.2.1, nw.2.2.2.2.2.1.2.2), nw.2.2.2.2.2.2) kp im ol sn sr tp (mW mk mg mt mc T)), 0, 0)
  obtain ⟨w2, hw2, hf⟩ := bnd hf
  refine stp hm 3 (?_ : sxWP sc cl Q 50 (7, [some (.ref 9), some (.ref 23), some (.int (0:Int32))], [], (cW (nw.1, nw.2.1, nw.2.2.1, nw.2.2.2.1, nw.2.2.2.2.1, (q1.2, nw.2.2.2.2.2.1.2.1, nw.2.2.2.2.2.1.2.2), nw.2.2.2.2.2.2) kp im ol sn sr tp (mW mk mg mt mc T)), 0, 0))
  refine R_copy_5_l7 hE hm _ _ _ hw2 ?_
  intro w2_z0 w2_z1 w2_z2
  show sxWP sc cl Q 50 (36, [w2_z0, w2_z1, w2_z2], [], (cW (nw.1, nw.2.1, nw.2.2.1, nw.2.2.2.1, nw.2.2.2.2.1, (w2.1, w2.2.1, w2.2.2), nw.2.2.2.2.2.2) kp im ol sn sr tp (mW mk mg mt mc T)), 0, 0)
  obtain rfl := Option.some.inj hf
  refine stp hm 1 ?_
  exact h

set_option maxRecDepth 10000 in
theorem R_one_6_ok {v1 : Int32} {q : Int32} (hc : call = sxE sc (d + 1)) (hf : R_one_2 v1 kp.2.2.2.2.2.2.2.1 = some q) (h : Q (some (.int q)) (cW nw kp im ol sn sr tp (mW mk mg mt mc T))) : call 48 [.ref 26, .int v1] (cW nw kp im ol sn sr tp (mW mk mg mt mc T)) Q := by
  refine ent hc rfl (fun cl hE hm => ?_)
  have J23 : ∀ (k0 : Int32) (z0 : Option Value) (z1 : Option Value), R_one_2_j23 k0 = some q → sxWP sc cl Q 48 (23, [z0, z1], [.int k0], (cW nw kp im ol sn sr tp (mW mk mg mt mc T)), 0, 0) := by
    intro k0 z0 z1 hf
    unfold R_one_2_j23 at hf
    obtain rfl := Option.some.inj hf
    refine stp hm 1 ?_
    exact h
  have J22 : ∀  (z0 : Option Value) (z1 : Option Value), R_one_2_j22 = some q → sxWP sc cl Q 48 (22, [z0, z1], [], (cW nw kp im ol sn sr tp (mW mk mg mt mc T)), 0, 0) := by
    intro z0 z1 hf
    unfold R_one_2_j22 at hf
    refine stp hm 1 (?_ : sxWP sc cl Q 48 (23, [z0, z1], [.int (0:Int32)], (cW nw kp im ol sn sr tp (mW mk mg mt mc T)), 0, 0))
    exact J23 _ _ _ hf
  unfold R_one_2 at hf
  refine stp hm 2 (br hf (fun c1 hf => ?_) (fun c1 hf => ?_))
  · show sxWP sc cl Q 48 (22, [some (.ref 26), some (.int v1)], [], (cW nw kp im ol sn sr tp (mW mk mg mt mc T)), 0, 0)
    exact J22 _ _ hf
  · show sxWP sc cl Q 48 (4, [some (.ref 26), some (.int v1)], [], (cW nw kp im ol sn sr tp (mW mk mg mt mc T)), 0, 0)
    refine stp hm 5 (br hf (fun c2 hf => ?_) (fun c2 hf => ?_))
    · show sxWP sc cl Q 48 (22, [some (.ref 26), some (.int v1)], [], (cW nw kp im ol sn sr tp (mW mk mg mt mc T)), 0, 0)
      exact J22 _ _ hf
    · show sxWP sc cl Q 48 (13, [some (.ref 26), some (.int v1)], [], (cW nw kp im ol sn sr tp (mW mk mg mt mc T)), 0, 0)
      obtain ⟨g3, hf⟩ := grd_e hf
      refine stp hm 4 (And.intro (gi_in g3) (?_ : sxWP sc cl Q 48 (19, [some (.ref 26), some (.int v1)], [.int (kp.2.2.2.2.2.2.2.1 v1.toNatClampNeg)], (cW nw kp im ol sn sr tp (mW mk mg mt mc T)), 0, 0)))
      refine stp hm 1 (?_ : sxWP sc cl Q 48 (23, [some (.ref 26), some (.int v1)], [.int (kp.2.2.2.2.2.2.2.1 v1.toNatClampNeg)], (cW nw kp im ol sn sr tp (mW mk mg mt mc T)), 0, 0))
      exact J23 _ _ _ hf

set_option maxRecDepth 10000 in
theorem R_other_6_ok {v1 : Int32} {q : Int32} (hc : call = sxE sc (d + 1)) (hf : R_other_2 v1 kp.2.2.2.2.2.2.2.2 = some q) (h : Q (some (.int q)) (cW nw kp im ol sn sr tp (mW mk mg mt mc T))) : call 49 [.ref 26, .int v1] (cW nw kp im ol sn sr tp (mW mk mg mt mc T)) Q := by
  refine ent hc rfl (fun cl hE hm => ?_)
  have J23 : ∀ (k0 : Int32) (z0 : Option Value) (z1 : Option Value), R_other_2_j23 k0 = some q → sxWP sc cl Q 49 (23, [z0, z1], [.int k0], (cW nw kp im ol sn sr tp (mW mk mg mt mc T)), 0, 0) := by
    intro k0 z0 z1 hf
    unfold R_other_2_j23 at hf
    obtain rfl := Option.some.inj hf
    refine stp hm 1 ?_
    exact h
  have J22 : ∀  (z0 : Option Value) (z1 : Option Value), R_other_2_j22 = some q → sxWP sc cl Q 49 (22, [z0, z1], [], (cW nw kp im ol sn sr tp (mW mk mg mt mc T)), 0, 0) := by
    intro z0 z1 hf
    unfold R_other_2_j22 at hf
    refine stp hm 1 (?_ : sxWP sc cl Q 49 (23, [z0, z1], [.int (0:Int32)], (cW nw kp im ol sn sr tp (mW mk mg mt mc T)), 0, 0))
    exact J23 _ _ _ hf
  unfold R_other_2 at hf
  refine stp hm 2 (br hf (fun c1 hf => ?_) (fun c1 hf => ?_))
  · show sxWP sc cl Q 49 (22, [some (.ref 26), some (.int v1)], [], (cW nw kp im ol sn sr tp (mW mk mg mt mc T)), 0, 0)
    exact J22 _ _ hf
  · show sxWP sc cl Q 49 (4, [some (.ref 26), some (.int v1)], [], (cW nw kp im ol sn sr tp (mW mk mg mt mc T)), 0, 0)
    refine stp hm 5 (br hf (fun c2 hf => ?_) (fun c2 hf => ?_))
    · show sxWP sc cl Q 49 (22, [some (.ref 26), some (.int v1)], [], (cW nw kp im ol sn sr tp (mW mk mg mt mc T)), 0, 0)
      exact J22 _ _ hf
    · show sxWP sc cl Q 49 (13, [some (.ref 26), some (.int v1)], [], (cW nw kp im ol sn sr tp (mW mk mg mt mc T)), 0, 0)
      obtain ⟨g3, hf⟩ := grd_e hf
      refine stp hm 4 (And.intro (gi_in g3) (?_ : sxWP sc cl Q 49 (19, [some (.ref 26), some (.int v1)], [.int (kp.2.2.2.2.2.2.2.2 v1.toNatClampNeg)], (cW nw kp im ol sn sr tp (mW mk mg mt mc T)), 0, 0)))
      refine stp hm 1 (?_ : sxWP sc cl Q 49 (23, [some (.ref 26), some (.int v1)], [.int (kp.2.2.2.2.2.2.2.2 v1.toNatClampNeg)], (cW nw kp im ol sn sr tp (mW mk mg mt mc T)), 0, 0))
      exact J23 _ _ _ hf

set_option maxRecDepth 10000 in
theorem R_copy_6_l7    (hE : cl = sxE sc (d + 1)) (hm : CallMono cl) : ∀ (n : Nat) (s : (Int32 × Int32 × (Nat → Int32) × (Nat → Int32))) (r : (Int32 × (Nat → Int32) × (Nat → Int32))), wh (R_copy_5_s7 kp.2.2.2.2.2.2.1 kp.2.2.2.2.2.2.2.1 kp.2.2.2.2.2.2.2.2) n s = some r → (∀ (z0 z1 z2 : Option Value), sxWP sc cl Q 50 (36, [z0, z1, z2], [], (cW (nw.1, nw.2.1, nw.2.2.1, nw.2.2.2.1, nw.2.2.2.2.1, nw.2.2.2.2.2.1, (r.1, r.2.1, r.2.2)) kp im ol sn sr tp (mW mk mg mt mc T)), 0, 0)) → sxWP sc cl Q 50 (7, [some (.ref 12), some (.ref 26), some (.int s.1)], [], (cW (nw.1, nw.2.1, nw.2.2.1, nw.2.2.2.1, nw.2.2.2.2.1, nw.2.2.2.2.2.1, (s.2.1, s.2.2.1, s.2.2.2)) kp im ol sn sr tp (mW mk mg mt mc T)), 0, 0) := by
  refine wh_run (A := fun (s : (Int32 × Int32 × (Nat → Int32) × (Nat → Int32))) => sxWP sc cl Q 50 (7, [some (.ref 12), some (.ref 26), some (.int s.1)], [], (cW (nw.1, nw.2.1, nw.2.2.1, nw.2.2.2.1, nw.2.2.2.2.1, nw.2.2.2.2.2.1, (s.2.1, s.2.2.1, s.2.2.2)) kp im ol sn sr tp (mW mk mg mt mc T)), 0, 0)) (B := fun (r : (Int32 × (Nat → Int32) × (Nat → Int32))) => ∀ (z0 z1 z2 : Option Value), sxWP sc cl Q 50 (36, [z0, z1, z2], [], (cW (nw.1, nw.2.1, nw.2.2.1, nw.2.2.2.1, nw.2.2.2.2.1, nw.2.2.2.2.2.1, (r.1, r.2.1, r.2.2)) kp im ol sn sr tp (mW mk mg mt mc T)), 0, 0)) (fun s x hf hA hB => ?_)
  unfold R_copy_5_s7 at hf
  refine stp hm 4 (br hf (fun c1 hf => ?_) (fun c1 hf => ?_))
  · show sxWP sc cl Q 50 (36, [some (.ref 12), some (.ref 26), some (.int s.1)], [], (cW (nw.1, nw.2.1, nw.2.2.1, nw.2.2.2.1, nw.2.2.2.2.1, nw.2.2.2.2.2.1, (s.2.1, s.2.2.1, s.2.2.2)) kp im ol sn sr tp (mW mk mg mt mc T)), 0, 0)
    obtain rfl := Option.some.inj hf
    exact hB _ rfl _ _ _
  · show sxWP sc cl Q 50 (15, [some (.ref 12), some (.ref 26), some (.int s.1)], [], (cW (nw.1, nw.2.1, nw.2.2.1, nw.2.2.2.1, nw.2.2.2.2.1, nw.2.2.2.2.2.1, (s.2.1, s.2.2.1, s.2.2.2)) kp im ol sn sr tp (mW mk mg mt mc T)), 0, 0)
    obtain ⟨q2, hq2, hf⟩ := bnd hf
    refine stp hm 4 (R_one_6_ok hE hq2 ?_)
    show sxWP sc cl Q 50 (21, [some (.ref 12), some (.ref 26), some (.int s.1)], [.int q2, .ref 12], (cW (nw.1, nw.2.1, nw.2.2.1, nw.2.2.2.1, nw.2.2.2.2.1, nw.2.2.2.2.2.1, (s.2.1, s.2.2.1, s.2.2.2)) kp im ol sn sr tp (mW mk mg mt mc T)), 0, 0)
    obtain ⟨q3, hq3, hf⟩ := bnd hf
    refine stp hm 3 (R_other_6_ok hE hq3 ?_)
    show sxWP sc cl Q 50 (26, [some (.ref 12), some (.ref 26), some (.int s.1)], [.int q3, .int q2, .ref 12], (cW (nw.1, nw.2.1, nw.2.2.1, nw.2.2.2.1, nw.2.2.2.2.1, nw.2.2.2.2.2.1, (s.2.1, s.2.2.1, s.2.2.2)) kp im ol sn sr tp (mW mk mg mt mc T)), 0, 0)
    obtain ⟨q4, hq4, hf⟩ := bnd hf
    refine stp hm 1 (R_append_3_ok hE hq4 ?_)
    show sxWP sc cl Q 50 (29, [some (.ref 12), some (.ref 26), some (.int s.1)], [.int q4.1], (cW (nw.1, nw.2.1, nw.2.2.1, nw.2.2.2.1, nw.2.2.2.2.1, nw.2.2.2.2.2.1, (q4.2.1, q4.2.2.1, q4.2.2.2)) kp im ol sn sr tp (mW mk mg mt mc T)), 0, 0)
    obtain rfl := Option.some.inj hf
    refine stp hm 3 (?_ : sxWP sc cl Q 50 (7, [some (.ref 12), some (.ref 26), some (.int (s.1 + (1:Int32)))], [], (cW (nw.1, nw.2.1, nw.2.2.1, nw.2.2.2.1, nw.2.2.2.2.1, nw.2.2.2.2.2.1, (q4.2.1, q4.2.2.1, q4.2.2.2)) kp im ol sn sr tp (mW mk mg mt mc T)), 0, 0))
    exact hA _ rfl
set_option maxRecDepth 10000 in
theorem R_copy_6_ok  {q : (Int32 × (Nat → Int32) × (Nat → Int32))} (hc : call = sxE sc (d + 2)) (hf : R_copy_5 nw.2.2.2.2.2.2.2.1 nw.2.2.2.2.2.2.2.2 kp.2.2.2.2.2.2.1 kp.2.2.2.2.2.2.2.1 kp.2.2.2.2.2.2.2.2 = some q) (h : Q none (cW (nw.1, nw.2.1, nw.2.2.1, nw.2.2.2.1, nw.2.2.2.2.1, nw.2.2.2.2.2.1, (q.1, q.2.1, q.2.2)) kp im ol sn sr tp (mW mk mg mt mc T))) : call 50 [.ref 12, .ref 26] (cW nw kp im ol sn sr tp (mW mk mg mt mc T)) Q := by
  refine ent hc rfl (fun cl hE hm => ?_)
  unfold R_copy_5 at hf
  obtain ⟨q1, hq1, hf⟩ := bnd hf
  refine stp hm 2 (R_emptied_3_ok hE hq1 ?_)
  show sxWP sc cl Q 50 (4, [some (.ref 12), some (.ref 26), none], [.int q1.1], (cW (nw.1, nw.2.1, nw.2.2.1, nw.2.2.2.1, nw.2.2.2.2.1, nw.2.2.2.2.2.1, (q1.2, nw.2.2.2.2.2.2.2.1, nw.2.2.2.2.2.2.2.2)) kp im ol sn sr tp (mW mk mg mt mc T)), 0, 0)
  obtain ⟨w2, hw2, hf⟩ := bnd hf
  refine stp hm 3 (?_ : sxWP sc cl Q 50 (7, [some (.ref 12), some (.ref 26), some (.int (0:Int32))], [], (cW (nw.1, nw.2.1, nw.2.2.1, nw.2.2.2.1, nw.2.2.2.2.1, nw.2.2.2.2.2.1, (q1.2, nw.2.2.2.2.2.2.2.1, nw.2.2.2.2.2.2.2.2)) kp im ol sn sr tp (mW mk mg mt mc T)), 0, 0))
  refine R_copy_6_l7 hE hm _ _ _ hw2 ?_
  intro w2_z0 w2_z1 w2_z2
  show sxWP sc cl Q 50 (36, [w2_z0, w2_z1, w2_z2], [], (cW (nw.1, nw.2.1, nw.2.2.1, nw.2.2.2.1, nw.2.2.2.2.1, nw.2.2.2.2.2.1, (w2.1, w2.2.1, w2.2.2)) kp im ol sn sr tp (mW mk mg mt mc T)), 0, 0)
  obtain rfl := Option.some.inj hf
  refine stp hm 1 ?_
  exact h

def S_copy_2  (nmt : (Nat → Int32)) (npw : (Nat → Int32)) (nso : (Nat → Int32)) (nsq : (Nat → Int32)) (neo : (Nat → Int32)) (neq : (Nat → Int32)) (ngo : (Nat → Int32)) (ngq : (Nat → Int32)) (krg : Int64) (kld : Int32) (kmt : (Nat → Int32)) (kps : Int32) (kpl : Int32) (kpw : (Nat → Int32)) (kss : Int32) (kso : (Nat → Int32)) (ksq : (Nat → Int32)) (kes : Int32) (keo : (Nat → Int32)) (keq : (Nat → Int32)) (kgs : Int32) (kgo : (Nat → Int32)) (kgq : (Nat → Int32)) : Option (Int64 × Int32 × (Nat → Int32) × Int32 × Int32 × (Nat → Int32) × Int32 × (Nat → Int32) × (Nat → Int32) × Int32 × (Nat → Int32) × (Nat → Int32) × Int32 × (Nat → Int32) × (Nat → Int32)) := grd (zb kld) (Option.bind (P_copy_2 npw kps kpl kpw) (fun q2 => Option.bind (R_copy_4 nso nsq kss kso ksq) (fun q3 => Option.bind (R_copy_5 neo neq kes keo keq) (fun q4 => Option.bind (R_copy_5 ngo ngq kgs kgo kgq) (fun q5 => some (krg, kld, va_cpy kmt nmt (0:Int32).toNatClampNeg (0:Int32).toNatClampNeg (36:Int32).toNatClampNeg, q2.1, q2.2.1, q2.2.2, q3.1, q3.2.1, q3.2.2, q4.1, q4.2.1, q4.2.2, q5.1, q5.2.1, q5.2.2))))))
set_option maxRecDepth 10000 in
theorem S_copy_2_ok  {q : (Int64 × Int32 × (Nat → Int32) × Int32 × Int32 × (Nat → Int32) × Int32 × (Nat → Int32) × (Nat → Int32) × Int32 × (Nat → Int32) × (Nat → Int32) × Int32 × (Nat → Int32) × (Nat → Int32))} (hc : call = sxE sc (d + 3)) (hf : S_copy_2 nw.2.2.1 nw.2.2.2.1.2.2.1 nw.2.2.2.2.1.2.1 nw.2.2.2.2.1.2.2 nw.2.2.2.2.2.1.2.1 nw.2.2.2.2.2.1.2.2 nw.2.2.2.2.2.2.2.1 nw.2.2.2.2.2.2.2.2 kp.1 kp.2.1 kp.2.2.1 kp.2.2.2.1.1 kp.2.2.2.1.2.1 kp.2.2.2.1.2.2.1 kp.2.2.2.2.1.1 kp.2.2.2.2.1.2.1 kp.2.2.2.2.1.2.2 kp.2.2.2.2.2.1.1 kp.2.2.2.2.2.1.2.1 kp.2.2.2.2.2.1.2.2 kp.2.2.2.2.2.2.1 kp.2.2.2.2.2.2.2.1 kp.2.2.2.2.2.2.2.2 = some q) (h : Q none (cW (q.1, q.2.1, q.2.2.1, (q.2.2.2.1, q.2.2.2.2.1, q.2.2.2.2.2.1, nw.2.2.2.1.2.2.2), (q.2.2.2.2.2.2.1, q.2.2.2.2.2.2.2.1, q.2.2.2.2.2.2.2.2.1), (q.2.2.2.2.2.2.2.2.2.1, q.2.2.2.2.2.2.2.2.2.2.1, q.2.2.2.2.2.2.2.2.2.2.2.1), (q.2.2.2.2.2.2.2.2.2.2.2.2.1, q.2.2.2.2.2.2.2.2.2.2.2.2.2.1, q.2.2.2.2.2.2.2.2.2.2.2.2.2.2)) kp im ol sn sr tp (mW mk mg mt mc T))) : call 63 [.ref 1, .ref 15] (cW nw kp im ol sn sr tp (mW mk mg mt mc T)) Q := by
  refine ent hc rfl (fun cl hE hm => ?_)
  unfold S_copy_2 at hf
  obtain ⟨g1, hf⟩ := grd_e hf
  refine stp hm 8 (And.intro (zb_e g1) (?_ : sxWP sc cl Q 63 (16, [some (.ref 1), some (.ref 15)], [], (cW (kp.1, kp.2.1, nw.2.2.1, nw.2.2.2.1, nw.2.2.2.2.1, nw.2.2.2.2.2.1, nw.2.2.2.2.2.2) kp im ol sn sr tp (mW mk mg mt mc T)), 0, 0)))
  refine stp hm 8 (And.intro (by decide) (?_ : sxWP sc cl Q 63 (31, [some (.ref 1), some (.ref 15)], [], (cW (kp.1, kp.2.1, va_cpy kp.2.2.1 nw.2.2.1 (0:Int32).toNatClampNeg (0:Int32).toNatClampNeg (36:Int32).toNatClampNeg, nw.2.2.2.1, nw.2.2.2.2.1, nw.2.2.2.2.2.1, nw.2.2.2.2.2.2) kp im ol sn sr tp (mW mk mg mt mc T)), 0, 0)))
  obtain ⟨q2, hq2, hf⟩ := bnd hf
  refine stp hm 5 (P_copy_2_ok hE hq2 ?_)
  show sxWP sc cl Q 63 (42, [some (.ref 1), some (.ref 15)], [], (cW (kp.1, kp.2.1, va_cpy kp.2.2.1 nw.2.2.1 (0:Int32).toNatClampNeg (0:Int32).toNatClampNeg (36:Int32).toNatClampNeg, (q2.1, q2.2.1, q2.2.2, nw.2.2.2.1.2.2.2), nw.2.2.2.2.1, nw.2.2.2.2.2.1, nw.2.2.2.2.2.2) kp im ol sn sr tp (mW mk mg mt mc T)), 0, 0)
  obtain ⟨q3, hq3, hf⟩ := bnd hf
  refine stp hm 5 (R_copy_4_ok hE hq3 ?_)
  show sxWP sc cl Q 63 (53, [some (.ref 1), some (.ref 15)], [], (cW (kp.1, kp.2.1, va_cpy kp.2.2.1 nw.2.2.1 (0:Int32).toNatClampNeg (0:Int32).toNatClampNeg (36:Int32).toNatClampNeg, (q2.1, q2.2.1, q2.2.2, nw.2.2.2.1.2.2.2), (q3.1, q3.2.1, q3.2.2), nw.2.2.2.2.2.1, nw.2.2.2.2.2.2) kp im ol sn sr tp (mW mk mg mt mc T)), 0, 0)
  obtain ⟨q4, hq4, hf⟩ := bnd hf
  refine stp hm 5 (R_copy_5_ok hE hq4 ?_)
  show sxWP sc cl Q 63 (64, [some (.ref 1), some (.ref 15)], [], (cW (kp.1, kp.2.1, va_cpy kp.2.2.1 nw.2.2.1 (0:Int32).toNatClampNeg (0:Int32).toNatClampNeg (36:Int32).toNatClampNeg, (q2.1, q2.2.1, q2.2.2, nw.2.2.2.1.2.2.2), (q3.1, q3.2.1, q3.2.2), (q4.1, q4.2.1, q4.2.2), nw.2.2.2.2.2.2) kp im ol sn sr tp (mW mk mg mt mc T)), 0, 0)
  obtain ⟨q5, hq5, hf⟩ := bnd hf
  refine stp hm 5 (R_copy_6_ok hE hq5 ?_)
  show sxWP sc cl Q 63 (75, [some (.ref 1), some (.ref 15)], [], (cW (kp.1, kp.2.1, va_cpy kp.2.2.1 nw.2.2.1 (0:Int32).toNatClampNeg (0:Int32).toNatClampNeg (36:Int32).toNatClampNeg, (q2.1, q2.2.1, q2.2.2, nw.2.2.2.1.2.2.2), (q3.1, q3.2.1, q3.2.2), (q4.1, q4.2.1, q4.2.2), (q5.1, q5.2.1, q5.2.2)) kp im ol sn sr tp (mW mk mg mt mc T)), 0, 0)
  obtain rfl := Option.some.inj hf
  refine stp hm 1 ?_
  exact h

def X_undo  (im : Int32) (nrg : Int64) (nld : Int32) (nmt : (Nat → Int32)) (nps : Int32) (npl : Int32) (npw : (Nat → Int32)) (nss : Int32) (nso : (Nat → Int32)) (nsq : (Nat → Int32)) (nes : Int32) (neo : (Nat → Int32)) (neq : (Nat → Int32)) (ngs : Int32) (ngo : (Nat → Int32)) (ngq : (Nat → Int32)) (krg : Int64) (kld : Int32) (kmt : (Nat → Int32)) (kps : Int32) (kpl : Int32) (kpw : (Nat → Int32)) (kss : Int32) (kso : (Nat → Int32)) (ksq : (Nat → Int32)) (kes : Int32) (keo : (Nat → Int32)) (keq : (Nat → Int32)) (kgs : Int32) (kgo : (Nat → Int32)) (kgq : (Nat → Int32)) : Option (Int32 × Int64 × Int32 × (Nat → Int32) × Int32 × Int32 × (Nat → Int32) × Int32 × (Nat → Int32) × (Nat → Int32) × Int32 × (Nat → Int32) × (Nat → Int32) × Int32 × (Nat → Int32) × (Nat → Int32)) := if im = (0:Int32) then (some ((-3:Int32), nrg, nld, nmt, nps, npl, npw, nss, nso, nsq, nes, neo, neq, ngs, ngo, ngq)) else (Option.bind (S_copy_2 nmt npw nso nsq neo neq ngo ngq krg kld kmt kps kpl kpw kss kso ksq kes keo keq kgs kgo kgq) (fun q2 => some (J_Long_bitCount q2.1, q2.1, q2.2.1, q2.2.2.1, q2.2.2.2.1, q2.2.2.2.2.1, q2.2.2.2.2.2.1, q2.2.2.2.2.2.2.1, q2.2.2.2.2.2.2.2.1, q2.2.2.2.2.2.2.2.2.1, q2.2.2.2.2.2.2.2.2.2.1, q2.2.2.2.2.2.2.2.2.2.2.1, q2.2.2.2.2.2.2.2.2.2.2.2.1, q2.2.2.2.2.2.2.2.2.2.2.2.2.1, q2.2.2.2.2.2.2.2.2.2.2.2.2.2.1, q2.2.2.2.2.2.2.2.2.2.2.2.2.2.2)))
set_option maxRecDepth 10000 in
theorem X_undo_ok  {q : (Int32 × Int64 × Int32 × (Nat → Int32) × Int32 × Int32 × (Nat → Int32) × Int32 × (Nat → Int32) × (Nat → Int32) × Int32 × (Nat → Int32) × (Nat → Int32) × Int32 × (Nat → Int32) × (Nat → Int32))} (hc : call = sxE sc (d + 4)) (hf : X_undo im nw.1 nw.2.1 nw.2.2.1 nw.2.2.2.1.1 nw.2.2.2.1.2.1 nw.2.2.2.1.2.2.1 nw.2.2.2.2.1.1 nw.2.2.2.2.1.2.1 nw.2.2.2.2.1.2.2 nw.2.2.2.2.2.1.1 nw.2.2.2.2.2.1.2.1 nw.2.2.2.2.2.1.2.2 nw.2.2.2.2.2.2.1 nw.2.2.2.2.2.2.2.1 nw.2.2.2.2.2.2.2.2 kp.1 kp.2.1 kp.2.2.1 kp.2.2.2.1.1 kp.2.2.2.1.2.1 kp.2.2.2.1.2.2.1 kp.2.2.2.2.1.1 kp.2.2.2.2.1.2.1 kp.2.2.2.2.1.2.2 kp.2.2.2.2.2.1.1 kp.2.2.2.2.2.1.2.1 kp.2.2.2.2.2.1.2.2 kp.2.2.2.2.2.2.1 kp.2.2.2.2.2.2.2.1 kp.2.2.2.2.2.2.2.2 = some q) (h : Q (some (.int q.1)) (cW (q.2.1, q.2.2.1, q.2.2.2.1, (q.2.2.2.2.1, q.2.2.2.2.2.1, q.2.2.2.2.2.2.1, nw.2.2.2.1.2.2.2), (q.2.2.2.2.2.2.2.1, q.2.2.2.2.2.2.2.2.1, q.2.2.2.2.2.2.2.2.2.1), (q.2.2.2.2.2.2.2.2.2.2.1, q.2.2.2.2.2.2.2.2.2.2.2.1, q.2.2.2.2.2.2.2.2.2.2.2.2.1), (q.2.2.2.2.2.2.2.2.2.2.2.2.2.1, q.2.2.2.2.2.2.2.2.2.2.2.2.2.2.1, q.2.2.2.2.2.2.2.2.2.2.2.2.2.2.2)) kp im ol sn sr tp (mW mk mg mt mc T))) : call 129 [.ref 0] (cW nw kp im ol sn sr tp (mW mk mg mt mc T)) Q := by
  refine ent hc rfl (fun cl hE hm => ?_)
  unfold X_undo at hf
  refine stp hm 3 (brn hf (fun c1 hf => ?_) (fun c1 hf => ?_))
  · show sxWP sc cl Q 129 (10, [some (.ref 0)], [], (cW nw kp im ol sn sr tp (mW mk mg mt mc T)), 0, 0)
    obtain ⟨q2, hq2, hf⟩ := bnd hf
    refine stp hm 5 (S_copy_2_ok hE hq2 ?_)
    show sxWP sc cl Q 129 (21, [some (.ref 0)], [], (cW (q2.1, q2.2.1, q2.2.2.1, (q2.2.2.2.1, q2.2.2.2.2.1, q2.2.2.2.2.2.1, nw.2.2.2.1.2.2.2), (q2.2.2.2.2.2.2.1, q2.2.2.2.2.2.2.2.1, q2.2.2.2.2.2.2.2.2.1), (q2.2.2.2.2.2.2.2.2.2.1, q2.2.2.2.2.2.2.2.2.2.2.1, q2.2.2.2.2.2.2.2.2.2.2.2.1), (q2.2.2.2.2.2.2.2.2.2.2.2.2.1, q2.2.2.2.2.2.2.2.2.2.2.2.2.2.1, q2.2.2.2.2.2.2.2.2.2.2.2.2.2.2)) kp im ol sn sr tp (mW mk mg mt mc T)), 0, 0)
    refine stp hm 4 (J_Long_bitCount_ok hE rfl ?_)
    show sxWP sc cl Q 129 (31, [some (.ref 0)], [.int (J_Long_bitCount q2.1)], (cW (q2.1, q2.2.1, q2.2.2.1, (q2.2.2.2.1, q2.2.2.2.2.1, q2.2.2.2.2.2.1, nw.2.2.2.1.2.2.2), (q2.2.2.2.2.2.2.1, q2.2.2.2.2.2.2.2.1, q2.2.2.2.2.2.2.2.2.1), (q2.2.2.2.2.2.2.2.2.2.1, q2.2.2.2.2.2.2.2.2.2.2.1, q2.2.2.2.2.2.2.2.2.2.2.2.1), (q2.2.2.2.2.2.2.2.2.2.2.2.2.1, q2.2.2.2.2.2.2.2.2.2.2.2.2.2.1, q2.2.2.2.2.2.2.2.2.2.2.2.2.2.2)) kp im ol sn sr tp (mW mk mg mt mc T)), 0, 0)
    obtain rfl := Option.some.inj hf
    refine stp hm 1 ?_
    exact h
  · show sxWP sc cl Q 129 (7, [some (.ref 0)], [], (cW nw kp im ol sn sr tp (mW mk mg mt mc T)), 0, 0)
    obtain rfl := Option.some.inj hf
    refine stp hm 2 ?_
    exact h

def M_copies_2_s2   (mkp : (Nat → Int32)) (s : (Int32 × (Nat → Int32))) : Option ((Int32 × (Nat → Int32)) ⊕ (Nat → Int32)) := if (122:Int32) ≤ s.1 then (some (Sum.inr s.2)) else (grd (gi s.1 122) (grd (gi s.1 122) (some (Sum.inl (s.1 + (1:Int32), upd s.2 s.1.toNatClampNeg (mkp s.1.toNatClampNeg))))))
def M_copies_2  (ms : (Nat → Int32)) (mkp : (Nat → Int32)) : Option (Nat → Int32) := Option.bind (wh (M_copies_2_s2 mkp) FU ((0:Int32), ms)) (fun w1 => some w1)
set_option maxRecDepth 10000 in
theorem M_copies_2_l2    (hE : cl = sxE sc (d + 0)) (hm : CallMono cl) : ∀ (n : Nat) (s : (Int32 × (Nat → Int32))) (r : (Nat → Int32)), wh (M_copies_2_s2 mk.2.2.2.1) n s = some r → (∀ (z0 z1 z2 : Option Value), sxWP sc cl Q 233 (20, [z0, z1, z2], [], (cW nw kp im ol sn sr tp (mW (mk.1, mk.2.1, r, mk.2.2.2.1, mk.2.2.2.2.1, mk.2.2.2.2.2.1, mk.2.2.2.2.2.2.1, mk.2.2.2.2.2.2.2.1, mk.2.2.2.2.2.2.2.2.1, mk.2.2.2.2.2.2.2.2.2) mg mt mc T)), 0, 0)) → sxWP sc cl Q 233 (2, [some (.ref 61), some (.ref 60), some (.int s.1)], [], (cW nw kp im ol sn sr tp (mW (mk.1, mk.2.1, s.2, mk.2.2.2.1, mk.2.2.2.2.1, mk.2.2.2.2.2.1, mk.2.2.2.2.2.2.1, mk.2.2.2.2.2.2.2.1, mk.2.2.2.2.2.2.2.2.1, mk.2.2.2.2.2.2.2.2.2) mg mt mc T)), 0, 0) := by
  refine wh_run (A := fun (s : (Int32 × (Nat → Int32))) => sxWP sc cl Q 233 (2, [some (.ref 61), some (.ref 60), some (.int s.1)], [], (cW nw kp im ol sn sr tp (mW (mk.1, mk.2.1, s.2, mk.2.2.2.1, mk.2.2.2.2.1, mk.2.2.2.2.2.1, mk.2.2.2.2.2.2.1, mk.2.2.2.2.2.2.2.1, mk.2.2.2.2.2.2.2.2.1, mk.2.2.2.2.2.2.2.2.2) mg mt mc T)), 0, 0)) (B := fun (r : (Nat → Int32)) => ∀ (z0 z1 z2 : Option Value), sxWP sc cl Q 233 (20, [z0, z1, z2], [], (cW nw kp im ol sn sr tp (mW (mk.1, mk.2.1, r, mk.2.2.2.1, mk.2.2.2.2.1, mk.2.2.2.2.2.1, mk.2.2.2.2.2.2.1, mk.2.2.2.2.2.2.2.1, mk.2.2.2.2.2.2.2.2.1, mk.2.2.2.2.2.2.2.2.2) mg mt mc T)), 0, 0)) (fun s x hf hA hB => ?_)
  unfold M_copies_2_s2 at hf
  refine stp hm 3 (br hf (fun c1 hf => ?_) (fun c1 hf => ?_))
  · show sxWP sc cl Q 233 (20, [some (.ref 61), some (.ref 60), some (.int s.1)], [], (cW nw kp im ol sn sr tp (mW (mk.1, mk.2.1, s.2, mk.2.2.2.1, mk.2.2.2.2.1, mk.2.2.2.2.2.1, mk.2.2.2.2.2.2.1, mk.2.2.2.2.2.2.2.1, mk.2.2.2.2.2.2.2.2.1, mk.2.2.2.2.2.2.2.2.2) mg mt mc T)), 0, 0)
    obtain rfl := Option.some.inj hf
    exact hB _ rfl _ _ _
  · show sxWP sc cl Q 233 (8, [some (.ref 61), some (.ref 60), some (.int s.1)], [], (cW nw kp im ol sn sr tp (mW (mk.1, mk.2.1, s.2, mk.2.2.2.1, mk.2.2.2.2.1, mk.2.2.2.2.2.1, mk.2.2.2.2.2.2.1, mk.2.2.2.2.2.2.2.1, mk.2.2.2.2.2.2.2.2.1, mk.2.2.2.2.2.2.2.2.2) mg mt mc T)), 0, 0)
    obtain ⟨g2, hf⟩ := grd_e hf
    refine stp hm 5 (And.intro (gi_in g2) (?_ : sxWP sc cl Q 233 (13, [some (.ref 61), some (.ref 60), some (.int s.1)], [.int (mk.2.2.2.1 s.1.toNatClampNeg), .int s.1, .ref 60], (cW nw kp im ol sn sr tp (mW (mk.1, mk.2.1, s.2, mk.2.2.2.1, mk.2.2.2.2.1, mk.2.2.2.2.2.1, mk.2.2.2.2.2.2.1, mk.2.2.2.2.2.2.2.1, mk.2.2.2.2.2.2.2.2.1, mk.2.2.2.2.2.2.2.2.2) mg mt mc T)), 0, 0)))
    obtain ⟨g3, hf⟩ := grd_e hf
    refine stp hm 1 (And.intro (gi_in g3) (?_ : sxWP sc cl Q 233 (14, [some (.ref 61), some (.ref 60), some (.int s.1)], [], (cW nw kp im ol sn sr tp (mW (mk.1, mk.2.1, upd s.2 s.1.toNatClampNeg (mk.2.2.2.1 s.1.toNatClampNeg), mk.2.2.2.1, mk.2.2.2.2.1, mk.2.2.2.2.2.1, mk.2.2.2.2.2.2.1, mk.2.2.2.2.2.2.2.1, mk.2.2.2.2.2.2.2.2.1, mk.2.2.2.2.2.2.2.2.2) mg mt mc T)), 0, 0)))
    obtain rfl := Option.some.inj hf
    refine stp hm 2 (?_ : sxWP sc cl Q 233 (2, [some (.ref 61), some (.ref 60), some (.int (s.1 + (1:Int32)))], [], (cW nw kp im ol sn sr tp (mW (mk.1, mk.2.1, upd s.2 s.1.toNatClampNeg (mk.2.2.2.1 s.1.toNatClampNeg), mk.2.2.2.1, mk.2.2.2.2.1, mk.2.2.2.2.2.1, mk.2.2.2.2.2.2.1, mk.2.2.2.2.2.2.2.1, mk.2.2.2.2.2.2.2.2.1, mk.2.2.2.2.2.2.2.2.2) mg mt mc T)), 0, 0))
    exact hA _ rfl
set_option maxRecDepth 10000 in
theorem M_copies_2_ok  {q : (Nat → Int32)} (hc : call = sxE sc (d + 1)) (hf : M_copies_2 mk.2.2.1 mk.2.2.2.1 = some q) (h : Q none (cW nw kp im ol sn sr tp (mW (mk.1, mk.2.1, q, mk.2.2.2.1, mk.2.2.2.2.1, mk.2.2.2.2.2.1, mk.2.2.2.2.2.2.1, mk.2.2.2.2.2.2.2.1, mk.2.2.2.2.2.2.2.2.1, mk.2.2.2.2.2.2.2.2.2) mg mt mc T))) : call 233 [.ref 61, .ref 60] (cW nw kp im ol sn sr tp (mW mk mg mt mc T)) Q := by
  refine ent hc rfl (fun cl hE hm => ?_)
  unfold M_copies_2 at hf
  obtain ⟨w1, hw1, hf⟩ := bnd hf
  refine stp hm 2 (?_ : sxWP sc cl Q 233 (2, [some (.ref 61), some (.ref 60), some (.int (0:Int32))], [], (cW nw kp im ol sn sr tp (mW mk mg mt mc T)), 0, 0))
  refine M_copies_2_l2 hE hm _ _ _ hw1 ?_
  intro w1_z0 w1_z1 w1_z2
  show sxWP sc cl Q 233 (20, [w1_z0, w1_z1, w1_z2], [], (cW nw kp im ol sn sr tp (mW (mk.1, mk.2.1, w1, mk.2.2.2.1, mk.2.2.2.2.1, mk.2.2.2.2.2.1, mk.2.2.2.2.2.2.1, mk.2.2.2.2.2.2.2.1, mk.2.2.2.2.2.2.2.2.1, mk.2.2.2.2.2.2.2.2.2) mg mt mc T)), 0, 0)
  obtain rfl := Option.some.inj hf
  refine stp hm 1 ?_
  exact h

def M_undo  (mrg : Int64) (mkr : Int64) (mik : Int32) (ms : (Nat → Int32)) (mkp : (Nat → Int32)) : Option (Int32 × Int64 × (Nat → Int32)) := if mik = (0:Int32) then (some ((-3:Int32), mrg, ms)) else (Option.bind (M_copies_2 ms mkp) (fun q2 => Option.bind (M_cells mkr) (fun q3 => some (q3, mkr, q2))))
set_option maxRecDepth 10000 in
theorem M_undo_ok  {q : (Int32 × Int64 × (Nat → Int32))} (hc : call = sxE sc (d + 3)) (hf : M_undo mk.1 mk.2.1 mk.2.2.2.2.1 mk.2.2.1 mk.2.2.2.1 = some q) (h : Q (some (.int q.1)) (cW nw kp im ol sn sr tp (mW (q.2.1, mk.2.1, q.2.2, mk.2.2.2.1, mk.2.2.2.2.1, mk.2.2.2.2.2.1, mk.2.2.2.2.2.2.1, mk.2.2.2.2.2.2.2.1, mk.2.2.2.2.2.2.2.2.1, mk.2.2.2.2.2.2.2.2.2) mg mt mc T))) : call 235 [.ref 59] (cW nw kp im ol sn sr tp (mW mk mg mt mc T)) Q := by
  refine ent hc rfl (fun cl hE hm => ?_)
  unfold M_undo at hf
  refine stp hm 3 (brn hf (fun c1 hf => ?_) (fun c1 hf => ?_))
  · show sxWP sc cl Q 235 (10, [some (.ref 59)], [], (cW nw kp im ol sn sr tp (mW mk mg mt mc T)), 0, 0)
    obtain ⟨q2, hq2, hf⟩ := bnd hf
    refine stp hm 5 (M_copies_2_ok hE hq2 ?_)
    show sxWP sc cl Q 235 (21, [some (.ref 59)], [], (cW nw kp im ol sn sr tp (mW (mk.1, mk.2.1, q2, mk.2.2.2.1, mk.2.2.2.2.1, mk.2.2.2.2.2.1, mk.2.2.2.2.2.2.1, mk.2.2.2.2.2.2.2.1, mk.2.2.2.2.2.2.2.2.1, mk.2.2.2.2.2.2.2.2.2) mg mt mc T)), 0, 0)
    obtain ⟨q3, hq3, hf⟩ := bnd hf
    refine stp hm 6 (M_cells_ok hE hq3 ?_)
    show sxWP sc cl Q 235 (33, [some (.ref 59)], [.int q3], (cW nw kp im ol sn sr tp (mW (mk.2.1, mk.2.1, q2, mk.2.2.2.1, mk.2.2.2.2.1, mk.2.2.2.2.2.1, mk.2.2.2.2.2.2.1, mk.2.2.2.2.2.2.2.1, mk.2.2.2.2.2.2.2.2.1, mk.2.2.2.2.2.2.2.2.2) mg mt mc T)), 0, 0)
    obtain rfl := Option.some.inj hf
    refine stp hm 1 ?_
    exact h
  · show sxWP sc cl Q 235 (7, [some (.ref 59)], [], (cW nw kp im ol sn sr tp (mW mk mg mt mc T)), 0, 0)
    obtain rfl := Option.some.inj hf
    refine stp hm 2 ?_
    exact h

def X_count (v1 : Int32) (nss : Int32) (nes : Int32) (ngs : Int32) (rsz : Int32) : Int32 := if v1 = (0:Int32) then nss else (if v1 = (1:Int32) then nes else (if v1 = (2:Int32) then ngs else (if v1 = (3:Int32) then rsz else (-2:Int32))))
set_option maxRecDepth 10000 in
theorem X_count_ok {v1 : Int32} {r : Int32} (hc : call = sxE sc (d + 1)) (hf : X_count v1 nw.2.2.2.2.1.1 nw.2.2.2.2.2.1.1 nw.2.2.2.2.2.2.1 sr.1 = r) (h : Q (some (.int r)) (cW nw kp im ol sn sr tp (mW mk mg mt mc T))) : call 130 [.ref 0, .int v1] (cW nw kp im ol sn sr tp (mW mk mg mt mc T)) Q := by
  refine ent hc rfl (fun cl hE hm => ?_)
  unfold X_count at hf
  refine stp hm 2 ?_
  show sxWP sc cl Q 130 ((swT (v1).toInt (0) [32, 43, 54, 65] 73), [some (.ref 0), some (.int v1)], [], (cW nw kp im ol sn sr tp (mW mk mg mt mc T)), 0, 0)
  rcases ite_or hf with ⟨c1_0, hf⟩ | ⟨c1_0, hf⟩
  · rw [show swT (v1).toInt (0) [32, 43, 54, 65] 73 = 32 by rw [c1_0]; rfl]
    subst hf
    refine stp hm 5 ?_
    exact h
  rcases ite_or hf with ⟨c1_1, hf⟩ | ⟨c1_1, hf⟩
  · rw [show swT (v1).toInt (0) [32, 43, 54, 65] 73 = 43 by rw [c1_1]; rfl]
    subst hf
    refine stp hm 5 ?_
    exact h
  rcases ite_or hf with ⟨c1_2, hf⟩ | ⟨c1_2, hf⟩
  · rw [show swT (v1).toInt (0) [32, 43, 54, 65] 73 = 54 by rw [c1_2]; rfl]
    subst hf
    refine stp hm 5 ?_
    exact h
  rcases ite_or hf with ⟨c1_3, hf⟩ | ⟨c1_3, hf⟩
  · rw [show swT (v1).toInt (0) [32, 43, 54, 65] 73 = 65 by rw [c1_3]; rfl]
    subst hf
    refine stp hm 4 ?_
    exact h
  have tc1_0 : ¬ (v1).toInt = 0 := fun e => c1_0 (Int32.toInt_inj.mp e)
  have tc1_1 : ¬ (v1).toInt = 1 := fun e => c1_1 (Int32.toInt_inj.mp e)
  have tc1_2 : ¬ (v1).toInt = 2 := fun e => c1_2 (Int32.toInt_inj.mp e)
  have tc1_3 : ¬ (v1).toInt = 3 := fun e => c1_3 (Int32.toInt_inj.mp e)
  rw [show swT (v1).toInt (0) [32, 43, 54, 65] 73 = 73 by simp [swT, tc1_0, tc1_1, tc1_2, tc1_3]]
  subst hf
  refine stp hm 2 ?_
  exact h

def M_count (v1 : Int32) (msz : Int32) (ms : (Nat → Int32)) : Option Int32 := if v1 = (0:Int32) then (grd (gi (3:Int32) 122) (some (ms (3:Int32).toNatClampNeg))) else (if v1 = (1:Int32) then (grd (gi (4:Int32) 122) (some (ms (4:Int32).toNatClampNeg))) else (if v1 = (2:Int32) then (grd (gi (5:Int32) 122) (some (ms (5:Int32).toNatClampNeg))) else (if v1 = (3:Int32) then (some msz) else (some (-2:Int32)))))
set_option maxRecDepth 10000 in
theorem M_count_ok {v1 : Int32} {q : Int32} (hc : call = sxE sc (d + 1)) (hf : M_count v1 mk.2.2.2.2.2.2.1 mk.2.2.1 = some q) (h : Q (some (.int q)) (cW nw kp im ol sn sr tp (mW mk mg mt mc T))) : call 236 [.ref 59, .int v1] (cW nw kp im ol sn sr tp (mW mk mg mt mc T)) Q := by
  refine ent hc rfl (fun cl hE hm => ?_)
  unfold M_count at hf
  refine stp hm 2 ?_
  show sxWP sc cl Q 236 ((swT (v1).toInt (0) [32, 39, 46, 53] 58), [some (.ref 59), some (.int v1)], [], (cW nw kp im ol sn sr tp (mW mk mg mt mc T)), 0, 0)
  rcases ite_or hf with ⟨c1_0, hf⟩ | ⟨c1_0, hf⟩
  · rw [show swT (v1).toInt (0) [32, 39, 46, 53] 58 = 32 by rw [c1_0]; rfl]
    obtain ⟨g2, hf⟩ := grd_e hf
    refine stp hm 4 (And.intro (gi_in g2) (?_ : sxWP sc cl Q 236 (38, [some (.ref 59), some (.int v1)], [.int (mk.2.2.1 (3:Int32).toNatClampNeg)], (cW nw kp im ol sn sr tp (mW mk mg mt mc T)), 0, 0)))
    obtain rfl := Option.some.inj hf
    refine stp hm 1 ?_
    exact h
  rcases ite_or hf with ⟨c1_1, hf⟩ | ⟨c1_1, hf⟩
  · rw [show swT (v1).toInt (0) [32, 39, 46, 53] 58 = 39 by rw [c1_1]; rfl]
    obtain ⟨g3, hf⟩ := grd_e hf
    refine stp hm 4 (And.intro (gi_in g3) (?_ : sxWP sc cl Q 236 (45, [some (.ref 59), some (.int v1)], [.int (mk.2.2.1 (4:Int32).toNatClampNeg)], (cW nw kp im ol sn sr tp (mW mk mg mt mc T)), 0, 0)))
    obtain rfl := Option.some.inj hf
    refine stp hm 1 ?_
    exact h
  rcases ite_or hf with ⟨c1_2, hf⟩ | ⟨c1_2, hf⟩
  · rw [show swT (v1).toInt (0) [32, 39, 46, 53] 58 = 46 by rw [c1_2]; rfl]
    obtain ⟨g4, hf⟩ := grd_e hf
    refine stp hm 4 (And.intro (gi_in g4) (?_ : sxWP sc cl Q 236 (52, [some (.ref 59), some (.int v1)], [.int (mk.2.2.1 (5:Int32).toNatClampNeg)], (cW nw kp im ol sn sr tp (mW mk mg mt mc T)), 0, 0)))
    obtain rfl := Option.some.inj hf
    refine stp hm 1 ?_
    exact h
  rcases ite_or hf with ⟨c1_3, hf⟩ | ⟨c1_3, hf⟩
  · rw [show swT (v1).toInt (0) [32, 39, 46, 53] 58 = 53 by rw [c1_3]; rfl]
    obtain rfl := Option.some.inj hf
    refine stp hm 3 ?_
    exact h
  have tc1_0 : ¬ (v1).toInt = 0 := fun e => c1_0 (Int32.toInt_inj.mp e)
  have tc1_1 : ¬ (v1).toInt = 1 := fun e => c1_1 (Int32.toInt_inj.mp e)
  have tc1_2 : ¬ (v1).toInt = 2 := fun e => c1_2 (Int32.toInt_inj.mp e)
  have tc1_3 : ¬ (v1).toInt = 3 := fun e => c1_3 (Int32.toInt_inj.mp e)
  rw [show swT (v1).toInt (0) [32, 39, 46, 53] 58 = 58 by simp [swT, tc1_0, tc1_1, tc1_2, tc1_3]]
  obtain rfl := Option.some.inj hf
  refine stp hm 2 ?_
  exact h

def M_tape_s70  (v1 : Int32) (s : (Int32 × (Nat → Int64))) : Option ((Int32 × (Nat → Int64)) ⊕ (Nat → Int64)) := if (60:Int32) ≤ s.1 then (some (Sum.inr s.2)) else (grd (gi (((60:Int32) * v1) + s.1) 360) (some (Sum.inl (s.1 + (1:Int32), vp_updL s.2 (((60:Int32) * v1) + s.1).toNatClampNeg (0:Int64)))))
def M_tape_j44  (v1 : Int32) (v2 : Int32) (v3 : Int32) (mso_j : (Nat → Int32)) (mmy_j : (Nat → Int32)) (mit_j : (Nat → Int64)) : Option (Int32 × (Nat → Int32) × (Nat → Int32) × (Nat → Int64)) := grd (gi v1 6) (grd (gi v1 6) (Option.bind (wh (M_tape_s70 v1) FU ((0:Int32), mit_j)) (fun w4 => some ((1:Int32), upd mso_j v1.toNatClampNeg v2, upd mmy_j v1.toNatClampNeg (if v2 = (-1:Int32) then (0:Int32) else v3), w4))))
def M_tape_j32  (v1 : Int32) (v2 : Int32) (v3 : Int32) (mso_j : (Nat → Int32)) (mmy_j : (Nat → Int32)) (mit_j : (Nat → Int64)) : Option (Int32 × (Nat → Int32) × (Nat → Int32) × (Nat → Int64)) := if v2 = (-1:Int32) then (M_tape_j44 v1 v2 v3 mso_j mmy_j mit_j) else (if (0:Int32) ≤ v3 then (M_tape_j44 v1 v2 v3 mso_j mmy_j mit_j) else (some ((-14:Int32), mso_j, mmy_j, mit_j)))
def M_tape_j29  (mso_j : (Nat → Int32)) (mmy_j : (Nat → Int32)) (mit_j : (Nat → Int64)) : Option (Int32 × (Nat → Int32) × (Nat → Int32) × (Nat → Int64)) := some ((-2:Int32), mso_j, mmy_j, mit_j)
def M_tape (v1 : Int32) (v2 : Int32) (v3 : Int32) (mso : (Nat → Int32)) (mmy : (Nat → Int32)) (mit : (Nat → Int64)) : Option (Int32 × (Nat → Int32) × (Nat → Int32) × (Nat → Int64)) := if (M_isTape v1) = (0:Int32) then (some ((-1:Int32), mso, mmy, mit)) else (if (M_isIn v2 (-1:Int32) (4:Int32)) = (0:Int32) then (M_tape_j29 mso mmy mit) else (if v2 = (-1:Int32) then (M_tape_j32 v1 v2 v3 mso mmy mit) else (if v3 ≤ (60:Int32) then (M_tape_j32 v1 v2 v3 mso mmy mit) else (M_tape_j29 mso mmy mit))))
set_option maxRecDepth 10000 in
theorem M_tape_l70 {v1 : Int32}   (hE : cl = sxE sc (d + 2)) (hm : CallMono cl) : ∀ (n : Nat) (s : (Int32 × (Nat → Int64))) (r : (Nat → Int64)), wh (M_tape_s70 v1) n s = some r → (∀ (z0 z1 z2 z3 z4 : Option Value), sxWP sc cl Q 237 (96, [z0, z1, z2, z3, z4], [], (cW nw kp im ol sn sr tp (mW (mk.1, mk.2.1, mk.2.2.1, mk.2.2.2.1, mk.2.2.2.2.1, mk.2.2.2.2.2.1, mk.2.2.2.2.2.2.1, mk.2.2.2.2.2.2.2.1, mk.2.2.2.2.2.2.2.2.1, r) mg mt mc T)), 0, 0)) → ∀ (z2 z3 : Option Value), sxWP sc cl Q 237 (70, [some (.ref 59), some (.int v1), z2, z3, some (.int s.1)], [], (cW nw kp im ol sn sr tp (mW (mk.1, mk.2.1, mk.2.2.1, mk.2.2.2.1, mk.2.2.2.2.1, mk.2.2.2.2.2.1, mk.2.2.2.2.2.2.1, mk.2.2.2.2.2.2.2.1, mk.2.2.2.2.2.2.2.2.1, s.2) mg mt mc T)), 0, 0) := by
  refine wh_run (A := fun (s : (Int32 × (Nat → Int64))) => ∀ (z2 z3 : Option Value), sxWP sc cl Q 237 (70, [some (.ref 59), some (.int v1), z2, z3, some (.int s.1)], [], (cW nw kp im ol sn sr tp (mW (mk.1, mk.2.1, mk.2.2.1, mk.2.2.2.1, mk.2.2.2.2.1, mk.2.2.2.2.2.1, mk.2.2.2.2.2.2.1, mk.2.2.2.2.2.2.2.1, mk.2.2.2.2.2.2.2.2.1, s.2) mg mt mc T)), 0, 0)) (B := fun (r : (Nat → Int64)) => ∀ (z0 z1 z2 z3 z4 : Option Value), sxWP sc cl Q 237 (96, [z0, z1, z2, z3, z4], [], (cW nw kp im ol sn sr tp (mW (mk.1, mk.2.1, mk.2.2.1, mk.2.2.2.1, mk.2.2.2.2.1, mk.2.2.2.2.2.1, mk.2.2.2.2.2.2.1, mk.2.2.2.2.2.2.2.1, mk.2.2.2.2.2.2.2.2.1, r) mg mt mc T)), 0, 0)) (fun s x hf hA hB => ?_)
  intro z2 z3
  unfold M_tape_s70 at hf
  refine stp hm 3 (br hf (fun c1 hf => ?_) (fun c1 hf => ?_))
  · show sxWP sc cl Q 237 (96, [some (.ref 59), some (.int v1), z2, z3, some (.int s.1)], [], (cW nw kp im ol sn sr tp (mW (mk.1, mk.2.1, mk.2.2.1, mk.2.2.2.1, mk.2.2.2.2.1, mk.2.2.2.2.2.1, mk.2.2.2.2.2.2.1, mk.2.2.2.2.2.2.2.1, mk.2.2.2.2.2.2.2.2.1, s.2) mg mt mc T)), 0, 0)
    obtain rfl := Option.some.inj hf
    exact hB _ rfl _ _ _ _ _
  · show sxWP sc cl Q 237 (77, [some (.ref 59), some (.int v1), z2, z3, some (.int s.1)], [], (cW nw kp im ol sn sr tp (mW (mk.1, mk.2.1, mk.2.2.1, mk.2.2.2.1, mk.2.2.2.2.1, mk.2.2.2.2.2.1, mk.2.2.2.2.2.2.1, mk.2.2.2.2.2.2.2.1, mk.2.2.2.2.2.2.2.2.1, s.2) mg mt mc T)), 0, 0)
    obtain ⟨g2, hf⟩ := grd_e hf
    refine stp hm 9 (And.intro (gi_in g2) (?_ : sxWP sc cl Q 237 (90, [some (.ref 59), some (.int v1), z2, z3, some (.int s.1)], [], (cW nw kp im ol sn sr tp (mW (mk.1, mk.2.1, mk.2.2.1, mk.2.2.2.1, mk.2.2.2.2.1, mk.2.2.2.2.2.1, mk.2.2.2.2.2.2.1, mk.2.2.2.2.2.2.2.1, mk.2.2.2.2.2.2.2.2.1, vp_updL s.2 (((60:Int32) * v1) + s.1).toNatClampNeg (0:Int64)) mg mt mc T)), 0, 0)))
    obtain rfl := Option.some.inj hf
    refine stp hm 2 (?_ : sxWP sc cl Q 237 (70, [some (.ref 59), some (.int v1), z2, (sxc2 z3), some (.int (s.1 + (1:Int32)))], [], (cW nw kp im ol sn sr tp (mW (mk.1, mk.2.1, mk.2.2.1, mk.2.2.2.1, mk.2.2.2.2.1, mk.2.2.2.2.2.1, mk.2.2.2.2.2.2.1, mk.2.2.2.2.2.2.2.1, mk.2.2.2.2.2.2.2.2.1, vp_updL s.2 (((60:Int32) * v1) + s.1).toNatClampNeg (0:Int64)) mg mt mc T)), 0, 0))
    exact hA _ rfl _ _
set_option maxRecDepth 10000 in
theorem M_tape_ok {v1 : Int32} {v2 : Int32} {v3 : Int32} {q : (Int32 × (Nat → Int32) × (Nat → Int32) × (Nat → Int64))} (hc : call = sxE sc (d + 3)) (hf : M_tape v1 v2 v3 mk.2.2.2.2.2.2.2.1 mk.2.2.2.2.2.2.2.2.1 mk.2.2.2.2.2.2.2.2.2 = some q) (h : Q (some (.int q.1)) (cW nw kp im ol sn sr tp (mW (mk.1, mk.2.1, mk.2.2.1, mk.2.2.2.1, mk.2.2.2.2.1, mk.2.2.2.2.2.1, mk.2.2.2.2.2.2.1, q.2.1, q.2.2.1, q.2.2.2) mg mt mc T))) : call 237 [.ref 59, .int v1, .int v2, .int v3] (cW nw kp im ol sn sr tp (mW mk mg mt mc T)) Q := by
  refine ent hc rfl (fun cl hE hm => ?_)
  have J44 : ∀ (v1 : Int32) (v2 : Int32) (v3 : Int32) (mso_j : (Nat → Int32)) (mmy_j : (Nat → Int32)) (mit_j : (Nat → Int64)) (z4 : Option Value), M_tape_j44 v1 v2 v3 mso_j mmy_j mit_j = some q → sxWP sc cl Q 237 (44, [some (.ref 59), some (.int v1), some (.int v2), some (.int v3), z4], [], (cW nw kp im ol sn sr tp (mW (mk.1, mk.2.1, mk.2.2.1, mk.2.2.2.1, mk.2.2.2.2.1, mk.2.2.2.2.2.1, mk.2.2.2.2.2.2.1, mso_j, mmy_j, mit_j) mg mt mc T)), 0, 0) := by
    intro v1 v2 v3 mso_j mmy_j mit_j z4 hf
    unfold M_tape_j44 at hf
    obtain ⟨g1, hf⟩ := grd_e hf
    refine stp hm 5 (And.intro (gi_in g1) (?_ : sxWP sc cl Q 237 (51, [some (.ref 59), some (.int v1), some (.int v2), some (.int v3), z4], [], (cW nw kp im ol sn sr tp (mW (mk.1, mk.2.1, mk.2.2.1, mk.2.2.2.1, mk.2.2.2.2.1, mk.2.2.2.2.2.1, mk.2.2.2.2.2.2.1, upd mso_j v1.toNatClampNeg v2, mmy_j, mit_j) mg mt mc T)), 0, 0)))
    have m2 : ∀ (m2_0 : Int32), m2_0 = (if v2 = (-1:Int32) then (0:Int32) else v3) → sxWP sc cl Q 237 (66, [some (.ref 59), some (.int v1), some (.int v2), some (.int v3), z4], [.int m2_0, .int v1, .ref 64], (cW nw kp im ol sn sr tp (mW (mk.1, mk.2.1, mk.2.2.1, mk.2.2.2.1, mk.2.2.2.2.1, mk.2.2.2.2.2.1, mk.2.2.2.2.2.2.1, upd mso_j v1.toNatClampNeg v2, mmy_j, mit_j) mg mt mc T)), 0, 0) := by
      intro m2_0 em2_0
      subst em2_0
      obtain ⟨g3, hf⟩ := grd_e hf
      refine stp hm 1 (And.intro (gi_in g3) (?_ : sxWP sc cl Q 237 (67, [some (.ref 59), some (.int v1), some (.int v2), some (.int v3), z4], [], (cW nw kp im ol sn sr tp (mW (mk.1, mk.2.1, mk.2.2.1, mk.2.2.2.1, mk.2.2.2.2.1, mk.2.2.2.2.2.1, mk.2.2.2.2.2.2.1, upd mso_j v1.toNatClampNeg v2, upd mmy_j v1.toNatClampNeg (if v2 = (-1:Int32) then (0:Int32) else v3), mit_j) mg mt mc T)), 0, 0)))
      obtain ⟨w4, hw4, hf⟩ := bnd hf
      refine stp hm 2 (?_ : sxWP sc cl Q 237 (70, [some (.ref 59), some (.int v1), some (.int v2), some (.int v3), some (.int (0:Int32))], [], (cW nw kp im ol sn sr tp (mW (mk.1, mk.2.1, mk.2.2.1, mk.2.2.2.1, mk.2.2.2.2.1, mk.2.2.2.2.2.1, mk.2.2.2.2.2.2.1, upd mso_j v1.toNatClampNeg v2, upd mmy_j v1.toNatClampNeg (if v2 = (-1:Int32) then (0:Int32) else v3), mit_j) mg mt mc T)), 0, 0))
      refine M_tape_l70 hE hm _ _ _ hw4 ?_ _ _
      intro w4_z0 w4_z1 w4_z2 w4_z3 w4_z4
      show sxWP sc cl Q 237 (96, [w4_z0, w4_z1, w4_z2, w4_z3, w4_z4], [], (cW nw kp im ol sn sr tp (mW (mk.1, mk.2.1, mk.2.2.1, mk.2.2.2.1, mk.2.2.2.2.1, mk.2.2.2.2.2.1, mk.2.2.2.2.2.2.1, upd mso_j v1.toNatClampNeg v2, upd mmy_j v1.toNatClampNeg (if v2 = (-1:Int32) then (0:Int32) else v3), w4) mg mt mc T)), 0, 0)
      obtain rfl := Option.some.inj hf
      refine stp hm 2 ?_
      exact h
    refine stp hm 6 (bsn (c := v2 = (-1:Int32)) (fun c5 => ?_) (fun c5 => ?_))
    · have c5 : ¬ v2 = (-1:Int32) := c5
      refine stp hm 1 (?_ : sxWP sc cl Q 237 (66, [some (.ref 59), some (.int v1), some (.int v2), some (.int v3), z4], [.int v3, .int v1, .ref 64], (cW nw kp im ol sn sr tp (mW (mk.1, mk.2.1, mk.2.2.1, mk.2.2.2.1, mk.2.2.2.2.1, mk.2.2.2.2.2.1, mk.2.2.2.2.2.2.1, upd mso_j v1.toNatClampNeg v2, mmy_j, mit_j) mg mt mc T)), 0, 0))
      exact m2 _ (by rw [if_neg c5])
    · have c5 : v2 = (-1:Int32) := c5
      refine stp hm 2 (?_ : sxWP sc cl Q 237 (66, [some (.ref 59), some (.int v1), some (.int v2), some (.int v3), z4], [.int (0:Int32), .int v1, .ref 64], (cW nw kp im ol sn sr tp (mW (mk.1, mk.2.1, mk.2.2.1, mk.2.2.2.1, mk.2.2.2.2.1, mk.2.2.2.2.2.1, mk.2.2.2.2.2.2.1, upd mso_j v1.toNatClampNeg v2, mmy_j, mit_j) mg mt mc T)), 0, 0))
      exact m2 _ (by rw [if_pos c5])
  have J32 : ∀ (v1 : Int32) (v2 : Int32) (v3 : Int32) (mso_j : (Nat → Int32)) (mmy_j : (Nat → Int32)) (mit_j : (Nat → Int64)) (z4 : Option Value), M_tape_j32 v1 v2 v3 mso_j mmy_j mit_j = some q → sxWP sc cl Q 237 (32, [some (.ref 59), some (.int v1), some (.int v2), some (.int v3), z4], [], (cW nw kp im ol sn sr tp (mW (mk.1, mk.2.1, mk.2.2.1, mk.2.2.2.1, mk.2.2.2.2.1, mk.2.2.2.2.2.1, mk.2.2.2.2.2.2.1, mso_j, mmy_j, mit_j) mg mt mc T)), 0, 0) := by
    intro v1 v2 v3 mso_j mmy_j mit_j z4 hf
    unfold M_tape_j32 at hf
    refine stp hm 3 (br hf (fun c6 hf => ?_) (fun c6 hf => ?_))
    · show sxWP sc cl Q 237 (44, [some (.ref 59), some (.int v1), some (.int v2), some (.int v3), z4], [], (cW nw kp im ol sn sr tp (mW (mk.1, mk.2.1, mk.2.2.1, mk.2.2.2.1, mk.2.2.2.2.1, mk.2.2.2.2.2.1, mk.2.2.2.2.2.2.1, mso_j, mmy_j, mit_j) mg mt mc T)), 0, 0)
      exact J44 _ _ _ _ _ _ _ hf
    · show sxWP sc cl Q 237 (37, [some (.ref 59), some (.int v1), some (.int v2), some (.int v3), z4], [], (cW nw kp im ol sn sr tp (mW (mk.1, mk.2.1, mk.2.2.1, mk.2.2.2.1, mk.2.2.2.2.1, mk.2.2.2.2.2.1, mk.2.2.2.2.2.2.1, mso_j, mmy_j, mit_j) mg mt mc T)), 0, 0)
      refine stp hm 2 (br hf (fun c7 hf => ?_) (fun c7 hf => ?_))
      · show sxWP sc cl Q 237 (44, [some (.ref 59), some (.int v1), some (.int v2), some (.int v3), z4], [], (cW nw kp im ol sn sr tp (mW (mk.1, mk.2.1, mk.2.2.1, mk.2.2.2.1, mk.2.2.2.2.1, mk.2.2.2.2.2.1, mk.2.2.2.2.2.2.1, mso_j, mmy_j, mit_j) mg mt mc T)), 0, 0)
        exact J44 _ _ _ _ _ _ _ hf
      · show sxWP sc cl Q 237 (41, [some (.ref 59), some (.int v1), some (.int v2), some (.int v3), z4], [], (cW nw kp im ol sn sr tp (mW (mk.1, mk.2.1, mk.2.2.1, mk.2.2.2.1, mk.2.2.2.2.1, mk.2.2.2.2.2.1, mk.2.2.2.2.2.2.1, mso_j, mmy_j, mit_j) mg mt mc T)), 0, 0)
        obtain rfl := Option.some.inj hf
        refine stp hm 2 ?_
        exact h
  have J29 : ∀ (mso_j : (Nat → Int32)) (mmy_j : (Nat → Int32)) (mit_j : (Nat → Int64)) (z0 : Option Value) (z1 : Option Value) (z2 : Option Value) (z3 : Option Value) (z4 : Option Value), M_tape_j29 mso_j mmy_j mit_j = some q → sxWP sc cl Q 237 (29, [z0, z1, z2, z3, z4], [], (cW nw kp im ol sn sr tp (mW (mk.1, mk.2.1, mk.2.2.1, mk.2.2.2.1, mk.2.2.2.2.1, mk.2.2.2.2.2.1, mk.2.2.2.2.2.2.1, mso_j, mmy_j, mit_j) mg mt mc T)), 0, 0) := by
    intro mso_j mmy_j mit_j z0 z1 z2 z3 z4 hf
    unfold M_tape_j29 at hf
    obtain rfl := Option.some.inj hf
    refine stp hm 2 ?_
    exact h
  unfold M_tape at hf
  refine stp hm 2 (M_isTape_ok hE rfl ?_)
  show sxWP sc cl Q 237 (4, [some (.ref 59), some (.int v1), some (.int v2), some (.int v3), none], [.int (M_isTape v1)], (cW nw kp im ol sn sr tp (mW mk mg mt mc T)), 0, 0)
  refine stp hm 1 (brn hf (fun c8 hf => ?_) (fun c8 hf => ?_))
  · show sxWP sc cl Q 237 (9, [some (.ref 59), some (.int v1), some (.int v2), some (.int v3), none], [], (cW nw kp im ol sn sr tp (mW mk mg mt mc T)), 0, 0)
    refine stp hm 4 (M_isIn_ok hE rfl ?_)
    show sxWP sc cl Q 237 (15, [some (.ref 59), some (.int v1), some (.int v2), some (.int v3), none], [.int (M_isIn v2 (-1:Int32) (4:Int32))], (cW nw kp im ol sn sr tp (mW mk mg mt mc T)), 0, 0)
    refine stp hm 1 (br hf (fun c9 hf => ?_) (fun c9 hf => ?_))
    · show sxWP sc cl Q 237 (29, [some (.ref 59), some (.int v1), some (.int v2), some (.int v3), none], [], (cW nw kp im ol sn sr tp (mW mk mg mt mc T)), 0, 0)
      exact J29 _ _ _ _ _ _ _ _ hf
    · show sxWP sc cl Q 237 (18, [some (.ref 59), some (.int v1), some (.int v2), some (.int v3), none], [], (cW nw kp im ol sn sr tp (mW mk mg mt mc T)), 0, 0)
      refine stp hm 3 (br hf (fun c10 hf => ?_) (fun c10 hf => ?_))
      · show sxWP sc cl Q 237 (32, [some (.ref 59), some (.int v1), some (.int v2), some (.int v3), none], [], (cW nw kp im ol sn sr tp (mW mk mg mt mc T)), 0, 0)
        exact J32 _ _ _ _ _ _ _ hf
      · show sxWP sc cl Q 237 (23, [some (.ref 59), some (.int v1), some (.int v2), some (.int v3), none], [], (cW nw kp im ol sn sr tp (mW mk mg mt mc T)), 0, 0)
        refine stp hm 3 (br hf (fun c11 hf => ?_) (fun c11 hf => ?_))
        · show sxWP sc cl Q 237 (32, [some (.ref 59), some (.int v1), some (.int v2), some (.int v3), none], [], (cW nw kp im ol sn sr tp (mW mk mg mt mc T)), 0, 0)
          exact J32 _ _ _ _ _ _ _ hf
        · show sxWP sc cl Q 237 (29, [some (.ref 59), some (.int v1), some (.int v2), some (.int v3), none], [], (cW nw kp im ol sn sr tp (mW mk mg mt mc T)), 0, 0)
          exact J29 _ _ _ _ _ _ _ _ hf
  · show sxWP sc cl Q 237 (7, [some (.ref 59), some (.int v1), some (.int v2), some (.int v3), none], [], (cW nw kp im ol sn sr tp (mW mk mg mt mc T)), 0, 0)
    obtain rfl := Option.some.inj hf
    refine stp hm 2 ?_
    exact h

def M_lowest (v0 : Int32) (v1 : Int64)  : Int64 := if v0 = (0:Int32) then v1.toInt32.toInt8.toInt32.toInt64 else (if v0 = (1:Int32) then v1.toInt32.toInt16.toInt32.toInt64 else (if v0 = (2:Int32) then v1.toInt32.toInt64 else (if v0 = (3:Int32) then v1 else (if v1 = (0:Int64) then (0:Int64) else (1:Int64)))))
set_option maxRecDepth 10000 in
theorem M_lowest_ok {v0 : Int32} {v1 : Int64} {r : Int64} (hc : call = sxE sc (d + 1)) (hf : M_lowest v0 v1 = r) (h : Q (some (.long r)) hp) : call 238 [.int v0, .long v1] hp Q := by
  refine ent hc rfl (fun cl hE hm => ?_)
  unfold M_lowest at hf
  refine stp hm 2 ?_
  show sxWP sc cl Q 238 ((swT (v0).toInt (0) [32, 37, 42, 46] 48), [some (.int v0), some (.long v1), none], [], hp, 0, 0)
  rcases ite_or hf with ⟨c1_0, hf⟩ | ⟨c1_0, hf⟩
  · rw [show swT (v0).toInt (0) [32, 37, 42, 46] 48 = 32 by rw [c1_0]; rfl]
    subst hf
    refine stp hm 5 ?_
    exact h
  rcases ite_or hf with ⟨c1_1, hf⟩ | ⟨c1_1, hf⟩
  · rw [show swT (v0).toInt (0) [32, 37, 42, 46] 48 = 37 by rw [c1_1]; rfl]
    subst hf
    refine stp hm 5 ?_
    exact h
  rcases ite_or hf with ⟨c1_2, hf⟩ | ⟨c1_2, hf⟩
  · rw [show swT (v0).toInt (0) [32, 37, 42, 46] 48 = 42 by rw [c1_2]; rfl]
    subst hf
    refine stp hm 4 ?_
    exact h
  rcases ite_or hf with ⟨c1_3, hf⟩ | ⟨c1_3, hf⟩
  · rw [show swT (v0).toInt (0) [32, 37, 42, 46] 48 = 46 by rw [c1_3]; rfl]
    subst hf
    refine stp hm 2 ?_
    exact h
  have tc1_0 : ¬ (v0).toInt = 0 := fun e => c1_0 (Int32.toInt_inj.mp e)
  have tc1_1 : ¬ (v0).toInt = 1 := fun e => c1_1 (Int32.toInt_inj.mp e)
  have tc1_2 : ¬ (v0).toInt = 2 := fun e => c1_2 (Int32.toInt_inj.mp e)
  have tc1_3 : ¬ (v0).toInt = 3 := fun e => c1_3 (Int32.toInt_inj.mp e)
  rw [show swT (v0).toInt (0) [32, 37, 42, 46] 48 = 48 by simp [swT, tc1_0, tc1_1, tc1_2, tc1_3]]
  have m2 : ∀ (m2_0 : Int64), m2_0 = (if v1 = (0:Int64) then (0:Int64) else (1:Int64)) → sxWP sc cl Q 238 (59, [some (.int v0), some (.long v1), none], [.long m2_0], hp, 0, 0) := by
    intro m2_0 em2_0
    subst em2_0
    subst hf
    refine stp hm 1 ?_
    exact h
  refine stp hm 4 (bsI (lg_cmp_eq _ _) (fun c3 => ?_) (fun c3 => ?_))
  · have c3 : v1 = (0:Int64) := c3
    refine stp hm 1 (?_ : sxWP sc cl Q 238 (59, [some (.int v0), some (.long v1), none], [.long (0:Int64)], hp, 0, 0))
    exact m2 _ (by rw [if_pos c3])
  · have c3 : ¬ v1 = (0:Int64) := c3
    refine stp hm 2 (?_ : sxWP sc cl Q 238 (59, [some (.int v0), some (.long v1), none], [.long (1:Int64)], hp, 0, 0))
    exact m2 _ (by rw [if_neg c3])

def M_item (v1 : Int32) (v2 : Int32) (v3 : Int64) (mso : (Nat → Int32)) (mmy : (Nat → Int32)) (mit : (Nat → Int64)) : Option (Int32 × (Nat → Int64)) := if (M_isTape v1) = (0:Int32) then (some ((-1:Int32), mit)) else (grd (gi v1 6) (if (mso v1.toNatClampNeg) = (-1:Int32) then (some ((-11:Int32), mit)) else (grd (gi v1 6) (if (M_isIn v2 (0:Int32) ((mmy v1.toNatClampNeg) - (1:Int32))) = (0:Int32) then (some ((-13:Int32), mit)) else (grd (gi v1 6) (grd (gi (((60:Int32) * v1) + v2) 360) (some ((1:Int32), vp_updL mit (((60:Int32) * v1) + v2).toNatClampNeg (M_lowest (mso v1.toNatClampNeg) v3)))))))))
set_option maxRecDepth 10000 in
theorem M_item_ok {v1 : Int32} {v2 : Int32} {v3 : Int64} {q : (Int32 × (Nat → Int64))} (hc : call = sxE sc (d + 3)) (hf : M_item v1 v2 v3 mk.2.2.2.2.2.2.2.1 mk.2.2.2.2.2.2.2.2.1 mk.2.2.2.2.2.2.2.2.2 = some q) (h : Q (some (.int q.1)) (cW nw kp im ol sn sr tp (mW (mk.1, mk.2.1, mk.2.2.1, mk.2.2.2.1, mk.2.2.2.2.1, mk.2.2.2.2.2.1, mk.2.2.2.2.2.2.1, mk.2.2.2.2.2.2.2.1, mk.2.2.2.2.2.2.2.2.1, q.2) mg mt mc T))) : call 239 [.ref 59, .int v1, .int v2, .long v3] (cW nw kp im ol sn sr tp (mW mk mg mt mc T)) Q := by
  refine ent hc rfl (fun cl hE hm => ?_)
  unfold M_item at hf
  refine stp hm 2 (M_isTape_ok hE rfl ?_)
  show sxWP sc cl Q 239 (4, [some (.ref 59), some (.int v1), some (.int v2), some (.long v3), none], [.int (M_isTape v1)], (cW nw kp im ol sn sr tp (mW mk mg mt mc T)), 0, 0)
  refine stp hm 1 (brn hf (fun c1 hf => ?_) (fun c1 hf => ?_))
  · show sxWP sc cl Q 239 (9, [some (.ref 59), some (.int v1), some (.int v2), some (.long v3), none], [], (cW nw kp im ol sn sr tp (mW mk mg mt mc T)), 0, 0)
    obtain ⟨g2, hf⟩ := grd_e hf
    refine stp hm 4 (And.intro (gi_in g2) (?_ : sxWP sc cl Q 239 (15, [some (.ref 59), some (.int v1), some (.int v2), some (.long v3), none], [.int (mk.2.2.2.2.2.2.2.1 v1.toNatClampNeg)], (cW nw kp im ol sn sr tp (mW mk mg mt mc T)), 0, 0)))
    refine stp hm 2 (brn hf (fun c3 hf => ?_) (fun c3 hf => ?_))
    · show sxWP sc cl Q 239 (22, [some (.ref 59), some (.int v1), some (.int v2), some (.long v3), none], [], (cW nw kp im ol sn sr tp (mW mk mg mt mc T)), 0, 0)
      obtain ⟨g4, hf⟩ := grd_e hf
      refine stp hm 6 (And.intro (gi_in g4) (?_ : sxWP sc cl Q 239 (30, [some (.ref 59), some (.int v1), some (.int v2), some (.long v3), none], [.int (mk.2.2.2.2.2.2.2.2.1 v1.toNatClampNeg), .int (0:Int32), .int v2], (cW nw kp im ol sn sr tp (mW mk mg mt mc T)), 0, 0)))
      refine stp hm 3 (M_isIn_ok hE rfl ?_)
      show sxWP sc cl Q 239 (35, [some (.ref 59), some (.int v1), some (.int v2), some (.long v3), none], [.int (M_isIn v2 (0:Int32) ((mk.2.2.2.2.2.2.2.2.1 v1.toNatClampNeg) - (1:Int32)))], (cW nw kp im ol sn sr tp (mW mk mg mt mc T)), 0, 0)
      refine stp hm 1 (brn hf (fun c5 hf => ?_) (fun c5 hf => ?_))
      · show sxWP sc cl Q 239 (41, [some (.ref 59), some (.int v1), some (.int v2), some (.long v3), none], [], (cW nw kp im ol sn sr tp (mW mk mg mt mc T)), 0, 0)
        obtain ⟨g6, hf⟩ := grd_e hf
        refine stp hm 11 (And.intro (gi_in g6) (?_ : sxWP sc cl Q 239 (57, [some (.ref 59), some (.int v1), some (.int v2), some (.long v3), none], [.int (mk.2.2.2.2.2.2.2.1 v1.toNatClampNeg), .int (((60:Int32) * v1) + v2), .ref 65], (cW nw kp im ol sn sr tp (mW mk mg mt mc T)), 0, 0)))
        refine stp hm 2 (M_lowest_ok hE rfl ?_)
        show sxWP sc cl Q 239 (61, [some (.ref 59), some (.int v1), some (.int v2), some (.long v3), none], [.long (M_lowest (mk.2.2.2.2.2.2.2.1 v1.toNatClampNeg) v3), .int (((60:Int32) * v1) + v2), .ref 65], (cW nw kp im ol sn sr tp (mW mk mg mt mc T)), 0, 0)
        obtain ⟨g7, hf⟩ := grd_e hf
        refine stp hm 1 (And.intro (gi_in g7) (?_ : sxWP sc cl Q 239 (62, [some (.ref 59), some (.int v1), some (.int v2), some (.long v3), none], [], (cW nw kp im ol sn sr tp (mW (mk.1, mk.2.1, mk.2.2.1, mk.2.2.2.1, mk.2.2.2.2.1, mk.2.2.2.2.2.1, mk.2.2.2.2.2.2.1, mk.2.2.2.2.2.2.2.1, mk.2.2.2.2.2.2.2.2.1, vp_updL mk.2.2.2.2.2.2.2.2.2 (((60:Int32) * v1) + v2).toNatClampNeg (M_lowest (mk.2.2.2.2.2.2.2.1 v1.toNatClampNeg) v3)) mg mt mc T)), 0, 0)))
        obtain rfl := Option.some.inj hf
        refine stp hm 2 ?_
        exact h
      · show sxWP sc cl Q 239 (38, [some (.ref 59), some (.int v1), some (.int v2), some (.long v3), none], [], (cW nw kp im ol sn sr tp (mW mk mg mt mc T)), 0, 0)
        obtain rfl := Option.some.inj hf
        refine stp hm 2 ?_
        exact h
    · show sxWP sc cl Q 239 (19, [some (.ref 59), some (.int v1), some (.int v2), some (.long v3), none], [], (cW nw kp im ol sn sr tp (mW mk mg mt mc T)), 0, 0)
      obtain rfl := Option.some.inj hf
      refine stp hm 2 ?_
      exact h
  · show sxWP sc cl Q 239 (7, [some (.ref 59), some (.int v1), some (.int v2), some (.long v3), none], [], (cW nw kp im ol sn sr tp (mW mk mg mt mc T)), 0, 0)
    obtain rfl := Option.some.inj hf
    refine stp hm 2 ?_
    exact h

def M_peek_j40  (k0 : Int64) : Option Int64 := some k0
def M_peek_j37   : Option Int64 := M_peek_j40 (-9223372036854775808:Int64)
def M_peek (v1 : Int32) (v2 : Int32) (mmy : (Nat → Int32)) (mit : (Nat → Int64)) : Option Int64 := if (M_isTape v1) = (0:Int32) then M_peek_j37 else (grd (gi v1 6) (if (M_isIn v2 (0:Int32) ((mmy v1.toNatClampNeg) - (1:Int32))) = (0:Int32) then M_peek_j37 else (grd (gi (((60:Int32) * v1) + v2) 360) (M_peek_j40 (mit (((60:Int32) * v1) + v2).toNatClampNeg)))))
set_option maxRecDepth 10000 in
theorem M_peek_ok {v1 : Int32} {v2 : Int32} {q : Int64} (hc : call = sxE sc (d + 3)) (hf : M_peek v1 v2 mk.2.2.2.2.2.2.2.2.1 mk.2.2.2.2.2.2.2.2.2 = some q) (h : Q (some (.long q)) (cW nw kp im ol sn sr tp (mW mk mg mt mc T))) : call 240 [.ref 59, .int v1, .int v2] (cW nw kp im ol sn sr tp (mW mk mg mt mc T)) Q := by
  refine ent hc rfl (fun cl hE hm => ?_)
  have J40 : ∀ (k0 : Int64) (z0 : Option Value) (z1 : Option Value) (z2 : Option Value), M_peek_j40 k0 = some q → sxWP sc cl Q 240 (40, [z0, z1, z2], [.long k0], (cW nw kp im ol sn sr tp (mW mk mg mt mc T)), 0, 0) := by
    intro k0 z0 z1 z2 hf
    unfold M_peek_j40 at hf
    obtain rfl := Option.some.inj hf
    refine stp hm 1 ?_
    exact h
  have J37 : ∀  (z0 : Option Value) (z1 : Option Value) (z2 : Option Value), M_peek_j37 = some q → sxWP sc cl Q 240 (37, [z0, z1, z2], [], (cW nw kp im ol sn sr tp (mW mk mg mt mc T)), 0, 0) := by
    intro z0 z1 z2 hf
    unfold M_peek_j37 at hf
    refine stp hm 1 (?_ : sxWP sc cl Q 240 (40, [z0, z1, z2], [.long (-9223372036854775808:Int64)], (cW nw kp im ol sn sr tp (mW mk mg mt mc T)), 0, 0))
    exact J40 _ _ _ _ hf
  unfold M_peek at hf
  refine stp hm 2 (M_isTape_ok hE rfl ?_)
  show sxWP sc cl Q 240 (4, [some (.ref 59), some (.int v1), some (.int v2)], [.int (M_isTape v1)], (cW nw kp im ol sn sr tp (mW mk mg mt mc T)), 0, 0)
  refine stp hm 1 (br hf (fun c1 hf => ?_) (fun c1 hf => ?_))
  · show sxWP sc cl Q 240 (37, [some (.ref 59), some (.int v1), some (.int v2)], [], (cW nw kp im ol sn sr tp (mW mk mg mt mc T)), 0, 0)
    exact J37 _ _ _ hf
  · show sxWP sc cl Q 240 (7, [some (.ref 59), some (.int v1), some (.int v2)], [], (cW nw kp im ol sn sr tp (mW mk mg mt mc T)), 0, 0)
    obtain ⟨g2, hf⟩ := grd_e hf
    refine stp hm 6 (And.intro (gi_in g2) (?_ : sxWP sc cl Q 240 (15, [some (.ref 59), some (.int v1), some (.int v2)], [.int (mk.2.2.2.2.2.2.2.2.1 v1.toNatClampNeg), .int (0:Int32), .int v2], (cW nw kp im ol sn sr tp (mW mk mg mt mc T)), 0, 0)))
    refine stp hm 3 (M_isIn_ok hE rfl ?_)
    show sxWP sc cl Q 240 (20, [some (.ref 59), some (.int v1), some (.int v2)], [.int (M_isIn v2 (0:Int32) ((mk.2.2.2.2.2.2.2.2.1 v1.toNatClampNeg) - (1:Int32)))], (cW nw kp im ol sn sr tp (mW mk mg mt mc T)), 0, 0)
    refine stp hm 1 (br hf (fun c3 hf => ?_) (fun c3 hf => ?_))
    · show sxWP sc cl Q 240 (37, [some (.ref 59), some (.int v1), some (.int v2)], [], (cW nw kp im ol sn sr tp (mW mk mg mt mc T)), 0, 0)
      exact J37 _ _ _ hf
    · show sxWP sc cl Q 240 (23, [some (.ref 59), some (.int v1), some (.int v2)], [], (cW nw kp im ol sn sr tp (mW mk mg mt mc T)), 0, 0)
      obtain ⟨g4, hf⟩ := grd_e hf
      refine stp hm 8 (And.intro (gi_in g4) (?_ : sxWP sc cl Q 240 (34, [some (.ref 59), some (.int v1), some (.int v2)], [.long (mk.2.2.2.2.2.2.2.2.2 (((60:Int32) * v1) + v2).toNatClampNeg)], (cW nw kp im ol sn sr tp (mW mk mg mt mc T)), 0, 0)))
      refine stp hm 1 (?_ : sxWP sc cl Q 240 (40, [some (.ref 59), some (.int v1), some (.int v2)], [.long (mk.2.2.2.2.2.2.2.2.2 (((60:Int32) * v1) + v2).toNatClampNeg)], (cW nw kp im ol sn sr tp (mW mk mg mt mc T)), 0, 0))
      exact J40 _ _ _ _ hf
end PT
