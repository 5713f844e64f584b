/-! methods as functions (printed by wip/whole/dec) -/
section PT
variable {sc : sxS} {d : Nat} {Q : sxR} {hp : sxH} {call cl : sxX} {nw kp : tSt} {im : Int32} {ol : tOl} {sn : tSn} {sr : tSc} {tp : Nat → tTp} {mk : tMk} {mg : tMg} {mt : tMt} {mc : tMc} {T : sxH}

def X_odds_s66  (v2 : Int32) (v3 : Int32) (skd : Int32) (s : (Int32 × Int32 × Int32 × Int32 × Int32 × (Nat → Int64) × (Nat → Int32) × (Nat → UInt32))) : Option ((Int32 × Int32 × Int32 × Int32 × Int32 × (Nat → Int64) × (Nat → Int32) × (Nat → UInt32)) ⊕ (Int32 × Int32 × Int32 × Int32 × (Nat → Int64) × (Nat → Int32) × (Nat → UInt32))) := if (1000000:Int32) ≤ s.2.2.1 then (some (Sum.inr (s.1, s.2.1, s.2.2.2.1, s.2.2.2.2.1, s.2.2.2.2.2.1, s.2.2.2.2.2.2.1, s.2.2.2.2.2.2.2))) else (Option.bind (N_advance skd s.2.2.2.1 s.2.2.2.2.1 s.2.2.2.2.2.1 s.2.2.2.2.2.2.1 s.2.2.2.2.2.2.2) (fun q2 => if q2.1 = (0:Int32) then (some (Sum.inr (s.1, s.2.1, q2.2.1, q2.2.2.1, q2.2.2.2.1, q2.2.2.2.2.1, q2.2.2.2.2.2))) else (Option.bind (N_formOver v2 q2.2.1 q2.2.2.2.1 q2.2.2.2.2.1) (fun q4 => some (Sum.inl (s.1 + (1:Int32), if q4 = v3 then (s.2.1 + (1:Int32)) else s.2.1, s.2.2.1 + (1:Int32), q2.2.1, q2.2.2.1, q2.2.2.2.1, q2.2.2.2.2.1, q2.2.2.2.2.2))))))
def X_odds_j146  (k0 : Int64) (skd_j : Int32) (sdp_j : Int32) (sfd_j : Int32) (sop_j : (Nat → Int64)) (str_j : (Nat → Int32)) (spr_j : (Nat → UInt32)) : Option (Int64 × Int32 × Int32 × Int32 × (Nat → Int64) × (Nat → Int32) × (Nat → UInt32)) := some (k0, skd_j, sdp_j, sfd_j, sop_j, str_j, spr_j)
def X_odds_j38  (skd_j : Int32) (sdp_j : Int32) (sfd_j : Int32) (sop_j : (Nat → Int64)) (str_j : (Nat → Int32)) (spr_j : (Nat → UInt32)) : Option (Int64 × Int32 × Int32 × Int32 × (Nat → Int64) × (Nat → Int32) × (Nat → UInt32)) := some ((-9223372036854775808:Int64), skd_j, sdp_j, sfd_j, sop_j, str_j, spr_j)
def X_odds_j14  (skd_j : Int32) (sdp_j : Int32) (sfd_j : Int32) (sop_j : (Nat → Int64)) (str_j : (Nat → Int32)) (spr_j : (Nat → UInt32)) : Option (Int64 × Int32 × Int32 × Int32 × (Nat → Int64) × (Nat → Int32) × (Nat → UInt32)) := some ((-9223372036854775808:Int64), skd_j, sdp_j, sfd_j, sop_j, str_j, spr_j)
def X_odds (v1 : Int32) (v2 : Int32) (v3 : Int32) (v4 : Int32) (nrg : Int64) (skd : Int32) (sdp : Int32) (sfd : Int32) (sop : (Nat → Int64)) (str : (Nat → Int32)) (spr : (Nat → UInt32)) : Option (Int64 × Int32 × Int32 × Int32 × (Nat → Int64) × (Nat → Int32) × (Nat → UInt32)) := if (N_isKind v1) = (0:Int32) then (X_odds_j14 skd sdp sfd sop str spr) else (if (G_isCell v2) = (0:Int32) then (X_odds_j14 skd sdp sfd sop str spr) else (if v3 < (0:Int32) then (X_odds_j38 skd sdp sfd sop str spr) else (if (N_forms v1) ≤ v3 then (X_odds_j38 skd sdp sfd sop str spr) else (if (X_isBit v4) = (0:Int32) then (X_odds_j38 skd sdp sfd sop str spr) else (Option.bind (N_start v1 nrg sop str spr) (fun q6 => Option.bind (wh (X_odds_s66 v2 v3 q6.1) FU ((0:Int32), (0:Int32), (0:Int32), q6.2.1, q6.2.2.1, q6.2.2.2.1, q6.2.2.2.2.1, q6.2.2.2.2.2)) (fun w7 => Option.bind (X_commonDivisor w7.1 w7.2.1) (fun q8 => if q8 = (0:Int32) then (some ((-9223372036854775808:Int64), q6.1, w7.2.2.1, w7.2.2.2.1, w7.2.2.2.2.1, w7.2.2.2.2.2.1, w7.2.2.2.2.2.2)) else (if v4 = (0:Int32) then (grd (decide (¬ q8 = 0)) (X_odds_j146 ((w7.2.1 / q8).toInt64) q6.1 w7.2.2.1 w7.2.2.2.1 w7.2.2.2.2.1 w7.2.2.2.2.2.1 w7.2.2.2.2.2.2)) else (grd (decide (¬ q8 = 0)) (X_odds_j146 ((w7.1 / q8).toInt64) q6.1 w7.2.2.1 w7.2.2.2.1 w7.2.2.2.2.1 w7.2.2.2.2.2.1 w7.2.2.2.2.2.2)))))))))))
set_option maxRecDepth 10000 in
theorem X_odds_l66 {v2 : Int32} {v3 : Int32} {v4 : Int32}   (hE : cl = sxE sc (d + 4)) (hm : CallMono cl) : ∀ (n : Nat) (s : (Int32 × Int32 × Int32 × Int32 × Int32 × (Nat → Int64) × (Nat → Int32) × (Nat → UInt32))) (r : (Int32 × Int32 × Int32 × Int32 × (Nat → Int64) × (Nat → Int32) × (Nat → UInt32))), wh (X_odds_s66 v2 v3 sn.1) n s = some r → (∀ (z0 z1 z2 z3 z7 : Option Value), sxWP sc cl Q 119 (108, [z0, z1, z2, z3, some (.int v4), some (.int r.1), some (.int r.2.1), z7], [], (cW nw kp im ol (sn.1, r.2.2.1, r.2.2.2.1, r.2.2.2.2.1, r.2.2.2.2.2.1, r.2.2.2.2.2.2) sr tp (mW mk mg mt mc T)), 0, 0)) → ∀ (z1 : Option Value), sxWP sc cl Q 119 (66, [some (.ref 0), z1, some (.int v2), some (.int v3), some (.int v4), some (.int s.1), some (.int s.2.1), some (.int s.2.2.1)], [], (cW nw kp im ol (sn.1, s.2.2.2.1, s.2.2.2.2.1, s.2.2.2.2.2.1, s.2.2.2.2.2.2.1, s.2.2.2.2.2.2.2) sr tp (mW mk mg mt mc T)), 0, 0) := by
  refine wh_run (A := fun (s : (Int32 × Int32 × Int32 × Int32 × Int32 × (Nat → Int64) × (Nat → Int32) × (Nat → UInt32))) => ∀ (z1 : Option Value), sxWP sc cl Q 119 (66, [some (.ref 0), z1, some (.int v2), some (.int v3), some (.int v4), some (.int s.1), some (.int s.2.1), some (.int s.2.2.1)], [], (cW nw kp im ol (sn.1, s.2.2.2.1, s.2.2.2.2.1, s.2.2.2.2.2.1, s.2.2.2.2.2.2.1, s.2.2.2.2.2.2.2) sr tp (mW mk mg mt mc T)), 0, 0)) (B := fun (r : (Int32 × Int32 × Int32 × Int32 × (Nat → Int64) × (Nat → Int32) × (Nat → UInt32))) => ∀ (z0 z1 z2 z3 z7 : Option Value), sxWP sc cl Q 119 (108, [z0, z1, z2, z3, some (.int v4), some (.int r.1), some (.int r.2.1), z7], [], (cW nw kp im ol (sn.1, r.2.2.1, r.2.2.2.1, r.2.2.2.2.1, r.2.2.2.2.2.1, r.2.2.2.2.2.2) sr tp (mW mk mg mt mc T)), 0, 0)) (fun s x hf hA hB => ?_)
  intro z1
  unfold X_odds_s66 at hf
  refine stp hm 3 (br hf (fun c1 hf => ?_) (fun c1 hf => ?_))
  · show sxWP sc cl Q 119 (108, [some (.ref 0), z1, some (.int v2), some (.int v3), some (.int v4), some (.int s.1), some (.int s.2.1), some (.int s.2.2.1)], [], (cW nw kp im ol (sn.1, s.2.2.2.1, s.2.2.2.2.1, s.2.2.2.2.2.1, s.2.2.2.2.2.2.1, s.2.2.2.2.2.2.2) sr tp (mW mk mg mt mc T)), 0, 0)
    obtain rfl := Option.some.inj hf
    exact hB _ rfl _ _ _ _ _
  · show sxWP sc cl Q 119 (74, [some (.ref 0), z1, some (.int v2), some (.int v3), some (.int v4), some (.int s.1), some (.int s.2.1), some (.int s.2.2.1)], [], (cW nw kp im ol (sn.1, s.2.2.2.1, s.2.2.2.2.1, s.2.2.2.2.2.1, s.2.2.2.2.2.2.1, s.2.2.2.2.2.2.2) sr tp (mW mk mg mt mc T)), 0, 0)
    obtain ⟨q2, hq2, hf⟩ := bnd hf
    refine stp hm 3 (N_advance_ok hE hq2 ?_)
    show sxWP sc cl Q 119 (81, [some (.ref 0), z1, some (.int v2), some (.int v3), some (.int v4), some (.int s.1), some (.int s.2.1), some (.int s.2.2.1)], [.int q2.1], (cW nw kp im ol (sn.1, q2.2.1, q2.2.2.1, q2.2.2.2.1, q2.2.2.2.2.1, q2.2.2.2.2.2) sr tp (mW mk mg mt mc T)), 0, 0)
    refine stp hm 1 (br hf (fun c3 hf => ?_) (fun c3 hf => ?_))
    · show sxWP sc cl Q 119 (108, [some (.ref 0), z1, some (.int v2), some (.int v3), some (.int v4), some (.int s.1), some (.int s.2.1), some (.int s.2.2.1)], [], (cW nw kp im ol (sn.1, q2.2.1, q2.2.2.1, q2.2.2.2.1, q2.2.2.2.2.1, q2.2.2.2.2.2) sr tp (mW mk mg mt mc T)), 0, 0)
      obtain rfl := Option.some.inj hf
      exact hB _ rfl _ _ _ _ _
    · show sxWP sc cl Q 119 (84, [some (.ref 0), z1, some (.int v2), some (.int v3), some (.int v4), some (.int s.1), some (.int s.2.1), some (.int s.2.2.1)], [], (cW nw kp im ol (sn.1, q2.2.1, q2.2.2.1, q2.2.2.2.1, q2.2.2.2.2.1, q2.2.2.2.2.2) sr tp (mW mk mg mt mc T)), 0, 0)
      obtain ⟨q4, hq4, hf⟩ := bnd hf
      refine stp hm 5 (N_formOver_ok hE hq4 ?_)
      show sxWP sc cl Q 119 (95, [some (.ref 0), z1, some (.int v2), some (.int v3), some (.int v4), some (.int (s.1 + (1:Int32))), some (.int s.2.1), some (.int s.2.2.1)], [.int q4], (cW nw kp im ol (sn.1, q2.2.1, q2.2.2.1, q2.2.2.2.1, q2.2.2.2.2.1, q2.2.2.2.2.2) sr tp (mW mk mg mt mc T)), 0, 0)
      have m5 : ∀ (m5_0 : Int32), m5_0 = (if q4 = v3 then (s.2.1 + (1:Int32)) else s.2.1) → sxWP sc cl Q 119 (102, [some (.ref 0), z1, some (.int v2), some (.int v3), some (.int v4), some (.int (s.1 + (1:Int32))), some (.int m5_0), some (.int s.2.2.1)], [], (cW nw kp im ol (sn.1, q2.2.1, q2.2.2.1, q2.2.2.2.1, q2.2.2.2.2.1, q2.2.2.2.2.2) sr tp (mW mk mg mt mc T)), 0, 0) := by
        intro m5_0 em5_0
        subst em5_0
        obtain rfl := Option.some.inj hf
        refine stp hm 2 (?_ : sxWP sc cl Q 119 (66, [some (.ref 0), z1, some (.int v2), some (.int v3), some (.int v4), some (.int (s.1 + (1:Int32))), some (.int (if q4 = v3 then (s.2.1 + (1:Int32)) else s.2.1)), some (.int (s.2.2.1 + (1:Int32)))], [], (cW nw kp im ol (sn.1, q2.2.1, q2.2.2.1, q2.2.2.2.1, q2.2.2.2.2.1, q2.2.2.2.2.2) sr tp (mW mk mg mt mc T)), 0, 0))
        exact hA _ rfl _
      refine stp hm 2 (bsn (c := q4 = v3) (fun c6 => ?_) (fun c6 => ?_))
      · have c6 : ¬ q4 = v3 := c6
        exact m5 _ (by rw [if_neg c6])
      · have c6 : q4 = v3 := c6
        refine stp hm 1 (?_ : sxWP sc cl Q 119 (102, [some (.ref 0), z1, some (.int v2), some (.int v3), some (.int v4), some (.int (s.1 + (1:Int32))), some (.int (s.2.1 + (1:Int32))), some (.int s.2.2.1)], [], (cW nw kp im ol (sn.1, q2.2.1, q2.2.2.1, q2.2.2.2.1, q2.2.2.2.2.1, q2.2.2.2.2.2) sr tp (mW mk mg mt mc T)), 0, 0))
        exact m5 _ (by rw [if_pos c6])
set_option maxRecDepth 10000 in
theorem X_odds_ok {v1 : Int32} {v2 : Int32} {v3 : Int32} {v4 : Int32} {q : (Int64 × Int32 × Int32 × Int32 × (Nat → Int64) × (Nat → Int32) × (Nat → UInt32))} (hc : call = sxE sc (d + 5)) (hf : X_odds v1 v2 v3 v4 nw.1 sn.1 sn.2.1 sn.2.2.1 sn.2.2.2.1 sn.2.2.2.2.1 sn.2.2.2.2.2 = some q) (h : Q (some (.long q.1)) (cW nw kp im ol (q.2.1, q.2.2.1, q.2.2.2.1, q.2.2.2.2.1, q.2.2.2.2.2.1, q.2.2.2.2.2.2) sr tp (mW mk mg mt mc T))) : call 119 [.ref 0, .int v1, .int v2, .int v3, .int v4] (cW nw kp im ol sn sr tp (mW mk mg mt mc T)) Q := by
  refine ent hc rfl (fun cl hE hm => ?_)
  have J146 : ∀ (k0 : Int64) (skd_j : Int32) (sdp_j : Int32) (sfd_j : Int32) (sop_j : (Nat → Int64)) (str_j : (Nat → Int32)) (spr_j : (Nat → UInt32)) (z0 : Option Value) (z1 : Option Value) (z2 : Option Value) (z3 : Option Value) (z4 : Option Value) (z5 : Option Value) (z6 : Option Value) (z7 : Option Value), X_odds_j146 k0 skd_j sdp_j sfd_j sop_j str_j spr_j = some q → sxWP sc cl Q 119 (146, [z0, z1, z2, z3, z4, z5, z6, z7], [.long k0], (cW nw kp im ol (skd_j, sdp_j, sfd_j, sop_j, str_j, spr_j) sr tp (mW mk mg mt mc T)), 0, 0) := by
    intro k0 skd_j sdp_j sfd_j sop_j str_j spr_j z0 z1 z2 z3 z4 z5 z6 z7 hf
    unfold X_odds_j146 at hf
    obtain rfl := Option.some.inj hf
    refine stp hm 1 ?_
    exact h
  have J38 : ∀ (skd_j : Int32) (sdp_j : Int32) (sfd_j : Int32) (sop_j : (Nat → Int64)) (str_j : (Nat → Int32)) (spr_j : (Nat → UInt32)) (z0 : Option Value) (z1 : Option Value) (z2 : Option Value) (z3 : Option Value) (z4 : Option Value) (z5 : Option Value) (z6 : Option Value) (z7 : Option Value), X_odds_j38 skd_j sdp_j sfd_j sop_j str_j spr_j = some q → sxWP sc cl Q 119 (38, [z0, z1, z2, z3, z4, z5, z6, z7], [], (cW nw kp im ol (skd_j, sdp_j, sfd_j, sop_j, str_j, spr_j) sr tp (mW mk mg mt mc T)), 0, 0) := by
    intro skd_j sdp_j sfd_j sop_j str_j spr_j z0 z1 z2 z3 z4 z5 z6 z7 hf
    unfold X_odds_j38 at hf
    obtain rfl := Option.some.inj hf
    refine stp hm 2 ?_
    exact h
  have J14 : ∀ (skd_j : Int32) (sdp_j : Int32) (sfd_j : Int32) (sop_j : (Nat → Int64)) (str_j : (Nat → Int32)) (spr_j : (Nat → UInt32)) (z0 : Option Value) (z1 : Option Value) (z2 : Option Value) (z3 : Option Value) (z4 : Option Value) (z5 : Option Value) (z6 : Option Value) (z7 : Option Value), X_odds_j14 skd_j sdp_j sfd_j sop_j str_j spr_j = some q → sxWP sc cl Q 119 (14, [z0, z1, z2, z3, z4, z5, z6, z7], [], (cW nw kp im ol (skd_j, sdp_j, sfd_j, sop_j, str_j, spr_j) sr tp (mW mk mg mt mc T)), 0, 0) := by
    intro skd_j sdp_j sfd_j sop_j str_j spr_j z0 z1 z2 z3 z4 z5 z6 z7 hf
    unfold X_odds_j14 at hf
    obtain rfl := Option.some.inj hf
    refine stp hm 2 ?_
    exact h
  unfold X_odds at hf
  refine stp hm 2 (N_isKind_ok hE rfl ?_)
  show sxWP sc cl Q 119 (4, [some (.ref 0), some (.int v1), some (.int v2), some (.int v3), some (.int v4), none, none, none], [.int (N_isKind v1)], (cW nw kp im ol sn sr tp (mW mk mg mt mc T)), 0, 0)
  refine stp hm 1 (br hf (fun c1 hf => ?_) (fun c1 hf => ?_))
  · show sxWP sc cl Q 119 (14, [some (.ref 0), some (.int v1), some (.int v2), some (.int v3), some (.int v4), none, none, none], [], (cW nw kp im ol sn sr tp (mW mk mg mt mc T)), 0, 0)
    exact J14 _ _ _ _ _ _ _ _ _ _ _ _ _ _ hf
  · show sxWP sc cl Q 119 (7, [some (.ref 0), some (.int v1), some (.int v2), some (.int v3), some (.int v4), none, none, none], [], (cW nw kp im ol sn sr tp (mW mk mg mt mc T)), 0, 0)
    refine stp hm 2 (G_isCell_ok hE rfl ?_)
    show sxWP sc cl Q 119 (11, [some (.ref 0), some (.int v1), some (.int v2), some (.int v3), some (.int v4), none, none, none], [.int (G_isCell v2)], (cW nw kp im ol sn sr tp (mW mk mg mt mc T)), 0, 0)
    refine stp hm 1 (brn hf (fun c2 hf => ?_) (fun c2 hf => ?_))
    · show sxWP sc cl Q 119 (18, [some (.ref 0), some (.int v1), some (.int v2), some (.int v3), some (.int v4), none, none, none], [], (cW nw kp im ol sn sr tp (mW mk mg mt mc T)), 0, 0)
      refine stp hm 2 (br hf (fun c3 hf => ?_) (fun c3 hf => ?_))
      · show sxWP sc cl Q 119 (38, [some (.ref 0), some (.int v1), some (.int v2), some (.int v3), some (.int v4), none, none, none], [], (cW nw kp im ol sn sr tp (mW mk mg mt mc T)), 0, 0)
        exact J38 _ _ _ _ _ _ _ _ _ _ _ _ _ _ hf
      · show sxWP sc cl Q 119 (22, [some (.ref 0), some (.int v1), some (.int v2), some (.int v3), some (.int v4), none, none, none], [], (cW nw kp im ol sn sr tp (mW mk mg mt mc T)), 0, 0)
        refine stp hm 3 (N_forms_ok hE rfl ?_)
        show sxWP sc cl Q 119 (27, [some (.ref 0), some (.int v1), some (.int v2), some (.int v3), some (.int v4), none, none, none], [.int (N_forms v1), .int v3], (cW nw kp im ol sn sr tp (mW mk mg mt mc T)), 0, 0)
        refine stp hm 1 (br hf (fun c4 hf => ?_) (fun c4 hf => ?_))
        · show sxWP sc cl Q 119 (38, [some (.ref 0), some (.int v1), some (.int v2), some (.int v3), some (.int v4), none, none, none], [], (cW nw kp im ol sn sr tp (mW mk mg mt mc T)), 0, 0)
          exact J38 _ _ _ _ _ _ _ _ _ _ _ _ _ _ hf
        · show sxWP sc cl Q 119 (30, [some (.ref 0), some (.int v1), some (.int v2), some (.int v3), some (.int v4), none, none, none], [], (cW nw kp im ol sn sr tp (mW mk mg mt mc T)), 0, 0)
          refine stp hm 2 (X_isBit_ok hE rfl ?_)
          show sxWP sc cl Q 119 (35, [some (.ref 0), some (.int v1), some (.int v2), some (.int v3), some (.int v4), none, none, none], [.int (X_isBit v4)], (cW nw kp im ol sn sr tp (mW mk mg mt mc T)), 0, 0)
          refine stp hm 1 (brn hf (fun c5 hf => ?_) (fun c5 hf => ?_))
          · show sxWP sc cl Q 119 (42, [some (.ref 0), some (.int v1), some (.int v2), some (.int v3), some (.int v4), none, none, none], [], (cW nw kp im ol sn sr tp (mW mk mg mt mc T)), 0, 0)
            obtain ⟨q6, hq6, hf⟩ := bnd hf
            refine stp hm 11 (N_start_ok hE hq6 ?_)
            show sxWP sc cl Q 119 (63, [some (.ref 0), some (.int v1), some (.int v2), some (.int v3), some (.int v4), some (.int (0:Int32)), some (.int (0:Int32)), none], [], (cW nw kp im ol (q6.1, q6.2.1, q6.2.2.1, q6.2.2.2.1, q6.2.2.2.2.1, q6.2.2.2.2.2) sr tp (mW mk mg mt mc T)), 0, 0)
            obtain ⟨w7, hw7, hf⟩ := bnd hf
            refine stp hm 2 (?_ : sxWP sc cl Q 119 (66, [some (.ref 0), some (.int v1), some (.int v2), some (.int v3), some (.int v4), some (.int (0:Int32)), some (.int (0:Int32)), some (.int (0:Int32))], [], (cW nw kp im ol (q6.1, q6.2.1, q6.2.2.1, q6.2.2.2.1, q6.2.2.2.2.1, q6.2.2.2.2.2) sr tp (mW mk mg mt mc T)), 0, 0))
            refine X_odds_l66 hE hm _ _ _ hw7 ?_ _
            intro w7_z0 w7_z1 w7_z2 w7_z3 w7_z7
            show sxWP sc cl Q 119 (108, [w7_z0, w7_z1, w7_z2, w7_z3, some (.int v4), some (.int w7.1), some (.int w7.2.1), w7_z7], [], (cW nw kp im ol (q6.1, w7.2.2.1, w7.2.2.2.1, w7.2.2.2.2.1, w7.2.2.2.2.2.1, w7.2.2.2.2.2.2) sr tp (mW mk mg mt mc T)), 0, 0)
            obtain ⟨q8, hq8, hf⟩ := bnd hf
            refine stp hm 3 (X_commonDivisor_ok hE hq8 ?_)
            show sxWP sc cl Q 119 (115, [w7_z0, w7_z1, w7_z2, w7_z3, some (.int v4), some (.int w7.1), some (.int w7.2.1), w7_z7], [.int q8], (cW nw kp im ol (q6.1, w7.2.2.1, w7.2.2.2.1, w7.2.2.2.2.1, w7.2.2.2.2.2.1, w7.2.2.2.2.2.2) sr tp (mW mk mg mt mc T)), 0, 0)
            refine stp hm 3 (brn hf (fun c9 hf => ?_) (fun c9 hf => ?_))
            · show sxWP sc cl Q 119 (126, [w7_z0, w7_z1, w7_z2, w7_z3, some (.int v4), some (.int w7.1), some (.int w7.2.1), some (.int q8)], [], (cW nw kp im ol (q6.1, w7.2.2.1, w7.2.2.2.1, w7.2.2.2.2.1, w7.2.2.2.2.2.1, w7.2.2.2.2.2.2) sr tp (mW mk mg mt mc T)), 0, 0)
              refine stp hm 2 (brn hf (fun c10 hf => ?_) (fun c10 hf => ?_))
              · show sxWP sc cl Q 119 (140, [w7_z0, w7_z1, w7_z2, w7_z3, some (.int v4), some (.int w7.1), some (.int w7.2.1), some (.int q8)], [], (cW nw kp im ol (q6.1, w7.2.2.1, w7.2.2.2.1, w7.2.2.2.2.1, w7.2.2.2.2.2.1, w7.2.2.2.2.2.2) sr tp (mW mk mg mt mc T)), 0, 0)
                obtain ⟨g11, hf⟩ := grd_e hf
                refine stp hm 3 (And.intro (of_decide_eq_true g11) (?_ : sxWP sc cl Q 119 (145, [w7_z0, w7_z1, w7_z2, w7_z3, some (.int v4), some (.int w7.1), some (.int w7.2.1), some (.int q8)], [.int (w7.1 / q8)], (cW nw kp im ol (q6.1, w7.2.2.1, w7.2.2.2.1, w7.2.2.2.2.1, w7.2.2.2.2.2.1, w7.2.2.2.2.2.2) sr tp (mW mk mg mt mc T)), 0, 0)))
                refine stp hm 1 (?_ : sxWP sc cl Q 119 (146, [w7_z0, w7_z1, w7_z2, w7_z3, some (.int v4), some (.int w7.1), some (.int w7.2.1), some (.int q8)], [.long ((w7.1 / q8).toInt64)], (cW nw kp im ol (q6.1, w7.2.2.1, w7.2.2.2.1, w7.2.2.2.2.1, w7.2.2.2.2.2.1, w7.2.2.2.2.2.2) sr tp (mW mk mg mt mc T)), 0, 0))
                exact J146 _ _ _ _ _ _ _ _ _ _ _ _ _ _ _ hf
              · show sxWP sc cl Q 119 (131, [w7_z0, w7_z1, w7_z2, w7_z3, some (.int v4), some (.int w7.1), some (.int w7.2.1), some (.int q8)], [], (cW nw kp im ol (q6.1, w7.2.2.1, w7.2.2.2.1, w7.2.2.2.2.1, w7.2.2.2.2.2.1, w7.2.2.2.2.2.2) sr tp (mW mk mg mt mc T)), 0, 0)
                obtain ⟨g12, hf⟩ := grd_e hf
                refine stp hm 3 (And.intro (of_decide_eq_true g12) (?_ : sxWP sc cl Q 119 (136, [w7_z0, w7_z1, w7_z2, w7_z3, some (.int v4), some (.int w7.1), some (.int w7.2.1), some (.int q8)], [.int (w7.2.1 / q8)], (cW nw kp im ol (q6.1, w7.2.2.1, w7.2.2.2.1, w7.2.2.2.2.1, w7.2.2.2.2.2.1, w7.2.2.2.2.2.2) sr tp (mW mk mg mt mc T)), 0, 0)))
                refine stp hm 2 (?_ : sxWP sc cl Q 119 (146, [w7_z0, w7_z1, w7_z2, w7_z3, some (.int v4), some (.int w7.1), some (.int w7.2.1), some (.int q8)], [.long ((w7.2.1 / q8).toInt64)], (cW nw kp im ol (q6.1, w7.2.2.1, w7.2.2.2.1, w7.2.2.2.2.1, w7.2.2.2.2.2.1, w7.2.2.2.2.2.2) sr tp (mW mk mg mt mc T)), 0, 0))
                exact J146 _ _ _ _ _ _ _ _ _ _ _ _ _ _ _ hf
            · show sxWP sc cl Q 119 (122, [w7_z0, w7_z1, w7_z2, w7_z3, some (.int v4), some (.int w7.1), some (.int w7.2.1), some (.int q8)], [], (cW nw kp im ol (q6.1, w7.2.2.1, w7.2.2.2.1, w7.2.2.2.2.1, w7.2.2.2.2.2.1, w7.2.2.2.2.2.2) sr tp (mW mk mg mt mc T)), 0, 0)
              obtain rfl := Option.some.inj hf
              refine stp hm 2 ?_
              exact h
          · show sxWP sc cl Q 119 (38, [some (.ref 0), some (.int v1), some (.int v2), some (.int v3), some (.int v4), none, none, none], [], (cW nw kp im ol sn sr tp (mW mk mg mt mc T)), 0, 0)
            exact J38 _ _ _ _ _ _ _ _ _ _ _ _ _ _ hf
    · show sxWP sc cl Q 119 (14, [some (.ref 0), some (.int v1), some (.int v2), some (.int v3), some (.int v4), none, none, none], [], (cW nw kp im ol sn sr tp (mW mk mg mt mc T)), 0, 0)
      exact J14 _ _ _ _ _ _ _ _ _ _ _ _ _ _ hf

def B_ofDouble_s44   (s : (UInt64 × Int64 × Int32)) : Option ((UInt64 × Int64 × Int32) ⊕ (UInt64 × Int64)) := if (1024:Int32) ≤ s.2.2 then (some (Sum.inr (s.1, s.2.1))) else (if (Op.cmpValue (FP.dcmp s.1 (4611686018427387904:UInt64)) .l) < (0:Int32) then (some (Sum.inr (s.1, s.2.1))) else (grd (nn64 (FP.dmul s.1 (4602678819172646912:UInt64))) (some (Sum.inl (FP.dmul s.1 (4602678819172646912:UInt64), s.2.1 + (1:Int64), s.2.2 + (1:Int32))))))
def B_ofDouble_s84   (s : (UInt64 × Int64 × Int32)) : Option ((UInt64 × Int64 × Int32) ⊕ (UInt64 × Int64)) := if (1022:Int32) ≤ s.2.2 then (some (Sum.inr (s.1, s.2.1))) else (if (0:Int32) ≤ (Op.cmpValue (FP.dcmp s.1 FP.dconst1) .g) then (some (Sum.inr (s.1, s.2.1))) else (grd (nn64 (FP.dmul s.1 (4611686018427387904:UInt64))) (some (Sum.inl (FP.dmul s.1 (4611686018427387904:UInt64), s.2.1 - (1:Int64), s.2.2 + (1:Int32))))))
def B_ofDouble_j34  (v2 : Int64) (k0 : UInt64) : Option Int64 := Option.bind (wh (B_ofDouble_s44) FU (k0, (1023:Int64), (0:Int32))) (fun w1 => Option.bind (wh (B_ofDouble_s84) FU (w1.1, w1.2, (0:Int32))) (fun w2 => grd (nn64 (FP.dsub w2.1 FP.dconst1)) (grd (nn64 (FP.dmul (FP.dsub w2.1 FP.dconst1) (4841369599423283200:UInt64))) (some ((v2 ||| (w2.2 <<< ((52:Int32).toInt64 &&& 63))) ||| (FP.d2l (FP.dmul (FP.dsub w2.1 FP.dconst1) (4841369599423283200:UInt64))))))))
def B_ofDouble (v0 : UInt64)  : Option Int64 := if (Op.cmpValue (FP.dcmp v0 FP.dconst0) .l) = (0:Int32) then (some (0:Int64)) else (if (0:Int32) ≤ (Op.cmpValue (FP.dcmp v0 FP.dconst0) .g) then (B_ofDouble_j34 (if (0:Int32) ≤ (Op.cmpValue (FP.dcmp v0 FP.dconst0) .g) then (0:Int64) else (-9223372036854775808:Int64)) v0) else (B_ofDouble_j34 (if (0:Int32) ≤ (Op.cmpValue (FP.dcmp v0 FP.dconst0) .g) then (0:Int64) else (-9223372036854775808:Int64)) (FP.dneg v0)))
set_option maxRecDepth 10000 in
theorem B_ofDouble_l44 {v2 : Int64}   (hE : cl = sxE sc (d + 0)) (hm : CallMono cl) : ∀ (n : Nat) (s : (UInt64 × Int64 × Int32)) (r : (UInt64 × Int64)), wh (B_ofDouble_s44) n s = some r → (∀ (z0 z1 z8 : Option Value), sxWP sc cl Q 1 (81, [z0, z1, some (.long v2), none, some (.double r.1), none, some (.long r.2), none, z8], [], (cW nw kp im ol sn sr tp (mW mk mg mt mc T)), 0, 0)) → ∀ (z0 z1 : Option Value), sxWP sc cl Q 1 (44, [z0, z1, some (.long v2), none, some (.double s.1), none, some (.long s.2.1), none, some (.int s.2.2)], [], (cW nw kp im ol sn sr tp (mW mk mg mt mc T)), 0, 0) := by
  refine wh_run (A := fun (s : (UInt64 × Int64 × Int32)) => ∀ (z0 z1 : Option Value), sxWP sc cl Q 1 (44, [z0, z1, some (.long v2), none, some (.double s.1), none, some (.long s.2.1), none, some (.int s.2.2)], [], (cW nw kp im ol sn sr tp (mW mk mg mt mc T)), 0, 0)) (B := fun (r : (UInt64 × Int64)) => ∀ (z0 z1 z8 : Option Value), sxWP sc cl Q 1 (81, [z0, z1, some (.long v2), none, some (.double r.1), none, some (.long r.2), none, z8], [], (cW nw kp im ol sn sr tp (mW mk mg mt mc T)), 0, 0)) (fun s x hf hA hB => ?_)
  intro z0 z1
  unfold B_ofDouble_s44 at hf
  refine stp hm 3 (br hf (fun c1 hf => ?_) (fun c1 hf => ?_))
  · show sxWP sc cl Q 1 (81, [z0, z1, some (.long v2), none, some (.double s.1), none, some (.long s.2.1), none, some (.int s.2.2)], [], (cW nw kp im ol sn sr tp (mW mk mg mt mc T)), 0, 0)
    obtain rfl := Option.some.inj hf
    exact hB _ rfl _ _ _
  · show sxWP sc cl Q 1 (52, [z0, z1, some (.long v2), none, some (.double s.1), none, some (.long s.2.1), none, some (.int s.2.2)], [], (cW nw kp im ol sn sr tp (mW mk mg mt mc T)), 0, 0)
    refine stp hm 4 (br hf (fun c2 hf => ?_) (fun c2 hf => ?_))
    · show sxWP sc cl Q 1 (81, [z0, z1, some (.long v2), none, some (.double s.1), none, some (.long s.2.1), none, some (.int s.2.2)], [], (cW nw kp im ol sn sr tp (mW mk mg mt mc T)), 0, 0)
      obtain rfl := Option.some.inj hf
      exact hB _ rfl _ _ _
    · show sxWP sc cl Q 1 (61, [z0, z1, some (.long v2), none, some (.double s.1), none, some (.long s.2.1), none, some (.int s.2.2)], [], (cW nw kp im ol sn sr tp (mW mk mg mt mc T)), 0, 0)
      obtain ⟨g3, hf⟩ := grd_e hf
      refine stp hm 3 (And.intro (nn64_e g3) (?_ : sxWP sc cl Q 1 (67, [z0, z1, some (.long v2), none, some (.double s.1), none, some (.long s.2.1), none, some (.int s.2.2)], [.double (FP.dmul s.1 (4602678819172646912:UInt64))], (cW nw kp im ol sn sr tp (mW mk mg mt mc T)), 0, 0)))
      obtain rfl := Option.some.inj hf
      refine stp hm 7 (?_ : sxWP sc cl Q 1 (44, [z0, z1, some (.long v2), none, some (.double (FP.dmul s.1 (4602678819172646912:UInt64))), none, some (.long (s.2.1 + (1:Int64))), none, some (.int (s.2.2 + (1:Int32)))], [], (cW nw kp im ol sn sr tp (mW mk mg mt mc T)), 0, 0))
      exact hA _ rfl _ _
set_option maxRecDepth 10000 in
theorem B_ofDouble_l84 {v2 : Int64}   (hE : cl = sxE sc (d + 0)) (hm : CallMono cl) : ∀ (n : Nat) (s : (UInt64 × Int64 × Int32)) (r : (UInt64 × Int64)), wh (B_ofDouble_s84) n s = some r → (∀ (z0 z1 z8 : Option Value), sxWP sc cl Q 1 (119, [z0, z1, some (.long v2), none, some (.double r.1), none, some (.long r.2), none, z8], [], (cW nw kp im ol sn sr tp (mW mk mg mt mc T)), 0, 0)) → ∀ (z0 z1 : Option Value), sxWP sc cl Q 1 (84, [z0, z1, some (.long v2), none, some (.double s.1), none, some (.long s.2.1), none, some (.int s.2.2)], [], (cW nw kp im ol sn sr tp (mW mk mg mt mc T)), 0, 0) := by
  refine wh_run (A := fun (s : (UInt64 × Int64 × Int32)) => ∀ (z0 z1 : Option Value), sxWP sc cl Q 1 (84, [z0, z1, some (.long v2), none, some (.double s.1), none, some (.long s.2.1), none, some (.int s.2.2)], [], (cW nw kp im ol sn sr tp (mW mk mg mt mc T)), 0, 0)) (B := fun (r : (UInt64 × Int64)) => ∀ (z0 z1 z8 : Option Value), sxWP sc cl Q 1 (119, [z0, z1, some (.long v2), none, some (.double r.1), none, some (.long r.2), none, z8], [], (cW nw kp im ol sn sr tp (mW mk mg mt mc T)), 0, 0)) (fun s x hf hA hB => ?_)
  intro z0 z1
  unfold B_ofDouble_s84 at hf
  refine stp hm 3 (br hf (fun c1 hf => ?_) (fun c1 hf => ?_))
  · show sxWP sc cl Q 1 (119, [z0, z1, some (.long v2), none, some (.double s.1), none, some (.long s.2.1), none, some (.int s.2.2)], [], (cW nw kp im ol sn sr tp (mW mk mg mt mc T)), 0, 0)
    obtain rfl := Option.some.inj hf
    exact hB _ rfl _ _ _
  · show sxWP sc cl Q 1 (92, [z0, z1, some (.long v2), none, some (.double s.1), none, some (.long s.2.1), none, some (.int s.2.2)], [], (cW nw kp im ol sn sr tp (mW mk mg mt mc T)), 0, 0)
    refine stp hm 4 (br hf (fun c2 hf => ?_) (fun c2 hf => ?_))
    · show sxWP sc cl Q 1 (119, [z0, z1, some (.long v2), none, some (.double s.1), none, some (.long s.2.1), none, some (.int s.2.2)], [], (cW nw kp im ol sn sr tp (mW mk mg mt mc T)), 0, 0)
      obtain rfl := Option.some.inj hf
      exact hB _ rfl _ _ _
    · show sxWP sc cl Q 1 (99, [z0, z1, some (.long v2), none, some (.double s.1), none, some (.long s.2.1), none, some (.int s.2.2)], [], (cW nw kp im ol sn sr tp (mW mk mg mt mc T)), 0, 0)
      obtain ⟨g3, hf⟩ := grd_e hf
      refine stp hm 3 (And.intro (nn64_e g3) (?_ : sxWP sc cl Q 1 (105, [z0, z1, some (.long v2), none, some (.double s.1), none, some (.long s.2.1), none, some (.int s.2.2)], [.double (FP.dmul s.1 (4611686018427387904:UInt64))], (cW nw kp im ol sn sr tp (mW mk mg mt mc T)), 0, 0)))
      obtain rfl := Option.some.inj hf
      refine stp hm 7 (?_ : sxWP sc cl Q 1 (84, [z0, z1, some (.long v2), none, some (.double (FP.dmul s.1 (4611686018427387904:UInt64))), none, some (.long (s.2.1 - (1:Int64))), none, some (.int (s.2.2 + (1:Int32)))], [], (cW nw kp im ol sn sr tp (mW mk mg mt mc T)), 0, 0))
      exact hA _ rfl _ _
set_option maxRecDepth 10000 in
theorem B_ofDouble_ok {v0 : UInt64} {q : Int64} (hc : call = sxE sc (d + 1)) (hf : B_ofDouble v0 = some q) (h : Q (some (.long q)) (cW nw kp im ol sn sr tp (mW mk mg mt mc T))) : call 1 [.double v0] (cW nw kp im ol sn sr tp (mW mk mg mt mc T)) Q := by
  refine ent hc rfl (fun cl hE hm => ?_)
  have J34 : ∀ (v2 : Int64) (k0 : UInt64) (z0 : Option Value) (z1 : Option Value) (z4 : Option Value) (z5 : Option Value) (z6 : Option Value) (z7 : Option Value) (z8 : Option Value), B_ofDouble_j34 v2 k0 = some q → sxWP sc cl Q 1 (34, [z0, z1, some (.long v2), none, z4, z5, z6, z7, z8], [.double k0], (cW nw kp im ol sn sr tp (mW mk mg mt mc T)), 0, 0) := by
    intro v2 k0 z0 z1 z4 z5 z6 z7 z8 hf
    unfold B_ofDouble_j34 at hf
    obtain ⟨w1, hw1, hf⟩ := bnd hf
    refine stp hm 5 (?_ : sxWP sc cl Q 1 (44, [z0, z1, some (.long v2), none, some (.double k0), none, some (.long (1023:Int64)), none, some (.int (0:Int32))], [], (cW nw kp im ol sn sr tp (mW mk mg mt mc T)), 0, 0))
    refine B_ofDouble_l44 hE hm _ _ _ hw1 ?_ _ _
    intro w1_z0 w1_z1 w1_z8
    show sxWP sc cl Q 1 (81, [w1_z0, w1_z1, some (.long v2), none, some (.double w1.1), none, some (.long w1.2), none, w1_z8], [], (cW nw kp im ol sn sr tp (mW mk mg mt mc T)), 0, 0)
    obtain ⟨w2, hw2, hf⟩ := bnd hf
    refine stp hm 2 (?_ : sxWP sc cl Q 1 (84, [w1_z0, w1_z1, some (.long v2), none, some (.double w1.1), none, some (.long w1.2), none, some (.int (0:Int32))], [], (cW nw kp im ol sn sr tp (mW mk mg mt mc T)), 0, 0))
    refine B_ofDouble_l84 hE hm _ _ _ hw2 ?_ _ _
    intro w2_z0 w2_z1 w2_z8
    show sxWP sc cl Q 1 (119, [w2_z0, w2_z1, some (.long v2), none, some (.double w2.1), none, some (.long w2.2), none, w2_z8], [], (cW nw kp im ol sn sr tp (mW mk mg mt mc T)), 0, 0)
    obtain ⟨g3, hf⟩ := grd_e hf
    refine stp hm 8 (And.intro (nn64_e g3) (?_ : sxWP sc cl Q 1 (130, [w2_z0, w2_z1, some (.long v2), none, some (.double w2.1), none, some (.long w2.2), none, w2_z8], [.double (FP.dsub w2.1 FP.dconst1), .long (v2 ||| (w2.2 <<< ((52:Int32).toInt64 &&& 63)))], (cW nw kp im ol sn sr tp (mW mk mg mt mc T)), 0, 0)))
    obtain ⟨g4, hf⟩ := grd_e hf
    refine stp hm 2 (And.intro (nn64_e g4) (?_ : sxWP sc cl Q 1 (134, [w2_z0, w2_z1, some (.long v2), none, some (.double w2.1), none, some (.long w2.2), none, w2_z8], [.double (FP.dmul (FP.dsub w2.1 FP.dconst1) (4841369599423283200:UInt64)), .long (v2 ||| (w2.2 <<< ((52:Int32).toInt64 &&& 63)))], (cW nw kp im ol sn sr tp (mW mk mg mt mc T)), 0, 0)))
    obtain rfl := Option.some.inj hf
    refine stp hm 3 ?_
    exact h
  unfold B_ofDouble at hf
  refine stp hm 4 (brn hf (fun c5 hf => ?_) (fun c5 hf => ?_))
  · show sxWP sc cl Q 1 (8, [some (.double v0), none, none, none, none, none, none, none, none], [], (cW nw kp im ol sn sr tp (mW mk mg mt mc T)), 0, 0)
    have m6 : ∀ (m6_0 : Int64), m6_0 = (if (0:Int32) ≤ (Op.cmpValue (FP.dcmp v0 FP.dconst0) .g) then (0:Int64) else (-9223372036854775808:Int64)) → sxWP sc cl Q 1 (21, [some (.double v0), none, none, none, none, none, none, none, none], [.long m6_0], (cW nw kp im ol sn sr tp (mW mk mg mt mc T)), 0, 0) := by
      intro m6_0 em6_0
      subst em6_0
      refine stp hm 5 (br hf (fun c7 hf => ?_) (fun c7 hf => ?_))
      · show sxWP sc cl Q 1 (33, [some (.double v0), none, some (.long (if (0:Int32) ≤ (Op.cmpValue (FP.dcmp v0 FP.dconst0) .g) then (0:Int64) else (-9223372036854775808:Int64))), none, none, none, none, none, none], [], (cW nw kp im ol sn sr tp (mW mk mg mt mc T)), 0, 0)
        refine stp hm 1 (?_ : sxWP sc cl Q 1 (34, [some (.double v0), none, some (.long (if (0:Int32) ≤ (Op.cmpValue (FP.dcmp v0 FP.dconst0) .g) then (0:Int64) else (-9223372036854775808:Int64))), none, none, none, none, none, none], [.double v0], (cW nw kp im ol sn sr tp (mW mk mg mt mc T)), 0, 0))
        exact J34 _ _ _ _ _ _ _ _ _ hf
      · show sxWP sc cl Q 1 (28, [some (.double v0), none, some (.long (if (0:Int32) ≤ (Op.cmpValue (FP.dcmp v0 FP.dconst0) .g) then (0:Int64) else (-9223372036854775808:Int64))), none, none, none, none, none, none], [], (cW nw kp im ol sn sr tp (mW mk mg mt mc T)), 0, 0)
        refine stp hm 3 (?_ : sxWP sc cl Q 1 (34, [some (.double v0), none, some (.long (if (0:Int32) ≤ (Op.cmpValue (FP.dcmp v0 FP.dconst0) .g) then (0:Int64) else (-9223372036854775808:Int64))), none, none, none, none, none, none], [.double (FP.dneg v0)], (cW nw kp im ol sn sr tp (mW mk mg mt mc T)), 0, 0))
        exact J34 _ _ _ _ _ _ _ _ _ hf
    refine stp hm 4 (bs (c := (0:Int32) ≤ (Op.cmpValue (FP.dcmp v0 FP.dconst0) .g)) (fun c8 => ?_) (fun c8 => ?_))
    · have c8 : (0:Int32) ≤ (Op.cmpValue (FP.dcmp v0 FP.dconst0) .g) := c8
      refine stp hm 1 (?_ : sxWP sc cl Q 1 (21, [some (.double v0), none, none, none, none, none, none, none, none], [.long (0:Int64)], (cW nw kp im ol sn sr tp (mW mk mg mt mc T)), 0, 0))
      exact m6 _ (by rw [if_pos c8])
    · have c8 : ¬ (0:Int32) ≤ (Op.cmpValue (FP.dcmp v0 FP.dconst0) .g) := c8
      refine stp hm 2 (?_ : sxWP sc cl Q 1 (21, [some (.double v0), none, none, none, none, none, none, none, none], [.long (-9223372036854775808:Int64)], (cW nw kp im ol sn sr tp (mW mk mg mt mc T)), 0, 0))
      exact m6 _ (by rw [if_neg c8])
  · show sxWP sc cl Q 1 (6, [some (.double v0), none, none, none, none, none, none, none, none], [], (cW nw kp im ol sn sr tp (mW mk mg mt mc T)), 0, 0)
    obtain rfl := Option.some.inj hf
    refine stp hm 2 ?_
    exact h

def X_mean_j66  (v1 : Int32) (v2 : Int32) (v3 : Int32) : Option ((Int32 × Int32 × Int32) ⊕ (Int32 × Int32)) := some (Sum.inl (v1, v2, v3 + (1:Int32)))
def X_mean_s34   (oco : Int64) (owh : (Nat → Int32)) (olo : (Nat → Int32)) (ohi : (Nat → Int32)) (ora : (Nat → Int32)) (s : (Int32 × Int32 × Int32)) : Option ((Int32 × Int32 × Int32) ⊕ (Int32 × Int32)) := if (49:Int32) ≤ s.2.2 then (some (Sum.inr (s.1, s.2.1))) else (if (O_isCorner s.2.2 oco) = (0:Int32) then (X_mean_j66 s.1 s.2.1 s.2.2) else (Option.bind (O_level s.2.2 (1:Int32) owh olo ohi ora) (fun q3 => X_mean_j66 (s.1 + (1:Int32)) (s.2.1 + q3) s.2.2)))
def X_mean_j90  (k0 : Int64) (okn_j : Int32) (org_j : Int64) (osi_j : Int32) (oti_j : Int32) (ole_j : Int32) (oto_j : Int32) (oow_j : Int64) (oco_j : Int64) (ost_j : (Nat → Int32)) (owa_j : (Nat → Int32)) (owv_j : (Nat → Int32)) (owh_j : (Nat → Int32)) (olo_j : (Nat → Int32)) (ohi_j : (Nat → Int32)) (odi_j : (Nat → Int32)) (oqu_j : (Nat → Int32)) : Option (Int64 × Int32 × Int64 × Int32 × Int32 × Int32 × Int32 × Int64 × Int64 × (Nat → Int32) × (Nat → Int32) × (Nat → Int32) × (Nat → Int32) × (Nat → Int32) × (Nat → Int32) × (Nat → Int32) × (Nat → Int32)) := some (k0, okn_j, org_j, osi_j, oti_j, ole_j, oto_j, oow_j, oco_j, ost_j, owa_j, owv_j, owh_j, olo_j, ohi_j, odi_j, oqu_j)
def X_mean  (nrg : Int64) (okn : Int32) (org : Int64) (osi : Int32) (oti : Int32) (ole : Int32) (oto : Int32) (oow : Int64) (oco : Int64) (ost : (Nat → Int32)) (owa : (Nat → Int32)) (owv : (Nat → Int32)) (owh : (Nat → Int32)) (olo : (Nat → Int32)) (ohi : (Nat → Int32)) (ora : (Nat → Int32)) (odi : (Nat → Int32)) (oqu : (Nat → Int32)) : Option (Int64 × Int32 × Int64 × Int32 × Int32 × Int32 × Int32 × Int64 × Int64 × (Nat → Int32) × (Nat → Int32) × (Nat → Int32) × (Nat → Int32) × (Nat → Int32) × (Nat → Int32) × (Nat → Int32) × (Nat → Int32)) := Option.bind (O_look nrg okn org osi oti ole oto oow oco ost owa owv owh olo ohi ora odi oqu) (fun q1 => if q1.2.2.2.1 = (0:Int32) then (some ((-9223372036854775808:Int64), q1.1, q1.2.1, q1.2.2.1, q1.2.2.2.1, q1.2.2.2.2.1, q1.2.2.2.2.2.1, q1.2.2.2.2.2.2.1, q1.2.2.2.2.2.2.2.1, q1.2.2.2.2.2.2.2.2.1, q1.2.2.2.2.2.2.2.2.2.1, q1.2.2.2.2.2.2.2.2.2.2.1, q1.2.2.2.2.2.2.2.2.2.2.2.1, q1.2.2.2.2.2.2.2.2.2.2.2.2.1, q1.2.2.2.2.2.2.2.2.2.2.2.2.2.1, q1.2.2.2.2.2.2.2.2.2.2.2.2.2.2.1, q1.2.2.2.2.2.2.2.2.2.2.2.2.2.2.2)) else (Option.bind (wh (X_mean_s34 q1.2.2.2.2.2.2.2.1 q1.2.2.2.2.2.2.2.2.2.2.2.1 q1.2.2.2.2.2.2.2.2.2.2.2.2.1 q1.2.2.2.2.2.2.2.2.2.2.2.2.2.1 ora) FU ((0:Int32), (0:Int32), (0:Int32))) (fun w3 => if w3.1 = (0:Int32) then (X_mean_j90 (-9223372036854775808:Int64) q1.1 q1.2.1 q1.2.2.1 q1.2.2.2.1 q1.2.2.2.2.1 q1.2.2.2.2.2.1 q1.2.2.2.2.2.2.1 q1.2.2.2.2.2.2.2.1 q1.2.2.2.2.2.2.2.2.1 q1.2.2.2.2.2.2.2.2.2.1 q1.2.2.2.2.2.2.2.2.2.2.1 q1.2.2.2.2.2.2.2.2.2.2.2.1 q1.2.2.2.2.2.2.2.2.2.2.2.2.1 q1.2.2.2.2.2.2.2.2.2.2.2.2.2.1 q1.2.2.2.2.2.2.2.2.2.2.2.2.2.2.1 q1.2.2.2.2.2.2.2.2.2.2.2.2.2.2.2) else (grd (nn64 (FP.ddiv (FP.i2d w3.2) (FP.i2d w3.1))) (Option.bind (B_ofDouble (FP.ddiv (FP.i2d w3.2) (FP.i2d w3.1))) (fun q6 => X_mean_j90 q6 q1.1 q1.2.1 q1.2.2.1 q1.2.2.2.1 q1.2.2.2.2.1 q1.2.2.2.2.2.1 q1.2.2.2.2.2.2.1 q1.2.2.2.2.2.2.2.1 q1.2.2.2.2.2.2.2.2.1 q1.2.2.2.2.2.2.2.2.2.1 q1.2.2.2.2.2.2.2.2.2.2.1 q1.2.2.2.2.2.2.2.2.2.2.2.1 q1.2.2.2.2.2.2.2.2.2.2.2.2.1 q1.2.2.2.2.2.2.2.2.2.2.2.2.2.1 q1.2.2.2.2.2.2.2.2.2.2.2.2.2.2.1 q1.2.2.2.2.2.2.2.2.2.2.2.2.2.2.2))))))
set_option maxRecDepth 10000 in
theorem X_mean_l34    (hE : cl = sxE sc (d + 4)) (hm : CallMono cl) : ∀ (n : Nat) (s : (Int32 × Int32 × Int32)) (r : (Int32 × Int32)), wh (X_mean_s34 ol.2.2.2.2.2.2.2.1 ol.2.2.2.2.2.2.2.2.2.2.2.1 ol.2.2.2.2.2.2.2.2.2.2.2.2.1 ol.2.2.2.2.2.2.2.2.2.2.2.2.2.1 ol.2.2.2.2.2.2.2.2.2.2.2.2.2.2.1) n s = some r → (∀ (z0 z3 : Option Value), sxWP sc cl Q 121 (72, [z0, some (.int r.1), some (.int r.2), z3], [], (cW nw kp im ol sn sr tp (mW mk mg mt mc T)), 0, 0)) → sxWP sc cl Q 121 (34, [some (.ref 0), some (.int s.1), some (.int s.2.1), some (.int s.2.2)], [], (cW nw kp im ol sn sr tp (mW mk mg mt mc T)), 0, 0) := by
  refine wh_run (A := fun (s : (Int32 × Int32 × Int32)) => sxWP sc cl Q 121 (34, [some (.ref 0), some (.int s.1), some (.int s.2.1), some (.int s.2.2)], [], (cW nw kp im ol sn sr tp (mW mk mg mt mc T)), 0, 0)) (B := fun (r : (Int32 × Int32)) => ∀ (z0 z3 : Option Value), sxWP sc cl Q 121 (72, [z0, some (.int r.1), some (.int r.2), z3], [], (cW nw kp im ol sn sr tp (mW mk mg mt mc T)), 0, 0)) (fun s x hf hA hB => ?_)
  have J66 : ∀ (v1 : Int32) (v2 : Int32) (v3 : Int32), X_mean_j66 v1 v2 v3 = some x → sxWP sc cl Q 121 (66, [some (.ref 0), some (.int v1), some (.int v2), some (.int v3)], [], (cW nw kp im ol sn sr tp (mW mk mg mt mc T)), 0, 0) := by
    intro v1 v2 v3 hf
    unfold X_mean_j66 at hf
    obtain rfl := Option.some.inj hf
    refine stp hm 2 (?_ : sxWP sc cl Q 121 (34, [some (.ref 0), some (.int v1), some (.int v2), some (.int (v3 + (1:Int32)))], [], (cW nw kp im ol sn sr tp (mW mk mg mt mc T)), 0, 0))
    exact hA _ rfl
  unfold X_mean_s34 at hf
  refine stp hm 3 (br hf (fun c1 hf => ?_) (fun c1 hf => ?_))
  · show sxWP sc cl Q 121 (72, [some (.ref 0), some (.int s.1), some (.int s.2.1), some (.int s.2.2)], [], (cW nw kp im ol sn sr tp (mW mk mg mt mc T)), 0, 0)
    obtain rfl := Option.some.inj hf
    exact hB _ rfl _ _
  · show sxWP sc cl Q 121 (40, [some (.ref 0), some (.int s.1), some (.int s.2.1), some (.int s.2.2)], [], (cW nw kp im ol sn sr tp (mW mk mg mt mc T)), 0, 0)
    refine stp hm 4 (O_isCorner_ok hE rfl ?_)
    show sxWP sc cl Q 121 (48, [some (.ref 0), some (.int s.1), some (.int s.2.1), some (.int s.2.2)], [.int (O_isCorner s.2.2 ol.2.2.2.2.2.2.2.1)], (cW nw kp im ol sn sr tp (mW mk mg mt mc T)), 0, 0)
    refine stp hm 1 (br hf (fun c2 hf => ?_) (fun c2 hf => ?_))
    · show sxWP sc cl Q 121 (66, [some (.ref 0), some (.int s.1), some (.int s.2.1), some (.int s.2.2)], [], (cW nw kp im ol sn sr tp (mW mk mg mt mc T)), 0, 0)
      exact J66 _ _ _ hf
    · show sxWP sc cl Q 121 (51, [some (.ref 0), some (.int s.1), some (.int s.2.1), some (.int s.2.2)], [], (cW nw kp im ol sn sr tp (mW mk mg mt mc T)), 0, 0)
      obtain ⟨q3, hq3, hf⟩ := bnd hf
      refine stp hm 7 (O_level_ok hE hq3 ?_)
      show sxWP sc cl Q 121 (64, [some (.ref 0), some (.int (s.1 + (1:Int32))), some (.int s.2.1), some (.int s.2.2)], [.int q3, .int s.2.1], (cW nw kp im ol sn sr tp (mW mk mg mt mc T)), 0, 0)
      refine stp hm 2 (?_ : sxWP sc cl Q 121 (66, [some (.ref 0), some (.int (s.1 + (1:Int32))), some (.int (s.2.1 + q3)), some (.int s.2.2)], [], (cW nw kp im ol sn sr tp (mW mk mg mt mc T)), 0, 0))
      exact J66 _ _ _ hf
set_option maxRecDepth 10000 in
theorem X_mean_ok  {q : (Int64 × Int32 × Int64 × Int32 × Int32 × Int32 × Int32 × Int64 × Int64 × (Nat → Int32) × (Nat → Int32) × (Nat → Int32) × (Nat → Int32) × (Nat → Int32) × (Nat → Int32) × (Nat → Int32) × (Nat → Int32))} (hc : call = sxE sc (d + 5)) (hf : X_mean nw.1 ol.1 ol.2.1 ol.2.2.1 ol.2.2.2.1 ol.2.2.2.2.1 ol.2.2.2.2.2.1 ol.2.2.2.2.2.2.1 ol.2.2.2.2.2.2.2.1 ol.2.2.2.2.2.2.2.2.1 ol.2.2.2.2.2.2.2.2.2.1 ol.2.2.2.2.2.2.2.2.2.2.1 ol.2.2.2.2.2.2.2.2.2.2.2.1 ol.2.2.2.2.2.2.2.2.2.2.2.2.1 ol.2.2.2.2.2.2.2.2.2.2.2.2.2.1 ol.2.2.2.2.2.2.2.2.2.2.2.2.2.2.1 ol.2.2.2.2.2.2.2.2.2.2.2.2.2.2.2.1 ol.2.2.2.2.2.2.2.2.2.2.2.2.2.2.2.2 = some q) (h : Q (some (.long q.1)) (cW nw kp im (q.2.1, q.2.2.1, q.2.2.2.1, q.2.2.2.2.1, q.2.2.2.2.2.1, q.2.2.2.2.2.2.1, q.2.2.2.2.2.2.2.1, q.2.2.2.2.2.2.2.2.1, q.2.2.2.2.2.2.2.2.2.1, q.2.2.2.2.2.2.2.2.2.2.1, q.2.2.2.2.2.2.2.2.2.2.2.1, q.2.2.2.2.2.2.2.2.2.2.2.2.1, q.2.2.2.2.2.2.2.2.2.2.2.2.2.1, q.2.2.2.2.2.2.2.2.2.2.2.2.2.2.1, ol.2.2.2.2.2.2.2.2.2.2.2.2.2.2.1, q.2.2.2.2.2.2.2.2.2.2.2.2.2.2.2.1, q.2.2.2.2.2.2.2.2.2.2.2.2.2.2.2.2) sn sr tp (mW mk mg mt mc T))) : call 121 [.ref 0] (cW nw kp im ol sn sr tp (mW mk mg mt mc T)) Q := by
  refine ent hc rfl (fun cl hE hm => ?_)
  have J90 : ∀ (k0 : Int64) (okn_j : Int32) (org_j : Int64) (osi_j : Int32) (oti_j : Int32) (ole_j : Int32) (oto_j : Int32) (oow_j : Int64) (oco_j : Int64) (ost_j : (Nat → Int32)) (owa_j : (Nat → Int32)) (owv_j : (Nat → Int32)) (owh_j : (Nat → Int32)) (olo_j : (Nat → Int32)) (ohi_j : (Nat → Int32)) (odi_j : (Nat → Int32)) (oqu_j : (Nat → Int32)) (z0 : Option Value) (z1 : Option Value) (z2 : Option Value) (z3 : Option Value), X_mean_j90 k0 okn_j org_j osi_j oti_j ole_j oto_j oow_j oco_j ost_j owa_j owv_j owh_j olo_j ohi_j odi_j oqu_j = some q → sxWP sc cl Q 121 (90, [z0, z1, z2, z3], [.long k0], (cW nw kp im (okn_j, org_j, osi_j, oti_j, ole_j, oto_j, oow_j, oco_j, ost_j, owa_j, owv_j, owh_j, olo_j, ohi_j, ol.2.2.2.2.2.2.2.2.2.2.2.2.2.2.1, odi_j, oqu_j) sn sr tp (mW mk mg mt mc T)), 0, 0) := by
    intro k0 okn_j org_j osi_j oti_j ole_j oto_j oow_j oco_j ost_j owa_j owv_j owh_j olo_j ohi_j odi_j oqu_j z0 z1 z2 z3 hf
    unfold X_mean_j90 at hf
    obtain rfl := Option.some.inj hf
    refine stp hm 1 ?_
    exact h
  unfold X_mean at hf
  obtain ⟨q1, hq1, hf⟩ := bnd hf
  refine stp hm 6 (O_look_ok hE hq1 ?_)
  show sxWP sc cl Q 121 (14, [some (.ref 0), none, none, none], [], (cW nw kp im (q1.1, q1.2.1, q1.2.2.1, q1.2.2.2.1, q1.2.2.2.2.1, q1.2.2.2.2.2.1, q1.2.2.2.2.2.2.1, q1.2.2.2.2.2.2.2.1, q1.2.2.2.2.2.2.2.2.1, q1.2.2.2.2.2.2.2.2.2.1, q1.2.2.2.2.2.2.2.2.2.2.1, q1.2.2.2.2.2.2.2.2.2.2.2.1, q1.2.2.2.2.2.2.2.2.2.2.2.2.1, q1.2.2.2.2.2.2.2.2.2.2.2.2.2.1, ol.2.2.2.2.2.2.2.2.2.2.2.2.2.2.1, q1.2.2.2.2.2.2.2.2.2.2.2.2.2.2.1, q1.2.2.2.2.2.2.2.2.2.2.2.2.2.2.2) sn sr tp (mW mk mg mt mc T)), 0, 0)
  refine stp hm 4 (brn hf (fun c2 hf => ?_) (fun c2 hf => ?_))
  · show sxWP sc cl Q 121 (28, [some (.ref 0), none, none, none], [], (cW nw kp im (q1.1, q1.2.1, q1.2.2.1, q1.2.2.2.1, q1.2.2.2.2.1, q1.2.2.2.2.2.1, q1.2.2.2.2.2.2.1, q1.2.2.2.2.2.2.2.1, q1.2.2.2.2.2.2.2.2.1, q1.2.2.2.2.2.2.2.2.2.1, q1.2.2.2.2.2.2.2.2.2.2.1, q1.2.2.2.2.2.2.2.2.2.2.2.1, q1.2.2.2.2.2.2.2.2.2.2.2.2.1, q1.2.2.2.2.2.2.2.2.2.2.2.2.2.1, ol.2.2.2.2.2.2.2.2.2.2.2.2.2.2.1, q1.2.2.2.2.2.2.2.2.2.2.2.2.2.2.1, q1.2.2.2.2.2.2.2.2.2.2.2.2.2.2.2) sn sr tp (mW mk mg mt mc T)), 0, 0)
    obtain ⟨w3, hw3, hf⟩ := bnd hf
    refine stp hm 6 (?_ : sxWP sc cl Q 121 (34, [some (.ref 0), some (.int (0:Int32)), some (.int (0:Int32)), some (.int (0:Int32))], [], (cW nw kp im (q1.1, q1.2.1, q1.2.2.1, q1.2.2.2.1, q1.2.2.2.2.1, q1.2.2.2.2.2.1, q1.2.2.2.2.2.2.1, q1.2.2.2.2.2.2.2.1, q1.2.2.2.2.2.2.2.2.1, q1.2.2.2.2.2.2.2.2.2.1, q1.2.2.2.2.2.2.2.2.2.2.1, q1.2.2.2.2.2.2.2.2.2.2.2.1, q1.2.2.2.2.2.2.2.2.2.2.2.2.1, q1.2.2.2.2.2.2.2.2.2.2.2.2.2.1, ol.2.2.2.2.2.2.2.2.2.2.2.2.2.2.1, q1.2.2.2.2.2.2.2.2.2.2.2.2.2.2.1, q1.2.2.2.2.2.2.2.2.2.2.2.2.2.2.2) sn sr tp (mW mk mg mt mc T)), 0, 0))
    refine X_mean_l34 hE hm _ _ _ hw3 ?_
    intro w3_z0 w3_z3
    show sxWP sc cl Q 121 (72, [w3_z0, some (.int w3.1), some (.int w3.2), w3_z3], [], (cW nw kp im (q1.1, q1.2.1, q1.2.2.1, q1.2.2.2.1, q1.2.2.2.2.1, q1.2.2.2.2.2.1, q1.2.2.2.2.2.2.1, q1.2.2.2.2.2.2.2.1, q1.2.2.2.2.2.2.2.2.1, q1.2.2.2.2.2.2.2.2.2.1, q1.2.2.2.2.2.2.2.2.2.2.1, q1.2.2.2.2.2.2.2.2.2.2.2.1, q1.2.2.2.2.2.2.2.2.2.2.2.2.1, q1.2.2.2.2.2.2.2.2.2.2.2.2.2.1, ol.2.2.2.2.2.2.2.2.2.2.2.2.2.2.1, q1.2.2.2.2.2.2.2.2.2.2.2.2.2.2.1, q1.2.2.2.2.2.2.2.2.2.2.2.2.2.2.2) sn sr tp (mW mk mg mt mc T)), 0, 0)
    refine stp hm 2 (brn hf (fun c4 hf => ?_) (fun c4 hf => ?_))
    · show sxWP sc cl Q 121 (82, [w3_z0, some (.int w3.1), some (.int w3.2), w3_z3], [], (cW nw kp im (q1.1, q1.2.1, q1.2.2.1, q1.2.2.2.1, q1.2.2.2.2.1, q1.2.2.2.2.2.1, q1.2.2.2.2.2.2.1, q1.2.2.2.2.2.2.2.1, q1.2.2.2.2.2.2.2.2.1, q1.2.2.2.2.2.2.2.2.2.1, q1.2.2.2.2.2.2.2.2.2.2.1, q1.2.2.2.2.2.2.2.2.2.2.2.1, q1.2.2.2.2.2.2.2.2.2.2.2.2.1, q1.2.2.2.2.2.2.2.2.2.2.2.2.2.1, ol.2.2.2.2.2.2.2.2.2.2.2.2.2.2.1, q1.2.2.2.2.2.2.2.2.2.2.2.2.2.2.1, q1.2.2.2.2.2.2.2.2.2.2.2.2.2.2.2) sn sr tp (mW mk mg mt mc T)), 0, 0)
      obtain ⟨g5, hf⟩ := grd_e hf
      refine stp hm 5 (And.intro (nn64_e g5) (?_ : sxWP sc cl Q 121 (87, [w3_z0, some (.int w3.1), some (.int w3.2), w3_z3], [.double (FP.ddiv (FP.i2d w3.2) (FP.i2d w3.1))], (cW nw kp im (q1.1, q1.2.1, q1.2.2.1, q1.2.2.2.1, q1.2.2.2.2.1, q1.2.2.2.2.2.1, q1.2.2.2.2.2.2.1, q1.2.2.2.2.2.2.2.1, q1.2.2.2.2.2.2.2.2.1, q1.2.2.2.2.2.2.2.2.2.1, q1.2.2.2.2.2.2.2.2.2.2.1, q1.2.2.2.2.2.2.2.2.2.2.2.1, q1.2.2.2.2.2.2.2.2.2.2.2.2.1, q1.2.2.2.2.2.2.2.2.2.2.2.2.2.1, ol.2.2.2.2.2.2.2.2.2.2.2.2.2.2.1, q1.2.2.2.2.2.2.2.2.2.2.2.2.2.2.1, q1.2.2.2.2.2.2.2.2.2.2.2.2.2.2.2) sn sr tp (mW mk mg mt mc T)), 0, 0)))
      obtain ⟨q6, hq6, hf⟩ := bnd hf
      refine stp hm 1 (B_ofDouble_ok hE hq6 ?_)
      show sxWP sc cl Q 121 (90, [w3_z0, some (.int w3.1), some (.int w3.2), w3_z3], [.long q6], (cW nw kp im (q1.1, q1.2.1, q1.2.2.1, q1.2.2.2.1, q1.2.2.2.2.1, q1.2.2.2.2.2.1, q1.2.2.2.2.2.2.1, q1.2.2.2.2.2.2.2.1, q1.2.2.2.2.2.2.2.2.1, q1.2.2.2.2.2.2.2.2.2.1, q1.2.2.2.2.2.2.2.2.2.2.1, q1.2.2.2.2.2.2.2.2.2.2.2.1, q1.2.2.2.2.2.2.2.2.2.2.2.2.1, q1.2.2.2.2.2.2.2.2.2.2.2.2.2.1, ol.2.2.2.2.2.2.2.2.2.2.2.2.2.2.1, q1.2.2.2.2.2.2.2.2.2.2.2.2.2.2.1, q1.2.2.2.2.2.2.2.2.2.2.2.2.2.2.2) sn sr tp (mW mk mg mt mc T)), 0, 0)
      exact J90 _ _ _ _ _ _ _ _ _ _ _ _ _ _ _ _ _ _ _ _ _ hf
    · show sxWP sc cl Q 121 (76, [w3_z0, some (.int w3.1), some (.int w3.2), w3_z3], [], (cW nw kp im (q1.1, q1.2.1, q1.2.2.1, q1.2.2.2.1, q1.2.2.2.2.1, q1.2.2.2.2.2.1, q1.2.2.2.2.2.2.1, q1.2.2.2.2.2.2.2.1, q1.2.2.2.2.2.2.2.2.1, q1.2.2.2.2.2.2.2.2.2.1, q1.2.2.2.2.2.2.2.2.2.2.1, q1.2.2.2.2.2.2.2.2.2.2.2.1, q1.2.2.2.2.2.2.2.2.2.2.2.2.1, q1.2.2.2.2.2.2.2.2.2.2.2.2.2.1, ol.2.2.2.2.2.2.2.2.2.2.2.2.2.2.1, q1.2.2.2.2.2.2.2.2.2.2.2.2.2.2.1, q1.2.2.2.2.2.2.2.2.2.2.2.2.2.2.2) sn sr tp (mW mk mg mt mc T)), 0, 0)
      refine stp hm 2 (?_ : sxWP sc cl Q 121 (90, [w3_z0, some (.int w3.1), some (.int w3.2), w3_z3], [.long (-9223372036854775808:Int64)], (cW nw kp im (q1.1, q1.2.1, q1.2.2.1, q1.2.2.2.1, q1.2.2.2.2.1, q1.2.2.2.2.2.1, q1.2.2.2.2.2.2.1, q1.2.2.2.2.2.2.2.1, q1.2.2.2.2.2.2.2.2.1, q1.2.2.2.2.2.2.2.2.2.1, q1.2.2.2.2.2.2.2.2.2.2.1, q1.2.2.2.2.2.2.2.2.2.2.2.1, q1.2.2.2.2.2.2.2.2.2.2.2.2.1, q1.2.2.2.2.2.2.2.2.2.2.2.2.2.1, ol.2.2.2.2.2.2.2.2.2.2.2.2.2.2.1, q1.2.2.2.2.2.2.2.2.2.2.2.2.2.2.1, q1.2.2.2.2.2.2.2.2.2.2.2.2.2.2.2) sn sr tp (mW mk mg mt mc T)), 0, 0))
      exact J90 _ _ _ _ _ _ _ _ _ _ _ _ _ _ _ _ _ _ _ _ _ hf
  · show sxWP sc cl Q 121 (24, [some (.ref 0), none, none, none], [], (cW nw kp im (q1.1, q1.2.1, q1.2.2.1, q1.2.2.2.1, q1.2.2.2.2.1, q1.2.2.2.2.2.1, q1.2.2.2.2.2.2.1, q1.2.2.2.2.2.2.2.1, q1.2.2.2.2.2.2.2.2.1, q1.2.2.2.2.2.2.2.2.2.1, q1.2.2.2.2.2.2.2.2.2.2.1, q1.2.2.2.2.2.2.2.2.2.2.2.1, q1.2.2.2.2.2.2.2.2.2.2.2.2.1, q1.2.2.2.2.2.2.2.2.2.2.2.2.2.1, ol.2.2.2.2.2.2.2.2.2.2.2.2.2.2.1, q1.2.2.2.2.2.2.2.2.2.2.2.2.2.2.1, q1.2.2.2.2.2.2.2.2.2.2.2.2.2.2.2) sn sr tp (mW mk mg mt mc T)), 0, 0)
    obtain rfl := Option.some.inj hf
    refine stp hm 2 ?_
    exact h

def J_Double_isNaN (v0 : UInt64)  : Int32 := if (Op.cmpValue (FP.dcmp v0 v0) .l) = (0:Int32) then (0:Int32) else (1:Int32)
set_option maxRecDepth 10000 in
theorem J_Double_isNaN_ok {v0 : UInt64} {r : Int32} (hc : call = sxE sc (d + 1)) (hf : J_Double_isNaN v0 = r) (h : Q (some (.int r)) hp) : call 242 [.double v0] hp Q := by
  refine ent hc rfl (fun cl hE hm => ?_)
  unfold J_Double_isNaN at hf
  have m1 : ∀ (m1_0 : Int32), m1_0 = (if (Op.cmpValue (FP.dcmp v0 v0) .l) = (0:Int32) then (0:Int32) else (1:Int32)) → sxWP sc cl Q 242 (11, [some (.double v0), none], [.int m1_0], hp, 0, 0) := by
    intro m1_0 em1_0
    subst em1_0
    subst hf
    refine stp hm 1 (And.intro (by (repeat' split) <;> first | exact Or.inl rfl | exact Or.inr rfl) ?_)
    exact h
  refine stp hm 4 (bs (c := (Op.cmpValue (FP.dcmp v0 v0) .l) = (0:Int32)) (fun c2 => ?_) (fun c2 => ?_))
  · have c2 : (Op.cmpValue (FP.dcmp v0 v0) .l) = (0:Int32) := c2
    refine stp hm 1 (?_ : sxWP sc cl Q 242 (11, [some (.double v0), none], [.int (0:Int32)], hp, 0, 0))
    exact m1 _ (by rw [if_pos c2])
  · have c2 : ¬ (Op.cmpValue (FP.dcmp v0 v0) .l) = (0:Int32) := c2
    refine stp hm 2 (?_ : sxWP sc cl Q 242 (11, [some (.double v0), none], [.int (1:Int32)], hp, 0, 0))
    exact m1 _ (by rw [if_neg c2])
theorem J_Double_isNaN_z {v0 : UInt64}  : J_Double_isNaN v0 = 0 ∨ J_Double_isNaN v0 = 1 := by
  unfold J_Double_isNaN
  (repeat' split) <;> first | exact Or.inl rfl | exact Or.inr rfl

def J_Double_doubleToLongBits (v0 : UInt64)  : Int64 := if (J_Double_isNaN v0) = (0:Int32) then v0.toInt64 else (9221120237041090560:Int64)
set_option maxRecDepth 10000 in
theorem J_Double_doubleToLongBits_ok {v0 : UInt64} {r : Int64} (hc : call = sxE sc (d + 2)) (hf : J_Double_doubleToLongBits v0 = r) (h : Q (some (.long r)) hp) : call 243 [.double v0] hp Q := by
  refine ent hc rfl (fun cl hE hm => ?_)
  unfold J_Double_doubleToLongBits at hf
  refine stp hm 2 (J_Double_isNaN_ok hE rfl ?_)
  show sxWP sc cl Q 243 (4, [some (.double v0), none], [.int (J_Double_isNaN v0)], hp, 0, 0)
  refine stp hm 1 (brn hf (fun c1 hf => ?_) (fun c1 hf => ?_))
  · show sxWP sc cl Q 243 (12, [some (.double v0), none], [], hp, 0, 0)
    subst hf
    refine stp hm 2 ?_
    exact h
  · show sxWP sc cl Q 243 (7, [some (.double v0), none], [], hp, 0, 0)
    subst hf
    refine stp hm 3 ?_
    exact h

def M_mean_j46  (v1 : Int32) (v2 : Int32) (v3 : Int32) : Option ((Int32 × Int32 × Int32) ⊕ (Int32 × Int32)) := some (Sum.inl (v1, v2, v3 + (1:Int32)))
def M_mean_s17   (mrg : Int64) (glo : (Nat → Int32)) (s : (Int32 × Int32 × Int32)) : Option ((Int32 × Int32 × Int32) ⊕ (Int32 × Int32)) := if (49:Int32) ≤ s.2.2 then (some (Sum.inr (s.1, s.2.1))) else (if (M_isOf s.2.2 mrg) = (0:Int32) then (M_mean_j46 s.1 s.2.1 s.2.2) else (grd (gi s.2.2 49) (M_mean_j46 (s.1 + (1:Int32)) (s.2.1 + (glo s.2.2.toNatClampNeg)) s.2.2)))
def M_mean  (mrg : Int64) (gle : Int32) (gsu : Int32) (gma : (Nat → Int32)) (gpi : (Nat → Int32)) (gst : (Nat → Int32)) (ghe : (Nat → Int32)) (gow : (Nat → Int32)) (gfa : (Nat → Int32)) (gqu : (Nat → Int32)) (glo : (Nat → Int32)) (ghi : (Nat → Int32)) : Option (Int64 × Int32 × Int32 × (Nat → Int32) × (Nat → Int32) × (Nat → Int32) × (Nat → Int32) × (Nat → Int32) × (Nat → Int32) × (Nat → Int32) × (Nat → Int32) × (Nat → Int32)) := Option.bind (M_isTilable mrg gle gsu gma gpi gst ghe gow gfa gqu glo ghi) (fun q1 => if q1.1 = (0:Int32) then (some ((-9223372036854775808:Int64), q1.2.1, q1.2.2.1, q1.2.2.2.1, q1.2.2.2.2.1, q1.2.2.2.2.2.1, q1.2.2.2.2.2.2.1, q1.2.2.2.2.2.2.2.1, q1.2.2.2.2.2.2.2.2.1, q1.2.2.2.2.2.2.2.2.2.1, q1.2.2.2.2.2.2.2.2.2.2.1, q1.2.2.2.2.2.2.2.2.2.2.2)) else (Option.bind (wh (M_mean_s17 mrg q1.2.2.2.2.2.2.2.2.2.2.1) FU ((0:Int32), (0:Int32), (0:Int32))) (fun w3 => grd (nn64 (FP.ddiv (FP.i2d w3.2) (FP.i2d w3.1))) (some (J_Double_doubleToLongBits (FP.ddiv (FP.i2d w3.2) (FP.i2d w3.1)), q1.2.1, q1.2.2.1, q1.2.2.2.1, q1.2.2.2.2.1, q1.2.2.2.2.2.1, q1.2.2.2.2.2.2.1, q1.2.2.2.2.2.2.2.1, q1.2.2.2.2.2.2.2.2.1, q1.2.2.2.2.2.2.2.2.2.1, q1.2.2.2.2.2.2.2.2.2.2.1, q1.2.2.2.2.2.2.2.2.2.2.2)))))
set_option maxRecDepth 10000 in
theorem M_mean_l17    (hE : cl = sxE sc (d + 6)) (hm : CallMono cl) : ∀ (n : Nat) (s : (Int32 × Int32 × Int32)) (r : (Int32 × Int32)), wh (M_mean_s17 mk.1 mg.2.2.2.2.2.2.2.2.2.1) n s = some r → (∀ (z0 z3 : Option Value), sxWP sc cl Q 225 (52, [z0, some (.int r.1), some (.int r.2), z3], [], (cW nw kp im ol sn sr tp (mW mk mg mt mc T)), 0, 0)) → sxWP sc cl Q 225 (17, [some (.ref 59), some (.int s.1), some (.int s.2.1), some (.int s.2.2)], [], (cW nw kp im ol sn sr tp (mW mk mg mt mc T)), 0, 0) := by
  refine wh_run (A := fun (s : (Int32 × Int32 × Int32)) => sxWP sc cl Q 225 (17, [some (.ref 59), some (.int s.1), some (.int s.2.1), some (.int s.2.2)], [], (cW nw kp im ol sn sr tp (mW mk mg mt mc T)), 0, 0)) (B := fun (r : (Int32 × Int32)) => ∀ (z0 z3 : Option Value), sxWP sc cl Q 225 (52, [z0, some (.int r.1), some (.int r.2), z3], [], (cW nw kp im ol sn sr tp (mW mk mg mt mc T)), 0, 0)) (fun s x hf hA hB => ?_)
  have J46 : ∀ (v1 : Int32) (v2 : Int32) (v3 : Int32), M_mean_j46 v1 v2 v3 = some x → sxWP sc cl Q 225 (46, [some (.ref 59), some (.int v1), some (.int v2), some (.int v3)], [], (cW nw kp im ol sn sr tp (mW mk mg mt mc T)), 0, 0) := by
    intro v1 v2 v3 hf
    unfold M_mean_j46 at hf
    obtain rfl := Option.some.inj hf
    refine stp hm 2 (?_ : sxWP sc cl Q 225 (17, [some (.ref 59), some (.int v1), some (.int v2), some (.int (v3 + (1:Int32)))], [], (cW nw kp im ol sn sr tp (mW mk mg mt mc T)), 0, 0))
    exact hA _ rfl
  unfold M_mean_s17 at hf
  refine stp hm 3 (br hf (fun c1 hf => ?_) (fun c1 hf => ?_))
  · show sxWP sc cl Q 225 (52, [some (.ref 59), some (.int s.1), some (.int s.2.1), some (.int s.2.2)], [], (cW nw kp im ol sn sr tp (mW mk mg mt mc T)), 0, 0)
    obtain rfl := Option.some.inj hf
    exact hB _ rfl _ _
  · show sxWP sc cl Q 225 (23, [some (.ref 59), some (.int s.1), some (.int s.2.1), some (.int s.2.2)], [], (cW nw kp im ol sn sr tp (mW mk mg mt mc T)), 0, 0)
    refine stp hm 3 (M_isOf_ok hE rfl ?_)
    show sxWP sc cl Q 225 (28, [some (.ref 59), some (.int s.1), some (.int s.2.1), some (.int s.2.2)], [.int (M_isOf s.2.2 mk.1)], (cW nw kp im ol sn sr tp (mW mk mg mt mc T)), 0, 0)
    refine stp hm 1 (brn hf (fun c2 hf => ?_) (fun c2 hf => ?_))
    · show sxWP sc cl Q 225 (34, [some (.ref 59), some (.int s.1), some (.int s.2.1), some (.int s.2.2)], [], (cW nw kp im ol sn sr tp (mW mk mg mt mc T)), 0, 0)
      obtain ⟨g3, hf⟩ := grd_e hf
      refine stp hm 6 (And.intro (gi_in g3) (?_ : sxWP sc cl Q 225 (44, [some (.ref 59), some (.int (s.1 + (1:Int32))), some (.int s.2.1), some (.int s.2.2)], [.int (mg.2.2.2.2.2.2.2.2.2.1 s.2.2.toNatClampNeg), .int s.2.1], (cW nw kp im ol sn sr tp (mW mk mg mt mc T)), 0, 0)))
      refine stp hm 2 (?_ : sxWP sc cl Q 225 (46, [some (.ref 59), some (.int (s.1 + (1:Int32))), some (.int (s.2.1 + (mg.2.2.2.2.2.2.2.2.2.1 s.2.2.toNatClampNeg))), some (.int s.2.2)], [], (cW nw kp im ol sn sr tp (mW mk mg mt mc T)), 0, 0))
      exact J46 _ _ _ hf
    · show sxWP sc cl Q 225 (31, [some (.ref 59), some (.int s.1), some (.int s.2.1), some (.int s.2.2)], [], (cW nw kp im ol sn sr tp (mW mk mg mt mc T)), 0, 0)
      refine stp hm 1 (?_ : sxWP sc cl Q 225 (46, [some (.ref 59), some (.int s.1), some (.int s.2.1), some (.int s.2.2)], [], (cW nw kp im ol sn sr tp (mW mk mg mt mc T)), 0, 0))
      exact J46 _ _ _ hf
set_option maxRecDepth 10000 in
theorem M_mean_ok  {q : (Int64 × Int32 × Int32 × (Nat → Int32) × (Nat → Int32) × (Nat → Int32) × (Nat → Int32) × (Nat → Int32) × (Nat → Int32) × (Nat → Int32) × (Nat → Int32) × (Nat → Int32))} (hc : call = sxE sc (d + 7)) (hf : M_mean mk.1 mg.2.2.1 mg.2.2.2.1 mg.1 mg.2.1 mg.2.2.2.2.1 mg.2.2.2.2.2.1 mg.2.2.2.2.2.2.1 mg.2.2.2.2.2.2.2.1 mg.2.2.2.2.2.2.2.2.1 mg.2.2.2.2.2.2.2.2.2.1 mg.2.2.2.2.2.2.2.2.2.2.1 = some q) (h : Q (some (.long q.1)) (cW nw kp im ol sn sr tp (mW mk (q.2.2.2.1, q.2.2.2.2.1, q.2.1, q.2.2.1, q.2.2.2.2.2.1, q.2.2.2.2.2.2.1, q.2.2.2.2.2.2.2.1, q.2.2.2.2.2.2.2.2.1, q.2.2.2.2.2.2.2.2.2.1, q.2.2.2.2.2.2.2.2.2.2.1, q.2.2.2.2.2.2.2.2.2.2.2, mg.2.2.2.2.2.2.2.2.2.2.2.1, mg.2.2.2.2.2.2.2.2.2.2.2.2) mt mc T))) : call 225 [.ref 59] (cW nw kp im ol sn sr tp (mW mk mg mt mc T)) Q := by
  refine ent hc rfl (fun cl hE hm => ?_)
  unfold M_mean at hf
  obtain ⟨q1, hq1, hf⟩ := bnd hf
  refine stp hm 2 (M_isTilable_ok hE hq1 ?_)
  show sxWP sc cl Q 225 (4, [some (.ref 59), none, none, none], [.int q1.1], (cW nw kp im ol sn sr tp (mW mk (q1.2.2.2.1, q1.2.2.2.2.1, q1.2.1, q1.2.2.1, q1.2.2.2.2.2.1, q1.2.2.2.2.2.2.1, q1.2.2.2.2.2.2.2.1, q1.2.2.2.2.2.2.2.2.1, q1.2.2.2.2.2.2.2.2.2.1, q1.2.2.2.2.2.2.2.2.2.2.1, q1.2.2.2.2.2.2.2.2.2.2.2, mg.2.2.2.2.2.2.2.2.2.2.2.1, mg.2.2.2.2.2.2.2.2.2.2.2.2) mt mc T)), 0, 0)
  refine stp hm 1 (brn hf (fun c2 hf => ?_) (fun c2 hf => ?_))
  · show sxWP sc cl Q 225 (11, [some (.ref 59), none, none, none], [], (cW nw kp im ol sn sr tp (mW mk (q1.2.2.2.1, q1.2.2.2.2.1, q1.2.1, q1.2.2.1, q1.2.2.2.2.2.1, q1.2.2.2.2.2.2.1, q1.2.2.2.2.2.2.2.1, q1.2.2.2.2.2.2.2.2.1, q1.2.2.2.2.2.2.2.2.2.1, q1.2.2.2.2.2.2.2.2.2.2.1, q1.2.2.2.2.2.2.2.2.2.2.2, mg.2.2.2.2.2.2.2.2.2.2.2.1, mg.2.2.2.2.2.2.2.2.2.2.2.2) mt mc T)), 0, 0)
    obtain ⟨w3, hw3, hf⟩ := bnd hf
    refine stp hm 6 (?_ : sxWP sc cl Q 225 (17, [some (.ref 59), some (.int (0:Int32)), some (.int (0:Int32)), some (.int (0:Int32))], [], (cW nw kp im ol sn sr tp (mW mk (q1.2.2.2.1, q1.2.2.2.2.1, q1.2.1, q1.2.2.1, q1.2.2.2.2.2.1, q1.2.2.2.2.2.2.1, q1.2.2.2.2.2.2.2.1, q1.2.2.2.2.2.2.2.2.1, q1.2.2.2.2.2.2.2.2.2.1, q1.2.2.2.2.2.2.2.2.2.2.1, q1.2.2.2.2.2.2.2.2.2.2.2, mg.2.2.2.2.2.2.2.2.2.2.2.1, mg.2.2.2.2.2.2.2.2.2.2.2.2) mt mc T)), 0, 0))
    refine M_mean_l17 hE hm _ _ _ hw3 ?_
    intro w3_z0 w3_z3
    show sxWP sc cl Q 225 (52, [w3_z0, some (.int w3.1), some (.int w3.2), w3_z3], [], (cW nw kp im ol sn sr tp (mW mk (q1.2.2.2.1, q1.2.2.2.2.1, q1.2.1, q1.2.2.1, q1.2.2.2.2.2.1, q1.2.2.2.2.2.2.1, q1.2.2.2.2.2.2.2.1, q1.2.2.2.2.2.2.2.2.1, q1.2.2.2.2.2.2.2.2.2.1, q1.2.2.2.2.2.2.2.2.2.2.1, q1.2.2.2.2.2.2.2.2.2.2.2, mg.2.2.2.2.2.2.2.2.2.2.2.1, mg.2.2.2.2.2.2.2.2.2.2.2.2) mt mc T)), 0, 0)
    obtain ⟨g4, hf⟩ := grd_e hf
    refine stp hm 5 (And.intro (nn64_e g4) (?_ : sxWP sc cl Q 225 (57, [w3_z0, some (.int w3.1), some (.int w3.2), w3_z3], [.double (FP.ddiv (FP.i2d w3.2) (FP.i2d w3.1))], (cW nw kp im ol sn sr tp (mW mk (q1.2.2.2.1, q1.2.2.2.2.1, q1.2.1, q1.2.2.1, q1.2.2.2.2.2.1, q1.2.2.2.2.2.2.1, q1.2.2.2.2.2.2.2.1, q1.2.2.2.2.2.2.2.2.1, q1.2.2.2.2.2.2.2.2.2.1, q1.2.2.2.2.2.2.2.2.2.2.1, q1.2.2.2.2.2.2.2.2.2.2.2, mg.2.2.2.2.2.2.2.2.2.2.2.1, mg.2.2.2.2.2.2.2.2.2.2.2.2) mt mc T)), 0, 0)))
    refine stp hm 1 (J_Double_doubleToLongBits_ok hE rfl ?_)
    show sxWP sc cl Q 225 (60, [w3_z0, some (.int w3.1), some (.int w3.2), w3_z3], [.long (J_Double_doubleToLongBits (FP.ddiv (FP.i2d w3.2) (FP.i2d w3.1)))], (cW nw kp im ol sn sr tp (mW mk (q1.2.2.2.1, q1.2.2.2.2.1, q1.2.1, q1.2.2.1, q1.2.2.2.2.2.1, q1.2.2.2.2.2.2.1, q1.2.2.2.2.2.2.2.1, q1.2.2.2.2.2.2.2.2.1, q1.2.2.2.2.2.2.2.2.2.1, q1.2.2.2.2.2.2.2.2.2.2.1, q1.2.2.2.2.2.2.2.2.2.2.2, mg.2.2.2.2.2.2.2.2.2.2.2.1, mg.2.2.2.2.2.2.2.2.2.2.2.2) mt mc T)), 0, 0)
    obtain rfl := Option.some.inj hf
    refine stp hm 1 ?_
    exact h
  · show sxWP sc cl Q 225 (7, [some (.ref 59), none, none, none], [], (cW nw kp im ol sn sr tp (mW mk (q1.2.2.2.1, q1.2.2.2.2.1, q1.2.1, q1.2.2.1, q1.2.2.2.2.2.1, q1.2.2.2.2.2.2.1, q1.2.2.2.2.2.2.2.1, q1.2.2.2.2.2.2.2.2.1, q1.2.2.2.2.2.2.2.2.2.1, q1.2.2.2.2.2.2.2.2.2.2.1, q1.2.2.2.2.2.2.2.2.2.2.2, mg.2.2.2.2.2.2.2.2.2.2.2.1, mg.2.2.2.2.2.2.2.2.2.2.2.2) mt mc T)), 0, 0)
    obtain rfl := Option.some.inj hf
    refine stp hm 2 ?_
    exact h

set_option maxRecDepth 10000 in
theorem R_emptied_2_ok  {q : (Int32 × Int32)} (hc : call = sxE sc (d + 1)) (hf : R_emptied = some q) (h : Q (some (.int q.1)) (cW (nw.1, nw.2.1, nw.2.2.1, nw.2.2.2.1, nw.2.2.2.2.1, (q.2, nw.2.2.2.2.2.1.2.1, nw.2.2.2.2.2.1.2.2), nw.2.2.2.2.2.2) kp im ol sn sr tp (mW mk mg mt mc T))) : call 46 [.ref 9] (cW nw kp im ol sn sr tp (mW mk mg mt mc T)) Q := by
  refine ent hc rfl (fun cl hE hm => ?_)
  unfold R_emptied at hf
  obtain rfl := Option.some.inj hf
  refine stp hm 6 ?_
  exact h

def R_append_2_j31  (nes_j : Int32) (neo_j : (Nat → Int32)) (neq_j : (Nat → Int32)) : Option (Int32 × Int32 × (Nat → Int32) × (Nat → Int32)) := some ((0:Int32), nes_j, neo_j, neq_j)
def R_append_2 (v1 : Int32) (v2 : Int32) (nes : Int32) (neo : (Nat → Int32)) (neq : (Nat → Int32)) : Option (Int32 × Int32 × (Nat → Int32) × (Nat → Int32)) := if nes < (0:Int32) then (R_append_2_j31 nes neo neq) else (if (Int32.ofNat 8) ≤ nes then (R_append_2_j31 nes neo neq) else (if nes < (Int32.ofNat 8) then (grd (gi nes 8) (grd (gi nes 8) (some ((1:Int32), nes + (1:Int32), upd neo nes.toNatClampNeg v1, upd neq nes.toNatClampNeg v2)))) else (R_append_2_j31 nes neo neq)))
set_option maxRecDepth 10000 in
theorem R_append_2_ok {v1 : Int32} {v2 : Int32} {q : (Int32 × Int32 × (Nat → Int32) × (Nat → Int32))} (hc : call = sxE sc (d + 1)) (hf : R_append_2 v1 v2 nw.2.2.2.2.2.1.1 nw.2.2.2.2.2.1.2.1 nw.2.2.2.2.2.1.2.2 = some q) (h : Q (some (.int q.1)) (cW (nw.1, nw.2.1, nw.2.2.1, nw.2.2.2.1, nw.2.2.2.2.1, (q.2.1, q.2.2.1, q.2.2.2), nw.2.2.2.2.2.2) kp im ol sn sr tp (mW mk mg mt mc T))) : call 47 [.ref 9, .int v1, .int v2] (cW nw kp im ol sn sr tp (mW mk mg mt mc T)) Q := by
  refine ent hc rfl (fun cl hE hm => ?_)
  have J31 : ∀ (nes_j : Int32) (neo_j : (Nat → Int32)) (neq_j : (Nat → Int32)) (z0 : Option Value) (z1 : Option Value) (z2 : Option Value), R_append_2_j31 nes_j neo_j neq_j = some q → sxWP sc cl Q 47 (31, [z0, z1, z2], [], (cW (nw.1, nw.2.1, nw.2.2.1, nw.2.2.2.1, nw.2.2.2.2.1, (nes_j, neo_j, neq_j), nw.2.2.2.2.2.2) kp im ol sn sr tp (mW mk mg mt mc T)), 0, 0) := by
    intro nes_j neo_j neq_j z0 z1 z2 hf
    unfold R_append_2_j31 at hf
    obtain rfl := Option.some.inj hf
    refine stp hm 2 (And.intro (Or.inl rfl) ?_)
    exact h
  unfold R_append_2 at hf
  refine stp hm 3 (br hf (fun c1 hf => ?_) (fun c1 hf => ?_))
  · show sxWP sc cl Q 47 (31, [some (.ref 9), some (.int v1), some (.int v2)], [], (cW nw kp im ol sn sr tp (mW mk mg mt mc T)), 0, 0)
    exact J31 _ _ _ _ _ _ hf
  · show sxWP sc cl Q 47 (7, [some (.ref 9), some (.int v1), some (.int v2)], [], (cW nw kp im ol sn sr tp (mW mk mg mt mc T)), 0, 0)
    refine stp hm 6 (br hf (fun c2 hf => ?_) (fun c2 hf => ?_))
    · show sxWP sc cl Q 47 (31, [some (.ref 9), some (.int v1), some (.int v2)], [], (cW nw kp im ol sn sr tp (mW mk mg mt mc T)), 0, 0)
      exact J31 _ _ _ _ _ _ hf
    · show sxWP sc cl Q 47 (19, [some (.ref 9), some (.int v1), some (.int v2)], [], (cW nw kp im ol sn sr tp (mW mk mg mt mc T)), 0, 0)
      refine stp hm 6 (br hf (fun c3 hf => ?_) (fun c3 hf => ?_))
      · show sxWP sc cl Q 47 (33, [some (.ref 9), some (.int v1), some (.int v2)], [], (cW nw kp im ol sn sr tp (mW mk mg mt mc T)), 0, 0)
        obtain ⟨g4, hf⟩ := grd_e hf
        refine stp hm 6 (And.intro (gi_in g4) (?_ : sxWP sc cl Q 47 (43, [some (.ref 9), some (.int v1), some (.int v2)], [], (cW (nw.1, nw.2.1, nw.2.2.1, nw.2.2.2.1, nw.2.2.2.2.1, (nw.2.2.2.2.2.1.1, upd nw.2.2.2.2.2.1.2.1 nw.2.2.2.2.2.1.1.toNatClampNeg v1, nw.2.2.2.2.2.1.2.2), nw.2.2.2.2.2.2) kp im ol sn sr tp (mW mk mg mt mc T)), 0, 0)))
        obtain ⟨g5, hf⟩ := grd_e hf
        refine stp hm 6 (And.intro (gi_in g5) (?_ : sxWP sc cl Q 47 (53, [some (.ref 9), some (.int v1), some (.int v2)], [], (cW (nw.1, nw.2.1, nw.2.2.1, nw.2.2.2.1, nw.2.2.2.2.1, (nw.2.2.2.2.2.1.1, upd nw.2.2.2.2.2.1.2.1 nw.2.2.2.2.2.1.1.toNatClampNeg v1, upd nw.2.2.2.2.2.1.2.2 nw.2.2.2.2.2.1.1.toNatClampNeg v2), nw.2.2.2.2.2.2) kp im ol sn sr tp (mW mk mg mt mc T)), 0, 0)))
        obtain rfl := Option.some.inj hf
        refine stp hm 8 (And.intro (Or.inr rfl) ?_)
        exact h
      · show sxWP sc cl Q 47 (31, [some (.ref 9), some (.int v1), some (.int v2)], [], (cW nw kp im ol sn sr tp (mW mk mg mt mc T)), 0, 0)
        exact J31 _ _ _ _ _ _ hf

def X_event_j67  (v1 : Int32) (v2 : Int32) (nes_j : Int32) (neo_j : (Nat → Int32)) (neq_j : (Nat → Int32)) : Option (Int32 × Int32 × (Nat → Int32) × (Nat → Int32)) := Option.bind (R_append_2 v1 v2 nes_j neo_j neq_j) (fun q1 => some (if q1.1 = (0:Int32) then (-4:Int32) else q1.2.1, q1.2.1, q1.2.2.1, q1.2.2.2))
def X_event_j55  (v1 : Int32) (v2 : Int32) (nes_j : Int32) (neo_j : (Nat → Int32)) (neq_j : (Nat → Int32)) : Option (Int32 × Int32 × (Nat → Int32) × (Nat → Int32)) := if v1 = (3:Int32) then (if v2 = (0:Int32) then (X_event_j67 v1 v2 nes_j neo_j neq_j) else (some ((-2:Int32), nes_j, neo_j, neq_j))) else (X_event_j67 v1 v2 nes_j neo_j neq_j)
def X_event_j53  (nes_j : Int32) (neo_j : (Nat → Int32)) (neq_j : (Nat → Int32)) : Option (Int32 × Int32 × (Nat → Int32) × (Nat → Int32)) := some ((-1:Int32), nes_j, neo_j, neq_j)
def X_event_j25  (nes_j : Int32) (neo_j : (Nat → Int32)) (neq_j : (Nat → Int32)) : Option (Int32 × Int32 × (Nat → Int32) × (Nat → Int32)) := some ((-1:Int32), nes_j, neo_j, neq_j)
def X_event (v1 : Int32) (v2 : Int32) (nes : Int32) (neo : (Nat → Int32)) (neq : (Nat → Int32)) : Option (Int32 × Int32 × (Nat → Int32) × (Nat → Int32)) := if v1 = (-1:Int32) then (Option.bind (R_emptied) (fun q14 => some (q14.1, q14.2, neo, neq))) else (if v1 < (0:Int32) then (X_event_j25 nes neo neq) else (if v1 ≤ (3:Int32) then (if (3:Int32) ≤ v1 then (X_event_j55 v1 v2 nes neo neq) else (if v2 < (0:Int32) then (X_event_j53 nes neo neq) else (if v2 < (if v1 = (0:Int32) then (36:Int32) else (6:Int32)) then (X_event_j55 v1 v2 nes neo neq) else (X_event_j53 nes neo neq)))) else (X_event_j25 nes neo neq)))
set_option maxRecDepth 10000 in
theorem X_event_ok {v1 : Int32} {v2 : Int32} {q : (Int32 × Int32 × (Nat → Int32) × (Nat → Int32))} (hc : call = sxE sc (d + 2)) (hf : X_event v1 v2 nw.2.2.2.2.2.1.1 nw.2.2.2.2.2.1.2.1 nw.2.2.2.2.2.1.2.2 = some q) (h : Q (some (.int q.1)) (cW (nw.1, nw.2.1, nw.2.2.1, nw.2.2.2.1, nw.2.2.2.2.1, (q.2.1, q.2.2.1, q.2.2.2), nw.2.2.2.2.2.2) kp im ol sn sr tp (mW mk mg mt mc T))) : call 122 [.ref 0, .int v1, .int v2] (cW nw kp im ol sn sr tp (mW mk mg mt mc T)) Q := by
  refine ent hc rfl (fun cl hE hm => ?_)
  have J67 : ∀ (v1 : Int32) (v2 : Int32) (nes_j : Int32) (neo_j : (Nat → Int32)) (neq_j : (Nat → Int32)) (z3 : Option Value), X_event_j67 v1 v2 nes_j neo_j neq_j = some q → sxWP sc cl Q 122 (67, [some (.ref 0), some (.int v1), some (.int v2), z3], [], (cW (nw.1, nw.2.1, nw.2.2.1, nw.2.2.2.1, nw.2.2.2.2.1, (nes_j, neo_j, neq_j), nw.2.2.2.2.2.2) kp im ol sn sr tp (mW mk mg mt mc T)), 0, 0) := by
    intro v1 v2 nes_j neo_j neq_j z3 hf
    unfold X_event_j67 at hf
    obtain ⟨q1, hq1, hf⟩ := bnd hf
    refine stp hm 6 (R_append_2_ok hE hq1 ?_)
    show sxWP sc cl Q 122 (79, [some (.ref 0), some (.int v1), some (.int v2), z3], [.int q1.1], (cW (nw.1, nw.2.1, nw.2.2.1, nw.2.2.2.1, nw.2.2.2.2.1, (q1.2.1, q1.2.2.1, q1.2.2.2), nw.2.2.2.2.2.2) kp im ol sn sr tp (mW mk mg mt mc T)), 0, 0)
    have m2 : ∀ (m2_0 : Int32), m2_0 = (if q1.1 = (0:Int32) then (-4:Int32) else q1.2.1) → sxWP sc cl Q 122 (97, [some (.ref 0), some (.int v1), some (.int v2), z3], [.int m2_0], (cW (nw.1, nw.2.1, nw.2.2.1, nw.2.2.2.1, nw.2.2.2.2.1, (q1.2.1, q1.2.2.1, q1.2.2.2), nw.2.2.2.2.2.2) kp im ol sn sr tp (mW mk mg mt mc T)), 0, 0) := by
      intro m2_0 em2_0
      subst em2_0
      obtain rfl := Option.some.inj hf
      refine stp hm 1 ?_
      exact h
    refine stp hm 1 (bs (c := q1.1 = (0:Int32)) (fun c3 => ?_) (fun c3 => ?_))
    · have c3 : q1.1 = (0:Int32) := c3
      refine stp hm 1 (?_ : sxWP sc cl Q 122 (97, [some (.ref 0), some (.int v1), some (.int v2), z3], [.int (-4:Int32)], (cW (nw.1, nw.2.1, nw.2.2.1, nw.2.2.2.1, nw.2.2.2.2.1, (q1.2.1, q1.2.2.1, q1.2.2.2), nw.2.2.2.2.2.2) kp im ol sn sr tp (mW mk mg mt mc T)), 0, 0))
      exact m2 _ (by rw [if_pos c3])
    · have c3 : ¬ q1.1 = (0:Int32) := c3
      refine stp hm 5 (?_ : sxWP sc cl Q 122 (97, [some (.ref 0), some (.int v1), some (.int v2), z3], [.int q1.2.1], (cW (nw.1, nw.2.1, nw.2.2.1, nw.2.2.2.1, nw.2.2.2.2.1, (q1.2.1, q1.2.2.1, q1.2.2.2), nw.2.2.2.2.2.2) kp im ol sn sr tp (mW mk mg mt mc T)), 0, 0))
      exact m2 _ (by rw [if_neg c3])
  have J55 : ∀ (v1 : Int32) (v2 : Int32) (nes_j : Int32) (neo_j : (Nat → Int32)) (neq_j : (Nat → Int32)) (z3 : Option Value), X_event_j55 v1 v2 nes_j neo_j neq_j = some q → sxWP sc cl Q 122 (55, [some (.ref 0), some (.int v1), some (.int v2), z3], [], (cW (nw.1, nw.2.1, nw.2.2.1, nw.2.2.2.1, nw.2.2.2.2.1, (nes_j, neo_j, neq_j), nw.2.2.2.2.2.2) kp im ol sn sr tp (mW mk mg mt mc T)), 0, 0) := by
    intro v1 v2 nes_j neo_j neq_j z3 hf
    unfold X_event_j55 at hf
    refine stp hm 3 (brn hf (fun c4 hf => ?_) (fun c4 hf => ?_))
    · show sxWP sc cl Q 122 (67, [some (.ref 0), some (.int v1), some (.int v2), z3], [], (cW (nw.1, nw.2.1, nw.2.2.1, nw.2.2.2.1, nw.2.2.2.2.1, (nes_j, neo_j, neq_j), nw.2.2.2.2.2.2) kp im ol sn sr tp (mW mk mg mt mc T)), 0, 0)
      exact J67 _ _ _ _ _ _ hf
    · show sxWP sc cl Q 122 (60, [some (.ref 0), some (.int v1), some (.int v2), z3], [], (cW (nw.1, nw.2.1, nw.2.2.1, nw.2.2.2.1, nw.2.2.2.2.1, (nes_j, neo_j, neq_j), nw.2.2.2.2.2.2) kp im ol sn sr tp (mW mk mg mt mc T)), 0, 0)
      refine stp hm 2 (br hf (fun c5 hf => ?_) (fun c5 hf => ?_))
      · show sxWP sc cl Q 122 (67, [some (.ref 0), some (.int v1), some (.int v2), z3], [], (cW (nw.1, nw.2.1, nw.2.2.1, nw.2.2.2.1, nw.2.2.2.2.1, (nes_j, neo_j, neq_j), nw.2.2.2.2.2.2) kp im ol sn sr tp (mW mk mg mt mc T)), 0, 0)
        exact J67 _ _ _ _ _ _ hf
      · show sxWP sc cl Q 122 (64, [some (.ref 0), some (.int v1), some (.int v2), z3], [], (cW (nw.1, nw.2.1, nw.2.2.1, nw.2.2.2.1, nw.2.2.2.2.1, (nes_j, neo_j, neq_j), nw.2.2.2.2.2.2) kp im ol sn sr tp (mW mk mg mt mc T)), 0, 0)
        obtain rfl := Option.some.inj hf
        refine stp hm 2 ?_
        exact h
  have J53 : ∀ (nes_j : Int32) (neo_j : (Nat → Int32)) (neq_j : (Nat → Int32)) (z0 : Option Value) (z1 : Option Value) (z2 : Option Value) (z3 : Option Value), X_event_j53 nes_j neo_j neq_j = some q → sxWP sc cl Q 122 (53, [z0, z1, z2, z3], [], (cW (nw.1, nw.2.1, nw.2.2.1, nw.2.2.2.1, nw.2.2.2.2.1, (nes_j, neo_j, neq_j), nw.2.2.2.2.2.2) kp im ol sn sr tp (mW mk mg mt mc T)), 0, 0) := by
    intro nes_j neo_j neq_j z0 z1 z2 z3 hf
    unfold X_event_j53 at hf
    obtain rfl := Option.some.inj hf
    refine stp hm 2 ?_
    exact h
  have J25 : ∀ (nes_j : Int32) (neo_j : (Nat → Int32)) (neq_j : (Nat → Int32)) (z0 : Option Value) (z1 : Option Value) (z2 : Option Value) (z3 : Option Value), X_event_j25 nes_j neo_j neq_j = some q → sxWP sc cl Q 122 (25, [z0, z1, z2, z3], [], (cW (nw.1, nw.2.1, nw.2.2.1, nw.2.2.2.1, nw.2.2.2.2.1, (nes_j, neo_j, neq_j), nw.2.2.2.2.2.2) kp im ol sn sr tp (mW mk mg mt mc T)), 0, 0) := by
    intro nes_j neo_j neq_j z0 z1 z2 z3 hf
    unfold X_event_j25 at hf
    obtain rfl := Option.some.inj hf
    refine stp hm 2 ?_
    exact h
  unfold X_event at hf
  refine stp hm 3 (brn hf (fun c6 hf => ?_) (fun c6 hf => ?_))
  · show sxWP sc cl Q 122 (16, [some (.ref 0), some (.int v1), some (.int v2), none], [], (cW nw kp im ol sn sr tp (mW mk mg mt mc T)), 0, 0)
    refine stp hm 2 (br hf (fun c7 hf => ?_) (fun c7 hf => ?_))
    · show sxWP sc cl Q 122 (25, [some (.ref 0), some (.int v1), some (.int v2), none], [], (cW nw kp im ol sn sr tp (mW mk mg mt mc T)), 0, 0)
      exact J25 _ _ _ _ _ _ _ hf
    · show sxWP sc cl Q 122 (20, [some (.ref 0), some (.int v1), some (.int v2), none], [], (cW nw kp im ol sn sr tp (mW mk mg mt mc T)), 0, 0)
      refine stp hm 3 (br hf (fun c8 hf => ?_) (fun c8 hf => ?_))
      · show sxWP sc cl Q 122 (27, [some (.ref 0), some (.int v1), some (.int v2), none], [], (cW nw kp im ol sn sr tp (mW mk mg mt mc T)), 0, 0)
        have m9 : ∀ (m9_0 : Int32), m9_0 = (if v1 = (0:Int32) then (36:Int32) else (6:Int32)) → sxWP sc cl Q 122 (38, [some (.ref 0), some (.int v1), some (.int v2), none], [.int m9_0], (cW nw kp im ol sn sr tp (mW mk mg mt mc T)), 0, 0) := by
          intro m9_0 em9_0
          subst em9_0
          refine stp hm 4 (br hf (fun c10 hf => ?_) (fun c10 hf => ?_))
          · show sxWP sc cl Q 122 (55, [some (.ref 0), some (.int v1), some (.int v2), some (.int (if v1 = (0:Int32) then (36:Int32) else (6:Int32)))], [], (cW nw kp im ol sn sr tp (mW mk mg mt mc T)), 0, 0)
            exact J55 _ _ _ _ _ _ hf
          · show sxWP sc cl Q 122 (44, [some (.ref 0), some (.int v1), some (.int v2), some (.int (if v1 = (0:Int32) then (36:Int32) else (6:Int32)))], [], (cW nw kp im ol sn sr tp (mW mk mg mt mc T)), 0, 0)
            refine stp hm 2 (br hf (fun c11 hf => ?_) (fun c11 hf => ?_))
            · show sxWP sc cl Q 122 (53, [some (.ref 0), some (.int v1), some (.int v2), some (.int (if v1 = (0:Int32) then (36:Int32) else (6:Int32)))], [], (cW nw kp im ol sn sr tp (mW mk mg mt mc T)), 0, 0)
              exact J53 _ _ _ _ _ _ _ hf
            · show sxWP sc cl Q 122 (48, [some (.ref 0), some (.int v1), some (.int v2), some (.int (if v1 = (0:Int32) then (36:Int32) else (6:Int32)))], [], (cW nw kp im ol sn sr tp (mW mk mg mt mc T)), 0, 0)
              refine stp hm 3 (br hf (fun c12 hf => ?_) (fun c12 hf => ?_))
              · show sxWP sc cl Q 122 (55, [some (.ref 0), some (.int v1), some (.int v2), some (.int (if v1 = (0:Int32) then (36:Int32) else (6:Int32)))], [], (cW nw kp im ol sn sr tp (mW mk mg mt mc T)), 0, 0)
                exact J55 _ _ _ _ _ _ hf
              · show sxWP sc cl Q 122 (53, [some (.ref 0), some (.int v1), some (.int v2), some (.int (if v1 = (0:Int32) then (36:Int32) else (6:Int32)))], [], (cW nw kp im ol sn sr tp (mW mk mg mt mc T)), 0, 0)
                exact J53 _ _ _ _ _ _ _ hf
        refine stp hm 2 (bsn (c := v1 = (0:Int32)) (fun c13 => ?_) (fun c13 => ?_))
        · have c13 : ¬ v1 = (0:Int32) := c13
          refine stp hm 1 (?_ : sxWP sc cl Q 122 (38, [some (.ref 0), some (.int v1), some (.int v2), none], [.int (6:Int32)], (cW nw kp im ol sn sr tp (mW mk mg mt mc T)), 0, 0))
          exact m9 _ (by rw [if_neg c13])
        · have c13 : v1 = (0:Int32) := c13
          refine stp hm 2 (?_ : sxWP sc cl Q 122 (38, [some (.ref 0), some (.int v1), some (.int v2), none], [.int (36:Int32)], (cW nw kp im ol sn sr tp (mW mk mg mt mc T)), 0, 0))
          exact m9 _ (by rw [if_pos c13])
      · show sxWP sc cl Q 122 (25, [some (.ref 0), some (.int v1), some (.int v2), none], [], (cW nw kp im ol sn sr tp (mW mk mg mt mc T)), 0, 0)
        exact J25 _ _ _ _ _ _ _ hf
  · show sxWP sc cl Q 122 (5, [some (.ref 0), some (.int v1), some (.int v2), none], [], (cW nw kp im ol sn sr tp (mW mk mg mt mc T)), 0, 0)
    obtain ⟨q14, hq14, hf⟩ := bnd hf
    refine stp hm 4 (R_emptied_2_ok hE hq14 ?_)
    show sxWP sc cl Q 122 (15, [some (.ref 0), some (.int v1), some (.int v2), none], [.int q14.1], (cW (nw.1, nw.2.1, nw.2.2.1, nw.2.2.2.1, nw.2.2.2.2.1, (q14.2, nw.2.2.2.2.2.1.2.1, nw.2.2.2.2.2.1.2.2), nw.2.2.2.2.2.2) kp im ol sn sr tp (mW mk mg mt mc T)), 0, 0)
    obtain rfl := Option.some.inj hf
    refine stp hm 1 ?_
    exact h

def M_event_j77  (k0 : Int32) (ms_j : (Nat → Int32)) : Option (Int32 × (Nat → Int32)) := some (k0, ms_j)
def M_event_j66  (v1 : Int32) (v2 : Int32) (ms_j : (Nat → Int32)) : Option (Int32 × (Nat → Int32)) := Option.bind (M_lists (4:Int32) (90:Int32) (8:Int32) v1 v2 ms_j) (fun q1 => M_event_j77 q1.1 q1.2)
def M_event_j52  (v1 : Int32) (v2 : Int32) (ms_j : (Nat → Int32)) : Option (Int32 × (Nat → Int32)) := if v1 = (3:Int32) then (if v2 = (0:Int32) then (M_event_j66 v1 v2 ms_j) else (M_event_j77 (-2:Int32) ms_j)) else (M_event_j66 v1 v2 ms_j)
def M_event_j50  (ms_j : (Nat → Int32)) : Option (Int32 × (Nat → Int32)) := some ((-1:Int32), ms_j)
def M_event_j41  (v1 : Int32) (v2 : Int32) (ms_j : (Nat → Int32)) : Option (Int32 × (Nat → Int32)) := if (M_isIn v2 (0:Int32) (5:Int32)) = (0:Int32) then (M_event_j50 ms_j) else (M_event_j52 v1 v2 ms_j)
def M_event_j31  (v1 : Int32) (v2 : Int32) (ms_j : (Nat → Int32)) : Option (Int32 × (Nat → Int32)) := if v1 = (1:Int32) then (M_event_j41 v1 v2 ms_j) else (if v1 = (2:Int32) then (M_event_j41 v1 v2 ms_j) else (M_event_j52 v1 v2 ms_j))
def M_event (v1 : Int32) (v2 : Int32) (ms : (Nat → Int32)) : Option (Int32 × (Nat → Int32)) := if v1 = (-1:Int32) then (Option.bind (M_none (4:Int32) ms) (fun q11 => some (q11.1, q11.2))) else (if (M_isIn v1 (0:Int32) (3:Int32)) = (0:Int32) then (M_event_j50 ms) else (if v1 = (0:Int32) then (if (M_isCell v2) = (0:Int32) then (M_event_j50 ms) else (M_event_j31 v1 v2 ms)) else (M_event_j31 v1 v2 ms)))
set_option maxRecDepth 10000 in
theorem M_event_ok {v1 : Int32} {v2 : Int32} {q : (Int32 × (Nat → Int32))} (hc : call = sxE sc (d + 3)) (hf : M_event v1 v2 mk.2.2.1 = some q) (h : Q (some (.int q.1)) (cW nw kp im ol sn sr tp (mW (mk.1, mk.2.1, q.2, mk.2.2.2.1, mk.2.2.2.2.1, mk.2.2.2.2.2.1, mk.2.2.2.2.2.2.1, mk.2.2.2.2.2.2.2.1, mk.2.2.2.2.2.2.2.2.1, mk.2.2.2.2.2.2.2.2.2) mg mt mc T))) : call 226 [.ref 59, .int v1, .int v2] (cW nw kp im ol sn sr tp (mW mk mg mt mc T)) Q := by
  refine ent hc rfl (fun cl hE hm => ?_)
  have J77 : ∀ (k0 : Int32) (ms_j : (Nat → Int32)) (z0 : Option Value) (z1 : Option Value) (z2 : Option Value), M_event_j77 k0 ms_j = some q → sxWP sc cl Q 226 (77, [z0, z1, z2], [.int k0], (cW nw kp im ol sn sr tp (mW (mk.1, mk.2.1, ms_j, mk.2.2.2.1, mk.2.2.2.2.1, mk.2.2.2.2.2.1, mk.2.2.2.2.2.2.1, mk.2.2.2.2.2.2.2.1, mk.2.2.2.2.2.2.2.2.1, mk.2.2.2.2.2.2.2.2.2) mg mt mc T)), 0, 0) := by
    intro k0 ms_j z0 z1 z2 hf
    unfold M_event_j77 at hf
    obtain rfl := Option.some.inj hf
    refine stp hm 1 ?_
    exact h
  have J66 : ∀ (v1 : Int32) (v2 : Int32) (ms_j : (Nat → Int32)), M_event_j66 v1 v2 ms_j = some q → sxWP sc cl Q 226 (66, [some (.ref 59), some (.int v1), some (.int v2)], [], (cW nw kp im ol sn sr tp (mW (mk.1, mk.2.1, ms_j, mk.2.2.2.1, mk.2.2.2.2.1, mk.2.2.2.2.2.1, mk.2.2.2.2.2.2.1, mk.2.2.2.2.2.2.2.1, mk.2.2.2.2.2.2.2.2.1, mk.2.2.2.2.2.2.2.2.2) mg mt mc T)), 0, 0) := by
    intro v1 v2 ms_j hf
    unfold M_event_j66 at hf
    obtain ⟨q1, hq1, hf⟩ := bnd hf
    refine stp hm 7 (M_lists_ok hE hq1 ?_)
    show sxWP sc cl Q 226 (77, [some (.ref 59), some (.int v1), some (.int v2)], [.int q1.1], (cW nw kp im ol sn sr tp (mW (mk.1, mk.2.1, q1.2, mk.2.2.2.1, mk.2.2.2.2.1, mk.2.2.2.2.2.1, mk.2.2.2.2.2.2.1, mk.2.2.2.2.2.2.2.1, mk.2.2.2.2.2.2.2.2.1, mk.2.2.2.2.2.2.2.2.2) mg mt mc T)), 0, 0)
    exact J77 _ _ _ _ _ hf
  have J52 : ∀ (v1 : Int32) (v2 : Int32) (ms_j : (Nat → Int32)), M_event_j52 v1 v2 ms_j = some q → sxWP sc cl Q 226 (52, [some (.ref 59), some (.int v1), some (.int v2)], [], (cW nw kp im ol sn sr tp (mW (mk.1, mk.2.1, ms_j, mk.2.2.2.1, mk.2.2.2.2.1, mk.2.2.2.2.2.1, mk.2.2.2.2.2.2.1, mk.2.2.2.2.2.2.2.1, mk.2.2.2.2.2.2.2.2.1, mk.2.2.2.2.2.2.2.2.2) mg mt mc T)), 0, 0) := by
    intro v1 v2 ms_j hf
    unfold M_event_j52 at hf
    refine stp hm 3 (brn hf (fun c2 hf => ?_) (fun c2 hf => ?_))
    · show sxWP sc cl Q 226 (66, [some (.ref 59), some (.int v1), some (.int v2)], [], (cW nw kp im ol sn sr tp (mW (mk.1, mk.2.1, ms_j, mk.2.2.2.1, mk.2.2.2.2.1, mk.2.2.2.2.2.1, mk.2.2.2.2.2.2.1, mk.2.2.2.2.2.2.2.1, mk.2.2.2.2.2.2.2.2.1, mk.2.2.2.2.2.2.2.2.2) mg mt mc T)), 0, 0)
      exact J66 _ _ _ hf
    · show sxWP sc cl Q 226 (57, [some (.ref 59), some (.int v1), some (.int v2)], [], (cW nw kp im ol sn sr tp (mW (mk.1, mk.2.1, ms_j, mk.2.2.2.1, mk.2.2.2.2.1, mk.2.2.2.2.2.1, mk.2.2.2.2.2.2.1, mk.2.2.2.2.2.2.2.1, mk.2.2.2.2.2.2.2.2.1, mk.2.2.2.2.2.2.2.2.2) mg mt mc T)), 0, 0)
      refine stp hm 2 (br hf (fun c3 hf => ?_) (fun c3 hf => ?_))
      · show sxWP sc cl Q 226 (66, [some (.ref 59), some (.int v1), some (.int v2)], [], (cW nw kp im ol sn sr tp (mW (mk.1, mk.2.1, ms_j, mk.2.2.2.1, mk.2.2.2.2.1, mk.2.2.2.2.2.1, mk.2.2.2.2.2.2.1, mk.2.2.2.2.2.2.2.1, mk.2.2.2.2.2.2.2.2.1, mk.2.2.2.2.2.2.2.2.2) mg mt mc T)), 0, 0)
        exact J66 _ _ _ hf
      · show sxWP sc cl Q 226 (61, [some (.ref 59), some (.int v1), some (.int v2)], [], (cW nw kp im ol sn sr tp (mW (mk.1, mk.2.1, ms_j, mk.2.2.2.1, mk.2.2.2.2.1, mk.2.2.2.2.2.1, mk.2.2.2.2.2.2.1, mk.2.2.2.2.2.2.2.1, mk.2.2.2.2.2.2.2.2.1, mk.2.2.2.2.2.2.2.2.2) mg mt mc T)), 0, 0)
        refine stp hm 2 (?_ : sxWP sc cl Q 226 (77, [some (.ref 59), some (.int v1), some (.int v2)], [.int (-2:Int32)], (cW nw kp im ol sn sr tp (mW (mk.1, mk.2.1, ms_j, mk.2.2.2.1, mk.2.2.2.2.1, mk.2.2.2.2.2.1, mk.2.2.2.2.2.2.1, mk.2.2.2.2.2.2.2.1, mk.2.2.2.2.2.2.2.2.1, mk.2.2.2.2.2.2.2.2.2) mg mt mc T)), 0, 0))
        exact J77 _ _ _ _ _ hf
  have J50 : ∀ (ms_j : (Nat → Int32)) (z0 : Option Value) (z1 : Option Value) (z2 : Option Value), M_event_j50 ms_j = some q → sxWP sc cl Q 226 (50, [z0, z1, z2], [], (cW nw kp im ol sn sr tp (mW (mk.1, mk.2.1, ms_j, mk.2.2.2.1, mk.2.2.2.2.1, mk.2.2.2.2.2.1, mk.2.2.2.2.2.2.1, mk.2.2.2.2.2.2.2.1, mk.2.2.2.2.2.2.2.2.1, mk.2.2.2.2.2.2.2.2.2) mg mt mc T)), 0, 0) := by
    intro ms_j z0 z1 z2 hf
    unfold M_event_j50 at hf
    obtain rfl := Option.some.inj hf
    refine stp hm 2 ?_
    exact h
  have J41 : ∀ (v1 : Int32) (v2 : Int32) (ms_j : (Nat → Int32)), M_event_j41 v1 v2 ms_j = some q → sxWP sc cl Q 226 (41, [some (.ref 59), some (.int v1), some (.int v2)], [], (cW nw kp im ol sn sr tp (mW (mk.1, mk.2.1, ms_j, mk.2.2.2.1, mk.2.2.2.2.1, mk.2.2.2.2.2.1, mk.2.2.2.2.2.2.1, mk.2.2.2.2.2.2.2.1, mk.2.2.2.2.2.2.2.2.1, mk.2.2.2.2.2.2.2.2.2) mg mt mc T)), 0, 0) := by
    intro v1 v2 ms_j hf
    unfold M_event_j41 at hf
    refine stp hm 4 (M_isIn_ok hE rfl ?_)
    show sxWP sc cl Q 226 (47, [some (.ref 59), some (.int v1), some (.int v2)], [.int (M_isIn v2 (0:Int32) (5:Int32))], (cW nw kp im ol sn sr tp (mW (mk.1, mk.2.1, ms_j, mk.2.2.2.1, mk.2.2.2.2.1, mk.2.2.2.2.2.1, mk.2.2.2.2.2.2.1, mk.2.2.2.2.2.2.2.1, mk.2.2.2.2.2.2.2.2.1, mk.2.2.2.2.2.2.2.2.2) mg mt mc T)), 0, 0)
    refine stp hm 1 (brn hf (fun c4 hf => ?_) (fun c4 hf => ?_))
    · show sxWP sc cl Q 226 (52, [some (.ref 59), some (.int v1), some (.int v2)], [], (cW nw kp im ol sn sr tp (mW (mk.1, mk.2.1, ms_j, mk.2.2.2.1, mk.2.2.2.2.1, mk.2.2.2.2.2.1, mk.2.2.2.2.2.2.1, mk.2.2.2.2.2.2.2.1, mk.2.2.2.2.2.2.2.2.1, mk.2.2.2.2.2.2.2.2.2) mg mt mc T)), 0, 0)
      exact J52 _ _ _ hf
    · show sxWP sc cl Q 226 (50, [some (.ref 59), some (.int v1), some (.int v2)], [], (cW nw kp im ol sn sr tp (mW (mk.1, mk.2.1, ms_j, mk.2.2.2.1, mk.2.2.2.2.1, mk.2.2.2.2.2.1, mk.2.2.2.2.2.2.1, mk.2.2.2.2.2.2.2.1, mk.2.2.2.2.2.2.2.2.1, mk.2.2.2.2.2.2.2.2.2) mg mt mc T)), 0, 0)
      exact J50 _ _ _ _ hf
  have J31 : ∀ (v1 : Int32) (v2 : Int32) (ms_j : (Nat → Int32)), M_event_j31 v1 v2 ms_j = some q → sxWP sc cl Q 226 (31, [some (.ref 59), some (.int v1), some (.int v2)], [], (cW nw kp im ol sn sr tp (mW (mk.1, mk.2.1, ms_j, mk.2.2.2.1, mk.2.2.2.2.1, mk.2.2.2.2.2.1, mk.2.2.2.2.2.2.1, mk.2.2.2.2.2.2.2.1, mk.2.2.2.2.2.2.2.2.1, mk.2.2.2.2.2.2.2.2.2) mg mt mc T)), 0, 0) := by
    intro v1 v2 ms_j hf
    unfold M_event_j31 at hf
    refine stp hm 3 (br hf (fun c5 hf => ?_) (fun c5 hf => ?_))
    · show sxWP sc cl Q 226 (41, [some (.ref 59), some (.int v1), some (.int v2)], [], (cW nw kp im ol sn sr tp (mW (mk.1, mk.2.1, ms_j, mk.2.2.2.1, mk.2.2.2.2.1, mk.2.2.2.2.2.1, mk.2.2.2.2.2.2.1, mk.2.2.2.2.2.2.2.1, mk.2.2.2.2.2.2.2.2.1, mk.2.2.2.2.2.2.2.2.2) mg mt mc T)), 0, 0)
      exact J41 _ _ _ hf
    · show sxWP sc cl Q 226 (36, [some (.ref 59), some (.int v1), some (.int v2)], [], (cW nw kp im ol sn sr tp (mW (mk.1, mk.2.1, ms_j, mk.2.2.2.1, mk.2.2.2.2.1, mk.2.2.2.2.2.1, mk.2.2.2.2.2.2.1, mk.2.2.2.2.2.2.2.1, mk.2.2.2.2.2.2.2.2.1, mk.2.2.2.2.2.2.2.2.2) mg mt mc T)), 0, 0)
      refine stp hm 3 (brn hf (fun c6 hf => ?_) (fun c6 hf => ?_))
      · show sxWP sc cl Q 226 (52, [some (.ref 59), some (.int v1), some (.int v2)], [], (cW nw kp im ol sn sr tp (mW (mk.1, mk.2.1, ms_j, mk.2.2.2.1, mk.2.2.2.2.1, mk.2.2.2.2.2.1, mk.2.2.2.2.2.2.1, mk.2.2.2.2.2.2.2.1, mk.2.2.2.2.2.2.2.2.1, mk.2.2.2.2.2.2.2.2.2) mg mt mc T)), 0, 0)
        exact J52 _ _ _ hf
      · show sxWP sc cl Q 226 (41, [some (.ref 59), some (.int v1), some (.int v2)], [], (cW nw kp im ol sn sr tp (mW (mk.1, mk.2.1, ms_j, mk.2.2.2.1, mk.2.2.2.2.1, mk.2.2.2.2.2.1, mk.2.2.2.2.2.2.1, mk.2.2.2.2.2.2.2.1, mk.2.2.2.2.2.2.2.2.1, mk.2.2.2.2.2.2.2.2.2) mg mt mc T)), 0, 0)
        exact J41 _ _ _ hf
  unfold M_event at hf
  refine stp hm 3 (brn hf (fun c7 hf => ?_) (fun c7 hf => ?_))
  · show sxWP sc cl Q 226 (11, [some (.ref 59), some (.int v1), some (.int v2)], [], (cW nw kp im ol sn sr tp (mW mk mg mt mc T)), 0, 0)
    refine stp hm 4 (M_isIn_ok hE rfl ?_)
    show sxWP sc cl Q 226 (17, [some (.ref 59), some (.int v1), some (.int v2)], [.int (M_isIn v1 (0:Int32) (3:Int32))], (cW nw kp im ol sn sr tp (mW mk mg mt mc T)), 0, 0)
    refine stp hm 1 (br hf (fun c8 hf => ?_) (fun c8 hf => ?_))
    · show sxWP sc cl Q 226 (50, [some (.ref 59), some (.int v1), some (.int v2)], [], (cW nw kp im ol sn sr tp (mW mk mg mt mc T)), 0, 0)
      exact J50 _ _ _ _ hf
    · show sxWP sc cl Q 226 (20, [some (.ref 59), some (.int v1), some (.int v2)], [], (cW nw kp im ol sn sr tp (mW mk mg mt mc T)), 0, 0)
      refine stp hm 2 (brn hf (fun c9 hf => ?_) (fun c9 hf => ?_))
      · show sxWP sc cl Q 226 (31, [some (.ref 59), some (.int v1), some (.int v2)], [], (cW nw kp im ol sn sr tp (mW mk mg mt mc T)), 0, 0)
        exact J31 _ _ _ hf
      · show sxWP sc cl Q 226 (24, [some (.ref 59), some (.int v1), some (.int v2)], [], (cW nw kp im ol sn sr tp (mW mk mg mt mc T)), 0, 0)
        refine stp hm 2 (M_isCell_ok hE rfl ?_)
        show sxWP sc cl Q 226 (28, [some (.ref 59), some (.int v1), some (.int v2)], [.int (M_isCell v2)], (cW nw kp im ol sn sr tp (mW mk mg mt mc T)), 0, 0)
        refine stp hm 1 (br hf (fun c10 hf => ?_) (fun c10 hf => ?_))
        · show sxWP sc cl Q 226 (50, [some (.ref 59), some (.int v1), some (.int v2)], [], (cW nw kp im ol sn sr tp (mW mk mg mt mc T)), 0, 0)
          exact J50 _ _ _ _ hf
        · show sxWP sc cl Q 226 (31, [some (.ref 59), some (.int v1), some (.int v2)], [], (cW nw kp im ol sn sr tp (mW mk mg mt mc T)), 0, 0)
          exact J31 _ _ _ hf
  · show sxWP sc cl Q 226 (5, [some (.ref 59), some (.int v1), some (.int v2)], [], (cW nw kp im ol sn sr tp (mW mk mg mt mc T)), 0, 0)
    obtain ⟨q11, hq11, hf⟩ := bnd hf
    refine stp hm 3 (M_none_ok hE hq11 ?_)
    show sxWP sc cl Q 226 (10, [some (.ref 59), some (.int v1), some (.int v2)], [.int q11.1], (cW nw kp im ol sn sr tp (mW (mk.1, mk.2.1, q11.2, mk.2.2.2.1, mk.2.2.2.2.1, mk.2.2.2.2.2.1, mk.2.2.2.2.2.2.1, mk.2.2.2.2.2.2.2.1, mk.2.2.2.2.2.2.2.2.1, mk.2.2.2.2.2.2.2.2.2) mg mt mc T)), 0, 0)
    obtain rfl := Option.some.inj hf
    refine stp hm 1 ?_
    exact h

def R_one_2_j23  (k0 : Int32) : Option Int32 := some k0
def R_one_2_j22   : Option Int32 := R_one_2_j23 (0:Int32)
def R_one_2 (v1 : Int32) (neo : (Nat → Int32)) : Option Int32 := if v1 < (0:Int32) then R_one_2_j22 else (if (Int32.ofNat 8) ≤ v1 then R_one_2_j22 else (grd (gi v1 8) (R_one_2_j23 (neo v1.toNatClampNeg))))
set_option maxRecDepth 10000 in
theorem R_one_2_ok {v1 : Int32} {q : Int32} (hc : call = sxE sc (d + 1)) (hf : R_one_2 v1 nw.2.2.2.2.2.1.2.1 = some q) (h : Q (some (.int q)) (cW nw kp im ol sn sr tp (mW mk mg mt mc T))) : call 48 [.ref 9, .int v1] (cW nw kp im ol sn sr tp (mW mk mg mt mc T)) Q := by
  refine ent hc rfl (fun cl hE hm => ?_)
  have J23 : ∀ (k0 : Int32) (z0 : Option Value) (z1 : Option Value), R_one_2_j23 k0 = some q → sxWP sc cl Q 48 (23, [z0, z1], [.int k0], (cW nw kp im ol sn sr tp (mW mk mg mt mc T)), 0, 0) := by
    intro k0 z0 z1 hf
    unfold R_one_2_j23 at hf
    obtain rfl := Option.some.inj hf
    refine stp hm 1 ?_
    exact h
  have J22 : ∀  (z0 : Option Value) (z1 : Option Value), R_one_2_j22 = some q → sxWP sc cl Q 48 (22, [z0, z1], [], (cW nw kp im ol sn sr tp (mW mk mg mt mc T)), 0, 0) := by
    intro z0 z1 hf
    unfold R_one_2_j22 at hf
    refine stp hm 1 (?_ : sxWP sc cl Q 48 (23, [z0, z1], [.int (0:Int32)], (cW nw kp im ol sn sr tp (mW mk mg mt mc T)), 0, 0))
    exact J23 _ _ _ hf
  unfold R_one_2 at hf
  refine stp hm 2 (br hf (fun c1 hf => ?_) (fun c1 hf => ?_))
  · show sxWP sc cl Q 48 (22, [some (.ref 9), some (.int v1)], [], (cW nw kp im ol sn sr tp (mW mk mg mt mc T)), 0, 0)
    exact J22 _ _ hf
  · show sxWP sc cl Q 48 (4, [some (.ref 9), some (.int v1)], [], (cW nw kp im ol sn sr tp (mW mk mg mt mc T)), 0, 0)
    refine stp hm 5 (br hf (fun c2 hf => ?_) (fun c2 hf => ?_))
    · show sxWP sc cl Q 48 (22, [some (.ref 9), some (.int v1)], [], (cW nw kp im ol sn sr tp (mW mk mg mt mc T)), 0, 0)
      exact J22 _ _ hf
    · show sxWP sc cl Q 48 (13, [some (.ref 9), some (.int v1)], [], (cW nw kp im ol sn sr tp (mW mk mg mt mc T)), 0, 0)
      obtain ⟨g3, hf⟩ := grd_e hf
      refine stp hm 4 (And.intro (gi_in g3) (?_ : sxWP sc cl Q 48 (19, [some (.ref 9), some (.int v1)], [.int (nw.2.2.2.2.2.1.2.1 v1.toNatClampNeg)], (cW nw kp im ol sn sr tp (mW mk mg mt mc T)), 0, 0)))
      refine stp hm 1 (?_ : sxWP sc cl Q 48 (23, [some (.ref 9), some (.int v1)], [.int (nw.2.2.2.2.2.1.2.1 v1.toNatClampNeg)], (cW nw kp im ol sn sr tp (mW mk mg mt mc T)), 0, 0))
      exact J23 _ _ _ hf

def R_other_2_j23  (k0 : Int32) : Option Int32 := some k0
def R_other_2_j22   : Option Int32 := R_other_2_j23 (0:Int32)
def R_other_2 (v1 : Int32) (neq : (Nat → Int32)) : Option Int32 := if v1 < (0:Int32) then R_other_2_j22 else (if (Int32.ofNat 8) ≤ v1 then R_other_2_j22 else (grd (gi v1 8) (R_other_2_j23 (neq v1.toNatClampNeg))))
set_option maxRecDepth 10000 in
theorem R_other_2_ok {v1 : Int32} {q : Int32} (hc : call = sxE sc (d + 1)) (hf : R_other_2 v1 nw.2.2.2.2.2.1.2.2 = some q) (h : Q (some (.int q)) (cW nw kp im ol sn sr tp (mW mk mg mt mc T))) : call 49 [.ref 9, .int v1] (cW nw kp im ol sn sr tp (mW mk mg mt mc T)) Q := by
  refine ent hc rfl (fun cl hE hm => ?_)
  have J23 : ∀ (k0 : Int32) (z0 : Option Value) (z1 : Option Value), R_other_2_j23 k0 = some q → sxWP sc cl Q 49 (23, [z0, z1], [.int k0], (cW nw kp im ol sn sr tp (mW mk mg mt mc T)), 0, 0) := by
    intro k0 z0 z1 hf
    unfold R_other_2_j23 at hf
    obtain rfl := Option.some.inj hf
    refine stp hm 1 ?_
    exact h
  have J22 : ∀  (z0 : Option Value) (z1 : Option Value), R_other_2_j22 = some q → sxWP sc cl Q 49 (22, [z0, z1], [], (cW nw kp im ol sn sr tp (mW mk mg mt mc T)), 0, 0) := by
    intro z0 z1 hf
    unfold R_other_2_j22 at hf
    refine stp hm 1 (?_ : sxWP sc cl Q 49 (23, [z0, z1], [.int (0:Int32)], (cW nw kp im ol sn sr tp (mW mk mg mt mc T)), 0, 0))
    exact J23 _ _ _ hf
  unfold R_other_2 at hf
  refine stp hm 2 (br hf (fun c1 hf => ?_) (fun c1 hf => ?_))
  · show sxWP sc cl Q 49 (22, [some (.ref 9), some (.int v1)], [], (cW nw kp im ol sn sr tp (mW mk mg mt mc T)), 0, 0)
    exact J22 _ _ hf
  · show sxWP sc cl Q 49 (4, [some (.ref 9), some (.int v1)], [], (cW nw kp im ol sn sr tp (mW mk mg mt mc T)), 0, 0)
    refine stp hm 5 (br hf (fun c2 hf => ?_) (fun c2 hf => ?_))
    · show sxWP sc cl Q 49 (22, [some (.ref 9), some (.int v1)], [], (cW nw kp im ol sn sr tp (mW mk mg mt mc T)), 0, 0)
      exact J22 _ _ hf
    · show sxWP sc cl Q 49 (13, [some (.ref 9), some (.int v1)], [], (cW nw kp im ol sn sr tp (mW mk mg mt mc T)), 0, 0)
      obtain ⟨g3, hf⟩ := grd_e hf
      refine stp hm 4 (And.intro (gi_in g3) (?_ : sxWP sc cl Q 49 (19, [some (.ref 9), some (.int v1)], [.int (nw.2.2.2.2.2.1.2.2 v1.toNatClampNeg)], (cW nw kp im ol sn sr tp (mW mk mg mt mc T)), 0, 0)))
      refine stp hm 1 (?_ : sxWP sc cl Q 49 (23, [some (.ref 9), some (.int v1)], [.int (nw.2.2.2.2.2.1.2.2 v1.toNatClampNeg)], (cW nw kp im ol sn sr tp (mW mk mg mt mc T)), 0, 0))
      exact J23 _ _ _ hf

def X_happened (v0 : Int64) (v2 : Int32) (v3 : Int32)  : Option Int64 := if v2 = (0:Int32) then (some (v0 ^^^ ((1:Int64) <<< (v3.toInt64 &&& 63)))) else (if v2 = (1:Int32) then (some (v0 ||| ((63:Int64) <<< ((v3 * (6:Int32)).toInt64 &&& 63)))) else (if v2 = (2:Int32) then (some (v0 &&& (((1090785345:Int64) <<< (v3.toInt64 &&& 63)) ^^^ (-1:Int64)))) else (Option.bind (G_mirror v0) (fun q2 => some q2))))
set_option maxRecDepth 10000 in
theorem X_happened_ok {v0 : Int64} {v2 : Int32} {v3 : Int32} {q : Int64} (hc : call = sxE sc (d + 4)) (hf : X_happened v0 v2 v3 = some q) (h : Q (some (.long q)) (cW nw kp im ol sn sr tp (mW mk mg mt mc T))) : call 124 [.long v0, .int v2, .int v3] (cW nw kp im ol sn sr tp (mW mk mg mt mc T)) Q := by
  refine ent hc rfl (fun cl hE hm => ?_)
  unfold X_happened at hf
  refine stp hm 2 ?_
  show sxWP sc cl Q 124 ((swT (v2).toInt (0) [28, 34, 45] 57), [some (.long v0), none, some (.int v2), some (.int v3)], [], (cW nw kp im ol sn sr tp (mW mk mg mt mc T)), 0, 0)
  rcases ite_or hf with ⟨c1_0, hf⟩ | ⟨c1_0, hf⟩
  · rw [show swT (v2).toInt (0) [28, 34, 45] 57 = 28 by rw [c1_0]; rfl]
    obtain rfl := Option.some.inj hf
    refine stp hm 6 ?_
    exact h
  rcases ite_or hf with ⟨c1_1, hf⟩ | ⟨c1_1, hf⟩
  · rw [show swT (v2).toInt (0) [28, 34, 45] 57 = 34 by rw [c1_1]; rfl]
    obtain rfl := Option.some.inj hf
    refine stp hm 8 ?_
    exact h
  rcases ite_or hf with ⟨c1_2, hf⟩ | ⟨c1_2, hf⟩
  · rw [show swT (v2).toInt (0) [28, 34, 45] 57 = 45 by rw [c1_2]; rfl]
    obtain rfl := Option.some.inj hf
    refine stp hm 8 ?_
    exact h
  have tc1_0 : ¬ (v2).toInt = 0 := fun e => c1_0 (Int32.toInt_inj.mp e)
  have tc1_1 : ¬ (v2).toInt = 1 := fun e => c1_1 (Int32.toInt_inj.mp e)
  have tc1_2 : ¬ (v2).toInt = 2 := fun e => c1_2 (Int32.toInt_inj.mp e)
  rw [show swT (v2).toInt (0) [28, 34, 45] 57 = 57 by simp [swT, tc1_0, tc1_1, tc1_2]]
  obtain ⟨q2, hq2, hf⟩ := bnd hf
  refine stp hm 2 (G_mirror_ok hE hq2 ?_)
  show sxWP sc cl Q 124 (61, [some (.long v0), none, some (.int v2), some (.int v3)], [.long q2], (cW nw kp im ol sn sr tp (mW mk mg mt mc T)), 0, 0)
  obtain rfl := Option.some.inj hf
  refine stp hm 1 ?_
  exact h

def X_after_s22   (nes : Int32) (neo : (Nat → Int32)) (neq : (Nat → Int32)) (s : (Int64 × Int32)) : Option ((Int64 × Int32) ⊕ Int64) := if nes ≤ s.2 then (some (Sum.inr s.1)) else (Option.bind (R_one_2 s.2 neo) (fun q2 => Option.bind (R_other_2 s.2 neq) (fun q3 => Option.bind (X_happened s.1 q2 q3) (fun q4 => some (Sum.inl (q4, s.2 + (1:Int32)))))))
def X_after_j9  (okn_j : Int32) (org_j : Int64) (osi_j : Int32) (oti_j : Int32) (ole_j : Int32) (oto_j : Int32) (oow_j : Int64) (oco_j : Int64) (ost_j : (Nat → Int32)) (owa_j : (Nat → Int32)) (owv_j : (Nat → Int32)) (owh_j : (Nat → Int32)) (olo_j : (Nat → Int32)) (ohi_j : (Nat → Int32)) (odi_j : (Nat → Int32)) (oqu_j : (Nat → Int32)) : Option (Int32 × Int32 × Int64 × Int32 × Int32 × Int32 × Int32 × Int64 × Int64 × (Nat → Int32) × (Nat → Int32) × (Nat → Int32) × (Nat → Int32) × (Nat → Int32) × (Nat → Int32) × (Nat → Int32) × (Nat → Int32)) := some ((-1:Int32), okn_j, org_j, osi_j, oti_j, ole_j, oto_j, oow_j, oco_j, ost_j, owa_j, owv_j, owh_j, olo_j, ohi_j, odi_j, oqu_j)
def X_after (v1 : Int32) (nrg : Int64) (nes : Int32) (neo : (Nat → Int32)) (neq : (Nat → Int32)) (okn : Int32) (org : Int64) (osi : Int32) (oti : Int32) (ole : Int32) (oto : Int32) (oow : Int64) (oco : Int64) (ost : (Nat → Int32)) (owa : (Nat → Int32)) (owv : (Nat → Int32)) (owh : (Nat → Int32)) (olo : (Nat → Int32)) (ohi : (Nat → Int32)) (ora : (Nat → Int32)) (odi : (Nat → Int32)) (oqu : (Nat → Int32)) : Option (Int32 × Int32 × Int64 × Int32 × Int32 × Int32 × Int32 × Int64 × Int64 × (Nat → Int32) × (Nat → Int32) × (Nat → Int32) × (Nat → Int32) × (Nat → Int32) × (Nat → Int32) × (Nat → Int32) × (Nat → Int32)) := if v1 < (0:Int32) then (X_after_j9 okn org osi oti ole oto oow oco ost owa owv owh olo ohi odi oqu) else (if v1 ≤ (2:Int32) then (Option.bind (wh (X_after_s22 nes neo neq) FU (nrg, (0:Int32))) (fun w3 => if v1 = (0:Int32) then (some (J_Long_bitCount w3, okn, org, osi, oti, ole, oto, oow, oco, ost, owa, owv, owh, olo, ohi, odi, oqu)) else (Option.bind (O_look w3 okn org osi oti ole oto oow oco ost owa owv owh olo ohi ora odi oqu) (fun q5 => some (X_bit (if v1 = (1:Int32) then q5.2.2.1 else q5.2.2.2.1), q5.1, q5.2.1, q5.2.2.1, q5.2.2.2.1, q5.2.2.2.2.1, q5.2.2.2.2.2.1, q5.2.2.2.2.2.2.1, q5.2.2.2.2.2.2.2.1, q5.2.2.2.2.2.2.2.2.1, q5.2.2.2.2.2.2.2.2.2.1, q5.2.2.2.2.2.2.2.2.2.2.1, q5.2.2.2.2.2.2.2.2.2.2.2.1, q5.2.2.2.2.2.2.2.2.2.2.2.2.1, q5.2.2.2.2.2.2.2.2.2.2.2.2.2.1, q5.2.2.2.2.2.2.2.2.2.2.2.2.2.2.1, q5.2.2.2.2.2.2.2.2.2.2.2.2.2.2.2))))) else (X_after_j9 okn org osi oti ole oto oow oco ost owa owv owh olo ohi odi oqu))
set_option maxRecDepth 10000 in
theorem X_after_l22 {v1 : Int32}   (hE : cl = sxE sc (d + 4)) (hm : CallMono cl) : ∀ (n : Nat) (s : (Int64 × Int32)) (r : Int64), wh (X_after_s22 nw.2.2.2.2.2.1.1 nw.2.2.2.2.2.1.2.1 nw.2.2.2.2.2.1.2.2) n s = some r → (∀ (z4 : Option Value), sxWP sc cl Q 123 (72, [some (.ref 0), some (.int v1), some (.long r), none, z4], [], (cW nw kp im ol sn sr tp (mW mk mg mt mc T)), 0, 0)) → sxWP sc cl Q 123 (22, [some (.ref 0), some (.int v1), some (.long s.1), none, some (.int s.2)], [], (cW nw kp im ol sn sr tp (mW mk mg mt mc T)), 0, 0) := by
  refine wh_run (A := fun (s : (Int64 × Int32)) => sxWP sc cl Q 123 (22, [some (.ref 0), some (.int v1), some (.long s.1), none, some (.int s.2)], [], (cW nw kp im ol sn sr tp (mW mk mg mt mc T)), 0, 0)) (B := fun (r : Int64) => ∀ (z4 : Option Value), sxWP sc cl Q 123 (72, [some (.ref 0), some (.int v1), some (.long r), none, z4], [], (cW nw kp im ol sn sr tp (mW mk mg mt mc T)), 0, 0)) (fun s x hf hA hB => ?_)
  unfold X_after_s22 at hf
  refine stp hm 6 (br hf (fun c1 hf => ?_) (fun c1 hf => ?_))
  · show sxWP sc cl Q 123 (72, [some (.ref 0), some (.int v1), some (.long s.1), none, some (.int s.2)], [], (cW nw kp im ol sn sr tp (mW mk mg mt mc T)), 0, 0)
    obtain rfl := Option.some.inj hf
    exact hB _ rfl _
  · show sxWP sc cl Q 123 (37, [some (.ref 0), some (.int v1), some (.long s.1), none, some (.int s.2)], [], (cW nw kp im ol sn sr tp (mW mk mg mt mc T)), 0, 0)
    obtain ⟨q2, hq2, hf⟩ := bnd hf
    refine stp hm 6 (R_one_2_ok hE hq2 ?_)
    show sxWP sc cl Q 123 (50, [some (.ref 0), some (.int v1), some (.long s.1), none, some (.int s.2)], [.int q2, .long s.1], (cW nw kp im ol sn sr tp (mW mk mg mt mc T)), 0, 0)
    obtain ⟨q3, hq3, hf⟩ := bnd hf
    refine stp hm 5 (R_other_2_ok hE hq3 ?_)
    show sxWP sc cl Q 123 (62, [some (.ref 0), some (.int v1), some (.long s.1), none, some (.int s.2)], [.int q3, .int q2, .long s.1], (cW nw kp im ol sn sr tp (mW mk mg mt mc T)), 0, 0)
    obtain ⟨q4, hq4, hf⟩ := bnd hf
    refine stp hm 1 (X_happened_ok hE hq4 ?_)
    show sxWP sc cl Q 123 (65, [some (.ref 0), some (.int v1), some (.long s.1), none, some (.int s.2)], [.long q4], (cW nw kp im ol sn sr tp (mW mk mg mt mc T)), 0, 0)
    obtain rfl := Option.some.inj hf
    refine stp hm 3 (?_ : sxWP sc cl Q 123 (22, [some (.ref 0), some (.int v1), some (.long q4), none, some (.int (s.2 + (1:Int32)))], [], (cW nw kp im ol sn sr tp (mW mk mg mt mc T)), 0, 0))
    exact hA _ rfl
set_option maxRecDepth 10000 in
theorem X_after_ok {v1 : Int32} {q : (Int32 × Int32 × Int64 × Int32 × Int32 × Int32 × Int32 × Int64 × Int64 × (Nat → Int32) × (Nat → Int32) × (Nat → Int32) × (Nat → Int32) × (Nat → Int32) × (Nat → Int32) × (Nat → Int32) × (Nat → Int32))} (hc : call = sxE sc (d + 5)) (hf : X_after v1 nw.1 nw.2.2.2.2.2.1.1 nw.2.2.2.2.2.1.2.1 nw.2.2.2.2.2.1.2.2 ol.1 ol.2.1 ol.2.2.1 ol.2.2.2.1 ol.2.2.2.2.1 ol.2.2.2.2.2.1 ol.2.2.2.2.2.2.1 ol.2.2.2.2.2.2.2.1 ol.2.2.2.2.2.2.2.2.1 ol.2.2.2.2.2.2.2.2.2.1 ol.2.2.2.2.2.2.2.2.2.2.1 ol.2.2.2.2.2.2.2.2.2.2.2.1 ol.2.2.2.2.2.2.2.2.2.2.2.2.1 ol.2.2.2.2.2.2.2.2.2.2.2.2.2.1 ol.2.2.2.2.2.2.2.2.2.2.2.2.2.2.1 ol.2.2.2.2.2.2.2.2.2.2.2.2.2.2.2.1 ol.2.2.2.2.2.2.2.2.2.2.2.2.2.2.2.2 = some q) (h : Q (some (.int q.1)) (cW nw kp im (q.2.1, q.2.2.1, q.2.2.2.1, q.2.2.2.2.1, q.2.2.2.2.2.1, q.2.2.2.2.2.2.1, q.2.2.2.2.2.2.2.1, q.2.2.2.2.2.2.2.2.1, q.2.2.2.2.2.2.2.2.2.1, q.2.2.2.2.2.2.2.2.2.2.1, q.2.2.2.2.2.2.2.2.2.2.2.1, q.2.2.2.2.2.2.2.2.2.2.2.2.1, q.2.2.2.2.2.2.2.2.2.2.2.2.2.1, q.2.2.2.2.2.2.2.2.2.2.2.2.2.2.1, ol.2.2.2.2.2.2.2.2.2.2.2.2.2.2.1, q.2.2.2.2.2.2.2.2.2.2.2.2.2.2.2.1, q.2.2.2.2.2.2.2.2.2.2.2.2.2.2.2.2) sn sr tp (mW mk mg mt mc T))) : call 123 [.ref 0, .int v1] (cW nw kp im ol sn sr tp (mW mk mg mt mc T)) Q := by
  refine ent hc rfl (fun cl hE hm => ?_)
  have J9 : ∀ (okn_j : Int32) (org_j : Int64) (osi_j : Int32) (oti_j : Int32) (ole_j : Int32) (oto_j : Int32) (oow_j : Int64) (oco_j : Int64) (ost_j : (Nat → Int32)) (owa_j : (Nat → Int32)) (owv_j : (Nat → Int32)) (owh_j : (Nat → Int32)) (olo_j : (Nat → Int32)) (ohi_j : (Nat → Int32)) (odi_j : (Nat → Int32)) (oqu_j : (Nat → Int32)) (z0 : Option Value) (z1 : Option Value) (z2 : Option Value) (z3 : Option Value) (z4 : Option Value), X_after_j9 okn_j org_j osi_j oti_j ole_j oto_j oow_j oco_j ost_j owa_j owv_j owh_j olo_j ohi_j odi_j oqu_j = some q → sxWP sc cl Q 123 (9, [z0, z1, z2, z3, z4], [], (cW nw kp im (okn_j, org_j, osi_j, oti_j, ole_j, oto_j, oow_j, oco_j, ost_j, owa_j, owv_j, owh_j, olo_j, ohi_j, ol.2.2.2.2.2.2.2.2.2.2.2.2.2.2.1, odi_j, oqu_j) sn sr tp (mW mk mg mt mc T)), 0, 0) := by
    intro okn_j org_j osi_j oti_j ole_j oto_j oow_j oco_j ost_j owa_j owv_j owh_j olo_j ohi_j odi_j oqu_j z0 z1 z2 z3 z4 hf
    unfold X_after_j9 at hf
    obtain rfl := Option.some.inj hf
    refine stp hm 2 ?_
    exact h
  unfold X_after at hf
  refine stp hm 2 (br hf (fun c1 hf => ?_) (fun c1 hf => ?_))
  · show sxWP sc cl Q 123 (9, [some (.ref 0), some (.int v1), none, none, none], [], (cW nw kp im ol sn sr tp (mW mk mg mt mc T)), 0, 0)
    exact J9 _ _ _ _ _ _ _ _ _ _ _ _ _ _ _ _ _ _ _ _ _ hf
  · show sxWP sc cl Q 123 (4, [some (.ref 0), some (.int v1), none, none, none], [], (cW nw kp im ol sn sr tp (mW mk mg mt mc T)), 0, 0)
    refine stp hm 3 (br hf (fun c2 hf => ?_) (fun c2 hf => ?_))
    · show sxWP sc cl Q 123 (11, [some (.ref 0), some (.int v1), none, none, none], [], (cW nw kp im ol sn sr tp (mW mk mg mt mc T)), 0, 0)
      obtain ⟨w3, hw3, hf⟩ := bnd hf
      refine stp hm 6 (?_ : sxWP sc cl Q 123 (22, [some (.ref 0), some (.int v1), some (.long nw.1), none, some (.int (0:Int32))], [], (cW nw kp im ol sn sr tp (mW mk mg mt mc T)), 0, 0))
      refine X_after_l22 hE hm _ _ _ hw3 ?_
      intro w3_z4
      show sxWP sc cl Q 123 (72, [some (.ref 0), some (.int v1), some (.long w3), none, w3_z4], [], (cW nw kp im ol sn sr tp (mW mk mg mt mc T)), 0, 0)
      refine stp hm 2 (brn hf (fun c4 hf => ?_) (fun c4 hf => ?_))
      · show sxWP sc cl Q 123 (81, [some (.ref 0), some (.int v1), some (.long w3), none, w3_z4], [], (cW nw kp im ol sn sr tp (mW mk mg mt mc T)), 0, 0)
        obtain ⟨q5, hq5, hf⟩ := bnd hf
        refine stp hm 4 (O_look_ok hE hq5 ?_)
        show sxWP sc cl Q 123 (89, [some (.ref 0), some (.int v1), some (.long w3), none, w3_z4], [], (cW nw kp im (q5.1, q5.2.1, q5.2.2.1, q5.2.2.2.1, q5.2.2.2.2.1, q5.2.2.2.2.2.1, q5.2.2.2.2.2.2.1, q5.2.2.2.2.2.2.2.1, q5.2.2.2.2.2.2.2.2.1, q5.2.2.2.2.2.2.2.2.2.1, q5.2.2.2.2.2.2.2.2.2.2.1, q5.2.2.2.2.2.2.2.2.2.2.2.1, q5.2.2.2.2.2.2.2.2.2.2.2.2.1, q5.2.2.2.2.2.2.2.2.2.2.2.2.2.1, ol.2.2.2.2.2.2.2.2.2.2.2.2.2.2.1, q5.2.2.2.2.2.2.2.2.2.2.2.2.2.2.1, q5.2.2.2.2.2.2.2.2.2.2.2.2.2.2.2) sn sr tp (mW mk mg mt mc T)), 0, 0)
        have m6 : ∀ (m6_0 : Int32), m6_0 = (if v1 = (1:Int32) then q5.2.2.1 else q5.2.2.2.1) → sxWP sc cl Q 123 (111, [some (.ref 0), some (.int v1), some (.long w3), none, w3_z4], [.int m6_0], (cW nw kp im (q5.1, q5.2.1, q5.2.2.1, q5.2.2.2.1, q5.2.2.2.2.1, q5.2.2.2.2.2.1, q5.2.2.2.2.2.2.1, q5.2.2.2.2.2.2.2.1, q5.2.2.2.2.2.2.2.2.1, q5.2.2.2.2.2.2.2.2.2.1, q5.2.2.2.2.2.2.2.2.2.2.1, q5.2.2.2.2.2.2.2.2.2.2.2.1, q5.2.2.2.2.2.2.2.2.2.2.2.2.1, q5.2.2.2.2.2.2.2.2.2.2.2.2.2.1, ol.2.2.2.2.2.2.2.2.2.2.2.2.2.2.1, q5.2.2.2.2.2.2.2.2.2.2.2.2.2.2.1, q5.2.2.2.2.2.2.2.2.2.2.2.2.2.2.2) sn sr tp (mW mk mg mt mc T)), 0, 0) := by
          intro m6_0 em6_0
          subst em6_0
          refine stp hm 1 (X_bit_ok hE rfl ?_)
          show sxWP sc cl Q 123 (114, [some (.ref 0), some (.int v1), some (.long w3), none, w3_z4], [.int (X_bit (if v1 = (1:Int32) then q5.2.2.1 else q5.2.2.2.1))], (cW nw kp im (q5.1, q5.2.1, q5.2.2.1, q5.2.2.2.1, q5.2.2.2.2.1, q5.2.2.2.2.2.1, q5.2.2.2.2.2.2.1, q5.2.2.2.2.2.2.2.1, q5.2.2.2.2.2.2.2.2.1, q5.2.2.2.2.2.2.2.2.2.1, q5.2.2.2.2.2.2.2.2.2.2.1, q5.2.2.2.2.2.2.2.2.2.2.2.1, q5.2.2.2.2.2.2.2.2.2.2.2.2.1, q5.2.2.2.2.2.2.2.2.2.2.2.2.2.1, ol.2.2.2.2.2.2.2.2.2.2.2.2.2.2.1, q5.2.2.2.2.2.2.2.2.2.2.2.2.2.2.1, q5.2.2.2.2.2.2.2.2.2.2.2.2.2.2.2) sn sr tp (mW mk mg mt mc T)), 0, 0)
          obtain rfl := Option.some.inj hf
          refine stp hm 1 ?_
          exact h
        refine stp hm 3 (bsn (c := v1 = (1:Int32)) (fun c7 => ?_) (fun c7 => ?_))
        · have c7 : ¬ v1 = (1:Int32) := c7
          refine stp hm 3 (?_ : sxWP sc cl Q 123 (111, [some (.ref 0), some (.int v1), some (.long w3), none, w3_z4], [.int q5.2.2.2.1], (cW nw kp im (q5.1, q5.2.1, q5.2.2.1, q5.2.2.2.1, q5.2.2.2.2.1, q5.2.2.2.2.2.1, q5.2.2.2.2.2.2.1, q5.2.2.2.2.2.2.2.1, q5.2.2.2.2.2.2.2.2.1, q5.2.2.2.2.2.2.2.2.2.1, q5.2.2.2.2.2.2.2.2.2.2.1, q5.2.2.2.2.2.2.2.2.2.2.2.1, q5.2.2.2.2.2.2.2.2.2.2.2.2.1, q5.2.2.2.2.2.2.2.2.2.2.2.2.2.1, ol.2.2.2.2.2.2.2.2.2.2.2.2.2.2.1, q5.2.2.2.2.2.2.2.2.2.2.2.2.2.2.1, q5.2.2.2.2.2.2.2.2.2.2.2.2.2.2.2) sn sr tp (mW mk mg mt mc T)), 0, 0))
          exact m6 _ (by rw [if_neg c7])
        · have c7 : v1 = (1:Int32) := c7
          refine stp hm 4 (?_ : sxWP sc cl Q 123 (111, [some (.ref 0), some (.int v1), some (.long w3), none, w3_z4], [.int q5.2.2.1], (cW nw kp im (q5.1, q5.2.1, q5.2.2.1, q5.2.2.2.1, q5.2.2.2.2.1, q5.2.2.2.2.2.1, q5.2.2.2.2.2.2.1, q5.2.2.2.2.2.2.2.1, q5.2.2.2.2.2.2.2.2.1, q5.2.2.2.2.2.2.2.2.2.1, q5.2.2.2.2.2.2.2.2.2.2.1, q5.2.2.2.2.2.2.2.2.2.2.2.1, q5.2.2.2.2.2.2.2.2.2.2.2.2.1, q5.2.2.2.2.2.2.2.2.2.2.2.2.2.1, ol.2.2.2.2.2.2.2.2.2.2.2.2.2.2.1, q5.2.2.2.2.2.2.2.2.2.2.2.2.2.2.1, q5.2.2.2.2.2.2.2.2.2.2.2.2.2.2.2) sn sr tp (mW mk mg mt mc T)), 0, 0))
          exact m6 _ (by rw [if_pos c7])
      · show sxWP sc cl Q 123 (76, [some (.ref 0), some (.int v1), some (.long w3), none, w3_z4], [], (cW nw kp im ol sn sr tp (mW mk mg mt mc T)), 0, 0)
        refine stp hm 2 (J_Long_bitCount_ok hE rfl ?_)
        show sxWP sc cl Q 123 (80, [some (.ref 0), some (.int v1), some (.long w3), none, w3_z4], [.int (J_Long_bitCount w3)], (cW nw kp im ol sn sr tp (mW mk mg mt mc T)), 0, 0)
        obtain rfl := Option.some.inj hf
        refine stp hm 1 ?_
        exact h
    · show sxWP sc cl Q 123 (9, [some (.ref 0), some (.int v1), none, none, none], [], (cW nw kp im ol sn sr tp (mW mk mg mt mc T)), 0, 0)
      exact J9 _ _ _ _ _ _ _ _ _ _ _ _ _ _ _ _ _ _ _ _ _ hf

def M_happens_j93  (mrg_j : Int64) : Option Int64 := some mrg_j
def M_happens (v1 : Int32) (v2 : Int32) (mrg : Int64) : Option Int64 := if v1 = (0:Int32) then (M_happens_j93 (mrg ^^^ ((1:Int64) <<< (v2.toInt64 &&& 63)))) else (if v1 = (1:Int32) then (Option.bind (M_filled ((6:Int32) * v2) ((((6:Int32) * v2) + (6:Int32)) - (1:Int32)) (1:Int32) mrg) (fun q2 => M_happens_j93 q2)) else (if v1 = (2:Int32) then (Option.bind (M_filled v2 ((30:Int32) + v2) (0:Int32) mrg) (fun q3 => M_happens_j93 q3)) else (Option.bind (M_mirrored mrg) (fun q4 => M_happens_j93 q4))))
set_option maxRecDepth 10000 in
theorem M_happens_ok {v1 : Int32} {v2 : Int32} {q : Int64} (hc : call = sxE sc (d + 3)) (hf : M_happens v1 v2 mk.1 = some q) (h : Q none (cW nw kp im ol sn sr tp (mW (q, mk.2.1, mk.2.2.1, mk.2.2.2.1, mk.2.2.2.2.1, mk.2.2.2.2.2.1, mk.2.2.2.2.2.2.1, mk.2.2.2.2.2.2.2.1, mk.2.2.2.2.2.2.2.2.1, mk.2.2.2.2.2.2.2.2.2) mg mt mc T))) : call 227 [.ref 59, .int v1, .int v2] (cW nw kp im ol sn sr tp (mW mk mg mt mc T)) Q := by
  refine ent hc rfl (fun cl hE hm => ?_)
  have J93 : ∀ (mrg_j : Int64) (z0 : Option Value) (z1 : Option Value) (z2 : Option Value), M_happens_j93 mrg_j = some q → sxWP sc cl Q 227 (93, [z0, z1, z2], [], (cW nw kp im ol sn sr tp (mW (mrg_j, mk.2.1, mk.2.2.1, mk.2.2.2.1, mk.2.2.2.2.1, mk.2.2.2.2.2.1, mk.2.2.2.2.2.2.1, mk.2.2.2.2.2.2.2.1, mk.2.2.2.2.2.2.2.2.1, mk.2.2.2.2.2.2.2.2.2) mg mt mc T)), 0, 0) := by
    intro mrg_j z0 z1 z2 hf
    unfold M_happens_j93 at hf
    obtain rfl := Option.some.inj hf
    refine stp hm 1 ?_
    exact h
  unfold M_happens at hf
  refine stp hm 2 ?_
  show sxWP sc cl Q 227 ((swT (v1).toInt (0) [28, 43, 68] 85), [some (.ref 59), some (.int v1), some (.int v2)], [], (cW nw kp im ol sn sr tp (mW mk mg mt mc T)), 0, 0)
  rcases ite_or hf with ⟨c1_0, hf⟩ | ⟨c1_0, hf⟩
  · rw [show swT (v1).toInt (0) [28, 43, 68] 85 = 28 by rw [c1_0]; rfl]
    refine stp hm 9 (?_ : sxWP sc cl Q 227 (93, [some (.ref 59), some (.int v1), some (.int v2)], [], (cW nw kp im ol sn sr tp (mW (mk.1 ^^^ ((1:Int64) <<< (v2.toInt64 &&& 63)), mk.2.1, mk.2.2.1, mk.2.2.2.1, mk.2.2.2.2.1, mk.2.2.2.2.2.1, mk.2.2.2.2.2.2.1, mk.2.2.2.2.2.2.2.1, mk.2.2.2.2.2.2.2.2.1, mk.2.2.2.2.2.2.2.2.2) mg mt mc T)), 0, 0))
    exact J93 _ _ _ _ hf
  rcases ite_or hf with ⟨c1_1, hf⟩ | ⟨c1_1, hf⟩
  · rw [show swT (v1).toInt (0) [28, 43, 68] 85 = 43 by rw [c1_1]; rfl]
    obtain ⟨q2, hq2, hf⟩ := bnd hf
    refine stp hm 14 (M_filled_ok hE hq2 ?_)
    show sxWP sc cl Q 227 (62, [some (.ref 59), some (.int v1), some (.int v2)], [.long q2, .ref 59], (cW nw kp im ol sn sr tp (mW mk mg mt mc T)), 0, 0)
    refine stp hm 2 (?_ : sxWP sc cl Q 227 (93, [some (.ref 59), some (.int v1), some (.int v2)], [], (cW nw kp im ol sn sr tp (mW (q2, mk.2.1, mk.2.2.1, mk.2.2.2.1, mk.2.2.2.2.1, mk.2.2.2.2.2.1, mk.2.2.2.2.2.2.1, mk.2.2.2.2.2.2.2.1, mk.2.2.2.2.2.2.2.2.1, mk.2.2.2.2.2.2.2.2.2) mg mt mc T)), 0, 0))
    exact J93 _ _ _ _ hf
  rcases ite_or hf with ⟨c1_2, hf⟩ | ⟨c1_2, hf⟩
  · rw [show swT (v1).toInt (0) [28, 43, 68] 85 = 68 by rw [c1_2]; rfl]
    obtain ⟨q3, hq3, hf⟩ := bnd hf
    refine stp hm 8 (M_filled_ok hE hq3 ?_)
    show sxWP sc cl Q 227 (79, [some (.ref 59), some (.int v1), some (.int v2)], [.long q3, .ref 59], (cW nw kp im ol sn sr tp (mW mk mg mt mc T)), 0, 0)
    refine stp hm 2 (?_ : sxWP sc cl Q 227 (93, [some (.ref 59), some (.int v1), some (.int v2)], [], (cW nw kp im ol sn sr tp (mW (q3, mk.2.1, mk.2.2.1, mk.2.2.2.1, mk.2.2.2.2.1, mk.2.2.2.2.2.1, mk.2.2.2.2.2.2.1, mk.2.2.2.2.2.2.2.1, mk.2.2.2.2.2.2.2.2.1, mk.2.2.2.2.2.2.2.2.2) mg mt mc T)), 0, 0))
    exact J93 _ _ _ _ hf
  have tc1_0 : ¬ (v1).toInt = 0 := fun e => c1_0 (Int32.toInt_inj.mp e)
  have tc1_1 : ¬ (v1).toInt = 1 := fun e => c1_1 (Int32.toInt_inj.mp e)
  have tc1_2 : ¬ (v1).toInt = 2 := fun e => c1_2 (Int32.toInt_inj.mp e)
  rw [show swT (v1).toInt (0) [28, 43, 68] 85 = 85 by simp [swT, tc1_0, tc1_1, tc1_2]]
  obtain ⟨q4, hq4, hf⟩ := bnd hf
  refine stp hm 3 (M_mirrored_ok hE hq4 ?_)
  show sxWP sc cl Q 227 (90, [some (.ref 59), some (.int v1), some (.int v2)], [.long q4, .ref 59], (cW nw kp im ol sn sr tp (mW mk mg mt mc T)), 0, 0)
  refine stp hm 1 (?_ : sxWP sc cl Q 227 (93, [some (.ref 59), some (.int v1), some (.int v2)], [], (cW nw kp im ol sn sr tp (mW (q4, mk.2.1, mk.2.2.1, mk.2.2.2.1, mk.2.2.2.2.1, mk.2.2.2.2.2.1, mk.2.2.2.2.2.2.1, mk.2.2.2.2.2.2.2.1, mk.2.2.2.2.2.2.2.2.1, mk.2.2.2.2.2.2.2.2.2) mg mt mc T)), 0, 0))
  exact J93 _ _ _ _ hf
end PT
