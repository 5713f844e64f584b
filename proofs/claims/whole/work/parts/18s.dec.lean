/-! methods as functions (printed by wip/whole/dec) -/
section PT
variable {sc : sxS} {d : Nat} {Q : sxR} {hp : sxH} {call cl : sxX} {nw kp : tSt} {im : Int32} {ol : tOl} {sn : tSn} {sr : tSc} {tp : Nat → tTp} {mk : tMk} {mg : tMg} {mt : tMt} {mc : tMc} {T : sxH}

def M_after_s19   (ms : (Nat → Int32)) (s : (Int32 × Int64)) : Option ((Int32 × Int64) ⊕ Int64) := grd (gi (4:Int32) 122) (if (ms (4:Int32).toNatClampNeg) ≤ s.1 then (some (Sum.inr s.2)) else (grd (gi ((90:Int32) + ((2:Int32) * s.1)) 122) (grd (gi (((90:Int32) + ((2:Int32) * s.1)) + (1:Int32)) 122) (Option.bind (M_happens (ms ((90:Int32) + ((2:Int32) * s.1)).toNatClampNeg) (ms (((90:Int32) + ((2:Int32) * s.1)) + (1:Int32)).toNatClampNeg) s.2) (fun q5 => some (Sum.inl (s.1 + (1:Int32), q5)))))))
def M_after_j104  (v2 : Int64) (k0 : Int32) (gle_j : Int32) (gsu_j : Int32) (gma_j : (Nat → Int32)) (gpi_j : (Nat → Int32)) (gst_j : (Nat → Int32)) (ghe_j : (Nat → Int32)) (gow_j : (Nat → Int32)) (gfa_j : (Nat → Int32)) (gqu_j : (Nat → Int32)) (glo_j : (Nat → Int32)) (ghi_j : (Nat → Int32)) : Option (Int32 × Int64 × Int32 × Int32 × (Nat → Int32) × (Nat → Int32) × (Nat → Int32) × (Nat → Int32) × (Nat → Int32) × (Nat → Int32) × (Nat → Int32) × (Nat → Int32) × (Nat → Int32)) := some (k0, v2, gle_j, gsu_j, gma_j, gpi_j, gst_j, ghe_j, gow_j, gfa_j, gqu_j, glo_j, ghi_j)
def M_after (v1 : Int32) (mrg : Int64) (gle : Int32) (gsu : Int32) (ms : (Nat → Int32)) (gma : (Nat → Int32)) (gpi : (Nat → Int32)) (gst : (Nat → Int32)) (ghe : (Nat → Int32)) (gow : (Nat → Int32)) (gfa : (Nat → Int32)) (gqu : (Nat → Int32)) (glo : (Nat → Int32)) (ghi : (Nat → Int32)) : Option (Int32 × Int64 × Int32 × Int32 × (Nat → Int32) × (Nat → Int32) × (Nat → Int32) × (Nat → Int32) × (Nat → Int32) × (Nat → Int32) × (Nat → Int32) × (Nat → Int32) × (Nat → Int32)) := if (M_isIn v1 (0:Int32) (2:Int32)) = (0:Int32) then (some ((-1:Int32), mrg, gle, gsu, gma, gpi, gst, ghe, gow, gfa, gqu, glo, ghi)) else (Option.bind (wh (M_after_s19 ms) FU ((0:Int32), mrg)) (fun w2 => if v1 = (0:Int32) then (Option.bind (M_cells w2) (fun q11 => M_after_j104 mrg q11 gle gsu gma gpi gst ghe gow gfa gqu glo ghi)) else (if v1 = (1:Int32) then (Option.bind (M_isSimple w2 gma gpi) (fun q8 => M_after_j104 mrg (if q8.1 = (0:Int32) then (0:Int32) else (1:Int32)) gle gsu q8.2.1 q8.2.2 gst ghe gow gfa gqu glo ghi)) else (Option.bind (M_isTilable w2 gle gsu gma gpi gst ghe gow gfa gqu glo ghi) (fun q5 => M_after_j104 mrg (if q5.1 = (0:Int32) then (0:Int32) else (1:Int32)) q5.2.1 q5.2.2.1 q5.2.2.2.1 q5.2.2.2.2.1 q5.2.2.2.2.2.1 q5.2.2.2.2.2.2.1 q5.2.2.2.2.2.2.2.1 q5.2.2.2.2.2.2.2.2.1 q5.2.2.2.2.2.2.2.2.2.1 q5.2.2.2.2.2.2.2.2.2.2.1 q5.2.2.2.2.2.2.2.2.2.2.2)))))
set_option maxRecDepth 10000 in
theorem M_after_l19 {v1 : Int32} {v2 : Int64}   (hE : cl = sxE sc (d + 6)) (hm : CallMono cl) : ∀ (n : Nat) (s : (Int32 × Int64)) (r : Int64), wh (M_after_s19 mk.2.2.1) n s = some r → (∀ (z4 : Option Value), sxWP sc cl Q 228 (66, [some (.ref 59), some (.int v1), some (.long v2), none, z4], [], (cW nw kp im ol sn sr tp (mW (r, mk.2.1, mk.2.2.1, mk.2.2.2.1, mk.2.2.2.2.1, mk.2.2.2.2.2.1, mk.2.2.2.2.2.2.1, mk.2.2.2.2.2.2.2.1, mk.2.2.2.2.2.2.2.2.1, mk.2.2.2.2.2.2.2.2.2) mg mt mc T)), 0, 0)) → sxWP sc cl Q 228 (19, [some (.ref 59), some (.int v1), some (.long v2), none, some (.int s.1)], [], (cW nw kp im ol sn sr tp (mW (s.2, mk.2.1, mk.2.2.1, mk.2.2.2.1, mk.2.2.2.2.1, mk.2.2.2.2.2.1, mk.2.2.2.2.2.2.1, mk.2.2.2.2.2.2.2.1, mk.2.2.2.2.2.2.2.2.1, mk.2.2.2.2.2.2.2.2.2) mg mt mc T)), 0, 0) := by
  refine wh_run (A := fun (s : (Int32 × Int64)) => sxWP sc cl Q 228 (19, [some (.ref 59), some (.int v1), some (.long v2), none, some (.int s.1)], [], (cW nw kp im ol sn sr tp (mW (s.2, mk.2.1, mk.2.2.1, mk.2.2.2.1, mk.2.2.2.2.1, mk.2.2.2.2.2.1, mk.2.2.2.2.2.2.1, mk.2.2.2.2.2.2.2.1, mk.2.2.2.2.2.2.2.2.1, mk.2.2.2.2.2.2.2.2.2) mg mt mc T)), 0, 0)) (B := fun (r : Int64) => ∀ (z4 : Option Value), sxWP sc cl Q 228 (66, [some (.ref 59), some (.int v1), some (.long v2), none, z4], [], (cW nw kp im ol sn sr tp (mW (r, mk.2.1, mk.2.2.1, mk.2.2.2.1, mk.2.2.2.2.1, mk.2.2.2.2.2.1, mk.2.2.2.2.2.2.1, mk.2.2.2.2.2.2.2.1, mk.2.2.2.2.2.2.2.2.1, mk.2.2.2.2.2.2.2.2.2) mg mt mc T)), 0, 0)) (fun s x hf hA hB => ?_)
  unfold M_after_s19 at hf
  obtain ⟨g1, hf⟩ := grd_e hf
  refine stp hm 5 (And.intro (gi_in g1) (?_ : sxWP sc cl Q 228 (27, [some (.ref 59), some (.int v1), some (.long v2), none, some (.int s.1)], [.int (mk.2.2.1 (4:Int32).toNatClampNeg), .int s.1], (cW nw kp im ol sn sr tp (mW (s.2, mk.2.1, mk.2.2.1, mk.2.2.2.1, mk.2.2.2.2.1, mk.2.2.2.2.2.1, mk.2.2.2.2.2.2.1, mk.2.2.2.2.2.2.2.1, mk.2.2.2.2.2.2.2.2.1, mk.2.2.2.2.2.2.2.2.2) mg mt mc T)), 0, 0)))
  refine stp hm 1 (br hf (fun c2 hf => ?_) (fun c2 hf => ?_))
  · show sxWP sc cl Q 228 (66, [some (.ref 59), some (.int v1), some (.long v2), none, some (.int s.1)], [], (cW nw kp im ol sn sr tp (mW (s.2, mk.2.1, mk.2.2.1, mk.2.2.2.1, mk.2.2.2.2.1, mk.2.2.2.2.2.1, mk.2.2.2.2.2.2.1, mk.2.2.2.2.2.2.2.1, mk.2.2.2.2.2.2.2.2.1, mk.2.2.2.2.2.2.2.2.2) mg mt mc T)), 0, 0)
    obtain rfl := Option.some.inj hf
    exact hB _ rfl _
  · show sxWP sc cl Q 228 (30, [some (.ref 59), some (.int v1), some (.long v2), none, some (.int s.1)], [], (cW nw kp im ol sn sr tp (mW (s.2, mk.2.1, mk.2.2.1, mk.2.2.2.1, mk.2.2.2.2.1, mk.2.2.2.2.2.1, mk.2.2.2.2.2.2.1, mk.2.2.2.2.2.2.2.1, mk.2.2.2.2.2.2.2.2.1, mk.2.2.2.2.2.2.2.2.2) mg mt mc T)), 0, 0)
    obtain ⟨g3, hf⟩ := grd_e hf
    refine stp hm 9 (And.intro (gi_in g3) (?_ : sxWP sc cl Q 228 (43, [some (.ref 59), some (.int v1), some (.long v2), none, some (.int s.1)], [.int (mk.2.2.1 ((90:Int32) + ((2:Int32) * s.1)).toNatClampNeg), .ref 59], (cW nw kp im ol sn sr tp (mW (s.2, mk.2.1, mk.2.2.1, mk.2.2.2.1, mk.2.2.2.2.1, mk.2.2.2.2.2.1, mk.2.2.2.2.2.2.1, mk.2.2.2.2.2.2.2.1, mk.2.2.2.2.2.2.2.2.1, mk.2.2.2.2.2.2.2.2.2) mg mt mc T)), 0, 0)))
    obtain ⟨g4, hf⟩ := grd_e hf
    refine stp hm 10 (And.intro (gi_in g4) (?_ : sxWP sc cl Q 228 (57, [some (.ref 59), some (.int v1), some (.long v2), none, some (.int s.1)], [.int (mk.2.2.1 (((90:Int32) + ((2:Int32) * s.1)) + (1:Int32)).toNatClampNeg), .int (mk.2.2.1 ((90:Int32) + ((2:Int32) * s.1)).toNatClampNeg), .ref 59], (cW nw kp im ol sn sr tp (mW (s.2, mk.2.1, mk.2.2.1, mk.2.2.2.1, mk.2.2.2.2.1, mk.2.2.2.2.2.1, mk.2.2.2.2.2.2.1, mk.2.2.2.2.2.2.2.1, mk.2.2.2.2.2.2.2.2.1, mk.2.2.2.2.2.2.2.2.2) mg mt mc T)), 0, 0)))
    obtain ⟨q5, hq5, hf⟩ := bnd hf
    refine stp hm 1 (M_happens_ok hE hq5 ?_)
    show sxWP sc cl Q 228 (60, [some (.ref 59), some (.int v1), some (.long v2), none, some (.int s.1)], [], (cW nw kp im ol sn sr tp (mW (q5, mk.2.1, mk.2.2.1, mk.2.2.2.1, mk.2.2.2.2.1, mk.2.2.2.2.2.1, mk.2.2.2.2.2.2.1, mk.2.2.2.2.2.2.2.1, mk.2.2.2.2.2.2.2.2.1, mk.2.2.2.2.2.2.2.2.2) mg mt mc T)), 0, 0)
    obtain rfl := Option.some.inj hf
    refine stp hm 2 (?_ : sxWP sc cl Q 228 (19, [some (.ref 59), some (.int v1), some (.long v2), none, some (.int (s.1 + (1:Int32)))], [], (cW nw kp im ol sn sr tp (mW (q5, mk.2.1, mk.2.2.1, mk.2.2.2.1, mk.2.2.2.2.1, mk.2.2.2.2.2.1, mk.2.2.2.2.2.2.1, mk.2.2.2.2.2.2.2.1, mk.2.2.2.2.2.2.2.2.1, mk.2.2.2.2.2.2.2.2.2) mg mt mc T)), 0, 0))
    exact hA _ rfl
set_option maxRecDepth 10000 in
theorem M_after_ok {v1 : Int32} {q : (Int32 × Int64 × Int32 × Int32 × (Nat → Int32) × (Nat → Int32) × (Nat → Int32) × (Nat → Int32) × (Nat → Int32) × (Nat → Int32) × (Nat → Int32) × (Nat → Int32) × (Nat → Int32))} (hc : call = sxE sc (d + 7)) (hf : M_after v1 mk.1 mg.2.2.1 mg.2.2.2.1 mk.2.2.1 mg.1 mg.2.1 mg.2.2.2.2.1 mg.2.2.2.2.2.1 mg.2.2.2.2.2.2.1 mg.2.2.2.2.2.2.2.1 mg.2.2.2.2.2.2.2.2.1 mg.2.2.2.2.2.2.2.2.2.1 mg.2.2.2.2.2.2.2.2.2.2.1 = some q) (h : Q (some (.int q.1)) (cW nw kp im ol sn sr tp (mW (q.2.1, mk.2.1, mk.2.2.1, mk.2.2.2.1, mk.2.2.2.2.1, mk.2.2.2.2.2.1, mk.2.2.2.2.2.2.1, mk.2.2.2.2.2.2.2.1, mk.2.2.2.2.2.2.2.2.1, mk.2.2.2.2.2.2.2.2.2) (q.2.2.2.2.1, q.2.2.2.2.2.1, q.2.2.1, q.2.2.2.1, q.2.2.2.2.2.2.1, q.2.2.2.2.2.2.2.1, q.2.2.2.2.2.2.2.2.1, q.2.2.2.2.2.2.2.2.2.1, q.2.2.2.2.2.2.2.2.2.2.1, q.2.2.2.2.2.2.2.2.2.2.2.1, q.2.2.2.2.2.2.2.2.2.2.2.2, mg.2.2.2.2.2.2.2.2.2.2.2.1, mg.2.2.2.2.2.2.2.2.2.2.2.2) mt mc T))) : call 228 [.ref 59, .int v1] (cW nw kp im ol sn sr tp (mW mk mg mt mc T)) Q := by
  refine ent hc rfl (fun cl hE hm => ?_)
  have J104 : ∀ (v2 : Int64) (k0 : Int32) (mrg_j : Int64) (gle_j : Int32) (gsu_j : Int32) (gma_j : (Nat → Int32)) (gpi_j : (Nat → Int32)) (gst_j : (Nat → Int32)) (ghe_j : (Nat → Int32)) (gow_j : (Nat → Int32)) (gfa_j : (Nat → Int32)) (gqu_j : (Nat → Int32)) (glo_j : (Nat → Int32)) (ghi_j : (Nat → Int32)) (z1 : Option Value) (z4 : Option Value), M_after_j104 v2 k0 gle_j gsu_j gma_j gpi_j gst_j ghe_j gow_j gfa_j gqu_j glo_j ghi_j = some q → sxWP sc cl Q 228 (104, [some (.ref 59), z1, some (.long v2), none, z4], [.int k0], (cW nw kp im ol sn sr tp (mW (mrg_j, mk.2.1, mk.2.2.1, mk.2.2.2.1, mk.2.2.2.2.1, mk.2.2.2.2.2.1, mk.2.2.2.2.2.2.1, mk.2.2.2.2.2.2.2.1, mk.2.2.2.2.2.2.2.2.1, mk.2.2.2.2.2.2.2.2.2) (gma_j, gpi_j, gle_j, gsu_j, gst_j, ghe_j, gow_j, gfa_j, gqu_j, glo_j, ghi_j, mg.2.2.2.2.2.2.2.2.2.2.2.1, mg.2.2.2.2.2.2.2.2.2.2.2.2) mt mc T)), 0, 0) := by
    intro v2 k0 mrg_j gle_j gsu_j gma_j gpi_j gst_j ghe_j gow_j gfa_j gqu_j glo_j ghi_j z1 z4 hf
    unfold M_after_j104 at hf
    obtain rfl := Option.some.inj hf
    refine stp hm 6 ?_
    exact h
  unfold M_after at hf
  refine stp hm 4 (M_isIn_ok hE rfl ?_)
  show sxWP sc cl Q 228 (6, [some (.ref 59), some (.int v1), none, none, none], [.int (M_isIn v1 (0:Int32) (2:Int32))], (cW nw kp im ol sn sr tp (mW mk mg mt mc T)), 0, 0)
  refine stp hm 1 (brn hf (fun c1 hf => ?_) (fun c1 hf => ?_))
  · show sxWP sc cl Q 228 (11, [some (.ref 59), some (.int v1), none, none, none], [], (cW nw kp im ol sn sr tp (mW mk mg mt mc T)), 0, 0)
    obtain ⟨w2, hw2, hf⟩ := bnd hf
    refine stp hm 5 (?_ : sxWP sc cl Q 228 (19, [some (.ref 59), some (.int v1), some (.long mk.1), none, some (.int (0:Int32))], [], (cW nw kp im ol sn sr tp (mW mk mg mt mc T)), 0, 0))
    refine M_after_l19 hE hm _ _ _ hw2 ?_
    intro w2_z4
    show sxWP sc cl Q 228 (66, [some (.ref 59), some (.int v1), some (.long mk.1), none, w2_z4], [], (cW nw kp im ol sn sr tp (mW (w2, mk.2.1, mk.2.2.1, mk.2.2.2.1, mk.2.2.2.2.1, mk.2.2.2.2.2.1, mk.2.2.2.2.2.2.1, mk.2.2.2.2.2.2.2.1, mk.2.2.2.2.2.2.2.2.1, mk.2.2.2.2.2.2.2.2.2) mg mt mc T)), 0, 0)
    refine stp hm 2 (brn hf (fun c3 hf => ?_) (fun c3 hf => ?_))
    · show sxWP sc cl Q 228 (77, [some (.ref 59), some (.int v1), some (.long mk.1), none, w2_z4], [], (cW nw kp im ol sn sr tp (mW (w2, mk.2.1, mk.2.2.1, mk.2.2.2.1, mk.2.2.2.2.1, mk.2.2.2.2.2.1, mk.2.2.2.2.2.2.1, mk.2.2.2.2.2.2.2.1, mk.2.2.2.2.2.2.2.2.1, mk.2.2.2.2.2.2.2.2.2) mg mt mc T)), 0, 0)
      refine stp hm 3 (brn hf (fun c4 hf => ?_) (fun c4 hf => ?_))
      · show sxWP sc cl Q 228 (92, [some (.ref 59), some (.int v1), some (.long mk.1), none, w2_z4], [], (cW nw kp im ol sn sr tp (mW (w2, mk.2.1, mk.2.2.1, mk.2.2.2.1, mk.2.2.2.2.1, mk.2.2.2.2.2.1, mk.2.2.2.2.2.2.1, mk.2.2.2.2.2.2.2.1, mk.2.2.2.2.2.2.2.2.1, mk.2.2.2.2.2.2.2.2.2) mg mt mc T)), 0, 0)
        obtain ⟨q5, hq5, hf⟩ := bnd hf
        refine stp hm 2 (M_isTilable_ok hE hq5 ?_)
        show sxWP sc cl Q 228 (96, [some (.ref 59), some (.int v1), some (.long mk.1), none, w2_z4], [.int q5.1], (cW nw kp im ol sn sr tp (mW (w2, mk.2.1, mk.2.2.1, mk.2.2.2.1, mk.2.2.2.2.1, mk.2.2.2.2.2.1, mk.2.2.2.2.2.2.1, mk.2.2.2.2.2.2.2.1, mk.2.2.2.2.2.2.2.2.1, mk.2.2.2.2.2.2.2.2.2) (q5.2.2.2.1, q5.2.2.2.2.1, q5.2.1, q5.2.2.1, q5.2.2.2.2.2.1, q5.2.2.2.2.2.2.1, q5.2.2.2.2.2.2.2.1, q5.2.2.2.2.2.2.2.2.1, q5.2.2.2.2.2.2.2.2.2.1, q5.2.2.2.2.2.2.2.2.2.2.1, q5.2.2.2.2.2.2.2.2.2.2.2, mg.2.2.2.2.2.2.2.2.2.2.2.1, mg.2.2.2.2.2.2.2.2.2.2.2.2) mt mc T)), 0, 0)
        have m6 : ∀ (m6_0 : Int32), m6_0 = (if q5.1 = (0:Int32) then (0:Int32) else (1:Int32)) → sxWP sc cl Q 228 (104, [some (.ref 59), some (.int v1), some (.long mk.1), none, w2_z4], [.int m6_0], (cW nw kp im ol sn sr tp (mW (w2, mk.2.1, mk.2.2.1, mk.2.2.2.1, mk.2.2.2.2.1, mk.2.2.2.2.2.1, mk.2.2.2.2.2.2.1, mk.2.2.2.2.2.2.2.1, mk.2.2.2.2.2.2.2.2.1, mk.2.2.2.2.2.2.2.2.2) (q5.2.2.2.1, q5.2.2.2.2.1, q5.2.1, q5.2.2.1, q5.2.2.2.2.2.1, q5.2.2.2.2.2.2.1, q5.2.2.2.2.2.2.2.1, q5.2.2.2.2.2.2.2.2.1, q5.2.2.2.2.2.2.2.2.2.1, q5.2.2.2.2.2.2.2.2.2.2.1, q5.2.2.2.2.2.2.2.2.2.2.2, mg.2.2.2.2.2.2.2.2.2.2.2.1, mg.2.2.2.2.2.2.2.2.2.2.2.2) mt mc T)), 0, 0) := by
          intro m6_0 em6_0
          subst em6_0
          exact J104 _ _ _ _ _ _ _ _ _ _ _ _ _ _ _ _ hf
        refine stp hm 1 (bs (c := q5.1 = (0:Int32)) (fun c7 => ?_) (fun c7 => ?_))
        · have c7 : q5.1 = (0:Int32) := c7
          refine stp hm 1 (?_ : sxWP sc cl Q 228 (104, [some (.ref 59), some (.int v1), some (.long mk.1), none, w2_z4], [.int (0:Int32)], (cW nw kp im ol sn sr tp (mW (w2, mk.2.1, mk.2.2.1, mk.2.2.2.1, mk.2.2.2.2.1, mk.2.2.2.2.2.1, mk.2.2.2.2.2.2.1, mk.2.2.2.2.2.2.2.1, mk.2.2.2.2.2.2.2.2.1, mk.2.2.2.2.2.2.2.2.2) (q5.2.2.2.1, q5.2.2.2.2.1, q5.2.1, q5.2.2.1, q5.2.2.2.2.2.1, q5.2.2.2.2.2.2.1, q5.2.2.2.2.2.2.2.1, q5.2.2.2.2.2.2.2.2.1, q5.2.2.2.2.2.2.2.2.2.1, q5.2.2.2.2.2.2.2.2.2.2.1, q5.2.2.2.2.2.2.2.2.2.2.2, mg.2.2.2.2.2.2.2.2.2.2.2.1, mg.2.2.2.2.2.2.2.2.2.2.2.2) mt mc T)), 0, 0))
          exact m6 _ (by rw [if_pos c7])
        · have c7 : ¬ q5.1 = (0:Int32) := c7
          refine stp hm 2 (?_ : sxWP sc cl Q 228 (104, [some (.ref 59), some (.int v1), some (.long mk.1), none, w2_z4], [.int (1:Int32)], (cW nw kp im ol sn sr tp (mW (w2, mk.2.1, mk.2.2.1, mk.2.2.2.1, mk.2.2.2.2.1, mk.2.2.2.2.2.1, mk.2.2.2.2.2.2.1, mk.2.2.2.2.2.2.2.1, mk.2.2.2.2.2.2.2.2.1, mk.2.2.2.2.2.2.2.2.2) (q5.2.2.2.1, q5.2.2.2.2.1, q5.2.1, q5.2.2.1, q5.2.2.2.2.2.1, q5.2.2.2.2.2.2.1, q5.2.2.2.2.2.2.2.1, q5.2.2.2.2.2.2.2.2.1, q5.2.2.2.2.2.2.2.2.2.1, q5.2.2.2.2.2.2.2.2.2.2.1, q5.2.2.2.2.2.2.2.2.2.2.2, mg.2.2.2.2.2.2.2.2.2.2.2.1, mg.2.2.2.2.2.2.2.2.2.2.2.2) mt mc T)), 0, 0))
          exact m6 _ (by rw [if_neg c7])
      · show sxWP sc cl Q 228 (82, [some (.ref 59), some (.int v1), some (.long mk.1), none, w2_z4], [], (cW nw kp im ol sn sr tp (mW (w2, mk.2.1, mk.2.2.1, mk.2.2.2.1, mk.2.2.2.2.1, mk.2.2.2.2.2.1, mk.2.2.2.2.2.2.1, mk.2.2.2.2.2.2.2.1, mk.2.2.2.2.2.2.2.2.1, mk.2.2.2.2.2.2.2.2.2) mg mt mc T)), 0, 0)
        obtain ⟨q8, hq8, hf⟩ := bnd hf
        refine stp hm 2 (M_isSimple_ok hE hq8 ?_)
        show sxWP sc cl Q 228 (86, [some (.ref 59), some (.int v1), some (.long mk.1), none, w2_z4], [.int q8.1], (cW nw kp im ol sn sr tp (mW (w2, mk.2.1, mk.2.2.1, mk.2.2.2.1, mk.2.2.2.2.1, mk.2.2.2.2.2.1, mk.2.2.2.2.2.2.1, mk.2.2.2.2.2.2.2.1, mk.2.2.2.2.2.2.2.2.1, mk.2.2.2.2.2.2.2.2.2) (q8.2.1, q8.2.2, mg.2.2.1, mg.2.2.2.1, mg.2.2.2.2.1, mg.2.2.2.2.2.1, mg.2.2.2.2.2.2.1, mg.2.2.2.2.2.2.2.1, mg.2.2.2.2.2.2.2.2.1, mg.2.2.2.2.2.2.2.2.2.1, mg.2.2.2.2.2.2.2.2.2.2.1, mg.2.2.2.2.2.2.2.2.2.2.2.1, mg.2.2.2.2.2.2.2.2.2.2.2.2) mt mc T)), 0, 0)
        have m9 : ∀ (m9_0 : Int32), m9_0 = (if q8.1 = (0:Int32) then (0:Int32) else (1:Int32)) → sxWP sc cl Q 228 (104, [some (.ref 59), some (.int v1), some (.long mk.1), none, w2_z4], [.int m9_0], (cW nw kp im ol sn sr tp (mW (w2, mk.2.1, mk.2.2.1, mk.2.2.2.1, mk.2.2.2.2.1, mk.2.2.2.2.2.1, mk.2.2.2.2.2.2.1, mk.2.2.2.2.2.2.2.1, mk.2.2.2.2.2.2.2.2.1, mk.2.2.2.2.2.2.2.2.2) (q8.2.1, q8.2.2, mg.2.2.1, mg.2.2.2.1, mg.2.2.2.2.1, mg.2.2.2.2.2.1, mg.2.2.2.2.2.2.1, mg.2.2.2.2.2.2.2.1, mg.2.2.2.2.2.2.2.2.1, mg.2.2.2.2.2.2.2.2.2.1, mg.2.2.2.2.2.2.2.2.2.2.1, mg.2.2.2.2.2.2.2.2.2.2.2.1, mg.2.2.2.2.2.2.2.2.2.2.2.2) mt mc T)), 0, 0) := by
          intro m9_0 em9_0
          subst em9_0
          exact J104 _ _ _ _ _ _ _ _ _ _ _ _ _ _ _ _ hf
        refine stp hm 1 (bs (c := q8.1 = (0:Int32)) (fun c10 => ?_) (fun c10 => ?_))
        · have c10 : q8.1 = (0:Int32) := c10
          refine stp hm 1 (?_ : sxWP sc cl Q 228 (104, [some (.ref 59), some (.int v1), some (.long mk.1), none, w2_z4], [.int (0:Int32)], (cW nw kp im ol sn sr tp (mW (w2, mk.2.1, mk.2.2.1, mk.2.2.2.1, mk.2.2.2.2.1, mk.2.2.2.2.2.1, mk.2.2.2.2.2.2.1, mk.2.2.2.2.2.2.2.1, mk.2.2.2.2.2.2.2.2.1, mk.2.2.2.2.2.2.2.2.2) (q8.2.1, q8.2.2, mg.2.2.1, mg.2.2.2.1, mg.2.2.2.2.1, mg.2.2.2.2.2.1, mg.2.2.2.2.2.2.1, mg.2.2.2.2.2.2.2.1, mg.2.2.2.2.2.2.2.2.1, mg.2.2.2.2.2.2.2.2.2.1, mg.2.2.2.2.2.2.2.2.2.2.1, mg.2.2.2.2.2.2.2.2.2.2.2.1, mg.2.2.2.2.2.2.2.2.2.2.2.2) mt mc T)), 0, 0))
          exact m9 _ (by rw [if_pos c10])
        · have c10 : ¬ q8.1 = (0:Int32) := c10
          refine stp hm 3 (?_ : sxWP sc cl Q 228 (104, [some (.ref 59), some (.int v1), some (.long mk.1), none, w2_z4], [.int (1:Int32)], (cW nw kp im ol sn sr tp (mW (w2, mk.2.1, mk.2.2.1, mk.2.2.2.1, mk.2.2.2.2.1, mk.2.2.2.2.2.1, mk.2.2.2.2.2.2.1, mk.2.2.2.2.2.2.2.1, mk.2.2.2.2.2.2.2.2.1, mk.2.2.2.2.2.2.2.2.2) (q8.2.1, q8.2.2, mg.2.2.1, mg.2.2.2.1, mg.2.2.2.2.1, mg.2.2.2.2.2.1, mg.2.2.2.2.2.2.1, mg.2.2.2.2.2.2.2.1, mg.2.2.2.2.2.2.2.2.1, mg.2.2.2.2.2.2.2.2.2.1, mg.2.2.2.2.2.2.2.2.2.2.1, mg.2.2.2.2.2.2.2.2.2.2.2.1, mg.2.2.2.2.2.2.2.2.2.2.2.2) mt mc T)), 0, 0))
          exact m9 _ (by rw [if_neg c10])
    · show sxWP sc cl Q 228 (70, [some (.ref 59), some (.int v1), some (.long mk.1), none, w2_z4], [], (cW nw kp im ol sn sr tp (mW (w2, mk.2.1, mk.2.2.1, mk.2.2.2.1, mk.2.2.2.2.1, mk.2.2.2.2.2.1, mk.2.2.2.2.2.2.1, mk.2.2.2.2.2.2.2.1, mk.2.2.2.2.2.2.2.2.1, mk.2.2.2.2.2.2.2.2.2) mg mt mc T)), 0, 0)
      obtain ⟨q11, hq11, hf⟩ := bnd hf
      refine stp hm 2 (M_cells_ok hE hq11 ?_)
      show sxWP sc cl Q 228 (74, [some (.ref 59), some (.int v1), some (.long mk.1), none, w2_z4], [.int q11], (cW nw kp im ol sn sr tp (mW (w2, mk.2.1, mk.2.2.1, mk.2.2.2.1, mk.2.2.2.2.1, mk.2.2.2.2.2.1, mk.2.2.2.2.2.2.1, mk.2.2.2.2.2.2.2.1, mk.2.2.2.2.2.2.2.2.1, mk.2.2.2.2.2.2.2.2.2) mg mt mc T)), 0, 0)
      refine stp hm 1 (?_ : sxWP sc cl Q 228 (104, [some (.ref 59), some (.int v1), some (.long mk.1), none, w2_z4], [.int q11], (cW nw kp im ol sn sr tp (mW (w2, mk.2.1, mk.2.2.1, mk.2.2.2.1, mk.2.2.2.2.1, mk.2.2.2.2.2.1, mk.2.2.2.2.2.2.1, mk.2.2.2.2.2.2.2.1, mk.2.2.2.2.2.2.2.2.1, mk.2.2.2.2.2.2.2.2.2) mg mt mc T)), 0, 0))
      exact J104 _ _ _ _ _ _ _ _ _ _ _ _ _ _ _ _ hf
  · show sxWP sc cl Q 228 (9, [some (.ref 59), some (.int v1), none, none, none], [], (cW nw kp im ol sn sr tp (mW mk mg mt mc T)), 0, 0)
    obtain rfl := Option.some.inj hf
    refine stp hm 2 ?_
    exact h

set_option maxRecDepth 10000 in
theorem R_emptied_3_ok  {q : (Int32 × Int32)} (hc : call = sxE sc (d + 1)) (hf : R_emptied = some q) (h : Q (some (.int q.1)) (cW (nw.1, nw.2.1, nw.2.2.1, nw.2.2.2.1, nw.2.2.2.2.1, nw.2.2.2.2.2.1, (q.2, nw.2.2.2.2.2.2.2.1, nw.2.2.2.2.2.2.2.2)) kp im ol sn sr tp (mW mk mg mt mc T))) : call 46 [.ref 12] (cW nw kp im ol sn sr tp (mW mk mg mt mc T)) Q := by
  refine ent hc rfl (fun cl hE hm => ?_)
  unfold R_emptied at hf
  obtain rfl := Option.some.inj hf
  refine stp hm 6 ?_
  exact h

set_option maxRecDepth 10000 in
theorem R_append_3_ok {v1 : Int32} {v2 : Int32} {q : (Int32 × Int32 × (Nat → Int32) × (Nat → Int32))} (hc : call = sxE sc (d + 1)) (hf : R_append_2 v1 v2 nw.2.2.2.2.2.2.1 nw.2.2.2.2.2.2.2.1 nw.2.2.2.2.2.2.2.2 = some q) (h : Q (some (.int q.1)) (cW (nw.1, nw.2.1, nw.2.2.1, nw.2.2.2.1, nw.2.2.2.2.1, nw.2.2.2.2.2.1, (q.2.1, q.2.2.1, q.2.2.2)) kp im ol sn sr tp (mW mk mg mt mc T))) : call 47 [.ref 12, .int v1, .int v2] (cW nw kp im ol sn sr tp (mW mk mg mt mc T)) Q := by
  refine ent hc rfl (fun cl hE hm => ?_)
  have J31 : ∀ (ngs_j : Int32) (ngo_j : (Nat → Int32)) (ngq_j : (Nat → Int32)) (z0 : Option Value) (z1 : Option Value) (z2 : Option Value), R_append_2_j31 ngs_j ngo_j ngq_j = some q → sxWP sc cl Q 47 (31, [z0, z1, z2], [], (cW (nw.1, nw.2.1, nw.2.2.1, nw.2.2.2.1, nw.2.2.2.2.1, nw.2.2.2.2.2.1, (ngs_j, ngo_j, ngq_j)) kp im ol sn sr tp (mW mk mg mt mc T)), 0, 0) := by
    intro ngs_j ngo_j ngq_j z0 z1 z2 hf
    unfold R_append_2_j31 at hf
    obtain rfl := Option.some.inj hf
    refine stp hm 2 (And.intro (Or.inl rfl) ?_)
    exact h
  unfold R_append_2 at hf
  refine stp hm 3 (br hf (fun c1 hf => ?_) (fun c1 hf => ?_))
  · show sxWP sc cl Q 47 (31, [some (.ref 12), some (.int v1), some (.int v2)], [], (cW nw kp im ol sn sr tp (mW mk mg mt mc T)), 0, 0)
    exact J31 _ _ _ _ _ _ hf
  · show sxWP sc cl Q 47 (7, [some (.ref 12), some (.int v1), some (.int v2)], [], (cW nw kp im ol sn sr tp (mW mk mg mt mc T)), 0, 0)
    refine stp hm 6 (br hf (fun c2 hf => ?_) (fun c2 hf => ?_))
    · show sxWP sc cl Q 47 (31, [some (.ref 12), some (.int v1), some (.int v2)], [], (cW nw kp im ol sn sr tp (mW mk mg mt mc T)), 0, 0)
      exact J31 _ _ _ _ _ _ hf
    · show sxWP sc cl Q 47 (19, [some (.ref 12), some (.int v1), some (.int v2)], [], (cW nw kp im ol sn sr tp (mW mk mg mt mc T)), 0, 0)
      refine stp hm 6 (br hf (fun c3 hf => ?_) (fun c3 hf => ?_))
      · show sxWP sc cl Q 47 (33, [some (.ref 12), some (.int v1), some (.int v2)], [], (cW nw kp im ol sn sr tp (mW mk mg mt mc T)), 0, 0)
        obtain ⟨g4, hf⟩ := grd_e hf
        refine stp hm 6 (And.intro (gi_in g4) (?_ : sxWP sc cl Q 47 (43, [some (.ref 12), some (.int v1), some (.int v2)], [], (cW (nw.1, nw.2.1, nw.2.2.1, nw.2.2.2.1, nw.2.2.2.2.1, nw.2.2.2.2.2.1, (nw.2.2.2.2.2.2.1, upd nw.2.2.2.2.2.2.2.1 nw.2.2.2.2.2.2.1.toNatClampNeg v1, nw.2.2.2.2.2.2.2.2)) kp im ol sn sr tp (mW mk mg mt mc T)), 0, 0)))
        obtain ⟨g5, hf⟩ := grd_e hf
        refine stp hm 6 (And.intro (gi_in g5) (?_ : sxWP sc cl Q 47 (53, [some (.ref 12), some (.int v1), some (.int v2)], [], (cW (nw.1, nw.2.1, nw.2.2.1, nw.2.2.2.1, nw.2.2.2.2.1, nw.2.2.2.2.2.1, (nw.2.2.2.2.2.2.1, upd nw.2.2.2.2.2.2.2.1 nw.2.2.2.2.2.2.1.toNatClampNeg v1, upd nw.2.2.2.2.2.2.2.2 nw.2.2.2.2.2.2.1.toNatClampNeg v2)) kp im ol sn sr tp (mW mk mg mt mc T)), 0, 0)))
        obtain rfl := Option.some.inj hf
        refine stp hm 8 (And.intro (Or.inr rfl) ?_)
        exact h
      · show sxWP sc cl Q 47 (31, [some (.ref 12), some (.int v1), some (.int v2)], [], (cW nw kp im ol sn sr tp (mW mk mg mt mc T)), 0, 0)
        exact J31 _ _ _ _ _ _ hf

def X_book (v1 : Int32) (v2 : Int32) (ngs : Int32) (ngo : (Nat → Int32)) (ngq : (Nat → Int32)) : Option (Int32 × Int32 × (Nat → Int32) × (Nat → Int32)) := if v1 = (-1:Int32) then (Option.bind (R_emptied) (fun q7 => some (q7.1, q7.2, ngo, ngq))) else (if (G_isCell v1) = (0:Int32) then (some ((-1:Int32), ngs, ngo, ngq)) else (if (X_isBit v2) = (0:Int32) then (some ((-2:Int32), ngs, ngo, ngq)) else (Option.bind (R_append_2 v1 v2 ngs ngo ngq) (fun q4 => some (if q4.1 = (0:Int32) then (-4:Int32) else q4.2.1, q4.2.1, q4.2.2.1, q4.2.2.2)))))
set_option maxRecDepth 10000 in
theorem X_book_ok {v1 : Int32} {v2 : Int32} {q : (Int32 × Int32 × (Nat → Int32) × (Nat → Int32))} (hc : call = sxE sc (d + 2)) (hf : X_book v1 v2 nw.2.2.2.2.2.2.1 nw.2.2.2.2.2.2.2.1 nw.2.2.2.2.2.2.2.2 = some q) (h : Q (some (.int q.1)) (cW (nw.1, nw.2.1, nw.2.2.1, nw.2.2.2.1, nw.2.2.2.2.1, nw.2.2.2.2.2.1, (q.2.1, q.2.2.1, q.2.2.2)) kp im ol sn sr tp (mW mk mg mt mc T))) : call 125 [.ref 0, .int v1, .int v2] (cW nw kp im ol sn sr tp (mW mk mg mt mc T)) Q := by
  refine ent hc rfl (fun cl hE hm => ?_)
  unfold X_book at hf
  refine stp hm 3 (brn hf (fun c1 hf => ?_) (fun c1 hf => ?_))
  · show sxWP sc cl Q 125 (16, [some (.ref 0), some (.int v1), some (.int v2)], [], (cW nw kp im ol sn sr tp (mW mk mg mt mc T)), 0, 0)
    refine stp hm 2 (G_isCell_ok hE rfl ?_)
    show sxWP sc cl Q 125 (20, [some (.ref 0), some (.int v1), some (.int v2)], [.int (G_isCell v1)], (cW nw kp im ol sn sr tp (mW mk mg mt mc T)), 0, 0)
    refine stp hm 1 (brn hf (fun c2 hf => ?_) (fun c2 hf => ?_))
    · show sxWP sc cl Q 125 (25, [some (.ref 0), some (.int v1), some (.int v2)], [], (cW nw kp im ol sn sr tp (mW mk mg mt mc T)), 0, 0)
      refine stp hm 2 (X_isBit_ok hE rfl ?_)
      show sxWP sc cl Q 125 (29, [some (.ref 0), some (.int v1), some (.int v2)], [.int (X_isBit v2)], (cW nw kp im ol sn sr tp (mW mk mg mt mc T)), 0, 0)
      refine stp hm 1 (brn hf (fun c3 hf => ?_) (fun c3 hf => ?_))
      · show sxWP sc cl Q 125 (35, [some (.ref 0), some (.int v1), some (.int v2)], [], (cW nw kp im ol sn sr tp (mW mk mg mt mc T)), 0, 0)
        obtain ⟨q4, hq4, hf⟩ := bnd hf
        refine stp hm 6 (R_append_3_ok hE hq4 ?_)
        show sxWP sc cl Q 125 (47, [some (.ref 0), some (.int v1), some (.int v2)], [.int q4.1], (cW (nw.1, nw.2.1, nw.2.2.1, nw.2.2.2.1, nw.2.2.2.2.1, nw.2.2.2.2.2.1, (q4.2.1, q4.2.2.1, q4.2.2.2)) kp im ol sn sr tp (mW mk mg mt mc T)), 0, 0)
        have m5 : ∀ (m5_0 : Int32), m5_0 = (if q4.1 = (0:Int32) then (-4:Int32) else q4.2.1) → sxWP sc cl Q 125 (65, [some (.ref 0), some (.int v1), some (.int v2)], [.int m5_0], (cW (nw.1, nw.2.1, nw.2.2.1, nw.2.2.2.1, nw.2.2.2.2.1, nw.2.2.2.2.2.1, (q4.2.1, q4.2.2.1, q4.2.2.2)) kp im ol sn sr tp (mW mk mg mt mc T)), 0, 0) := by
          intro m5_0 em5_0
          subst em5_0
          obtain rfl := Option.some.inj hf
          refine stp hm 1 ?_
          exact h
        refine stp hm 1 (bs (c := q4.1 = (0:Int32)) (fun c6 => ?_) (fun c6 => ?_))
        · have c6 : q4.1 = (0:Int32) := c6
          refine stp hm 1 (?_ : sxWP sc cl Q 125 (65, [some (.ref 0), some (.int v1), some (.int v2)], [.int (-4:Int32)], (cW (nw.1, nw.2.1, nw.2.2.1, nw.2.2.2.1, nw.2.2.2.2.1, nw.2.2.2.2.2.1, (q4.2.1, q4.2.2.1, q4.2.2.2)) kp im ol sn sr tp (mW mk mg mt mc T)), 0, 0))
          exact m5 _ (by rw [if_pos c6])
        · have c6 : ¬ q4.1 = (0:Int32) := c6
          refine stp hm 5 (?_ : sxWP sc cl Q 125 (65, [some (.ref 0), some (.int v1), some (.int v2)], [.int q4.2.1], (cW (nw.1, nw.2.1, nw.2.2.1, nw.2.2.2.1, nw.2.2.2.2.1, nw.2.2.2.2.2.1, (q4.2.1, q4.2.2.1, q4.2.2.2)) kp im ol sn sr tp (mW mk mg mt mc T)), 0, 0))
          exact m5 _ (by rw [if_neg c6])
      · show sxWP sc cl Q 125 (32, [some (.ref 0), some (.int v1), some (.int v2)], [], (cW nw kp im ol sn sr tp (mW mk mg mt mc T)), 0, 0)
        obtain rfl := Option.some.inj hf
        refine stp hm 2 ?_
        exact h
    · show sxWP sc cl Q 125 (23, [some (.ref 0), some (.int v1), some (.int v2)], [], (cW nw kp im ol sn sr tp (mW mk mg mt mc T)), 0, 0)
      obtain rfl := Option.some.inj hf
      refine stp hm 2 ?_
      exact h
  · show sxWP sc cl Q 125 (5, [some (.ref 0), some (.int v1), some (.int v2)], [], (cW nw kp im ol sn sr tp (mW mk mg mt mc T)), 0, 0)
    obtain ⟨q7, hq7, hf⟩ := bnd hf
    refine stp hm 4 (R_emptied_3_ok hE hq7 ?_)
    show sxWP sc cl Q 125 (15, [some (.ref 0), some (.int v1), some (.int v2)], [.int q7.1], (cW (nw.1, nw.2.1, nw.2.2.1, nw.2.2.2.1, nw.2.2.2.2.1, nw.2.2.2.2.2.1, (q7.2, nw.2.2.2.2.2.2.2.1, nw.2.2.2.2.2.2.2.2)) kp im ol sn sr tp (mW mk mg mt mc T)), 0, 0)
    obtain rfl := Option.some.inj hf
    refine stp hm 1 ?_
    exact h

def M_book_j45  (k0 : Int32) (ms_j : (Nat → Int32)) : Option (Int32 × (Nat → Int32)) := some (k0, ms_j)
def M_book (v1 : Int32) (v2 : Int32) (ms : (Nat → Int32)) : Option (Int32 × (Nat → Int32)) := if v1 = (-1:Int32) then (Option.bind (M_none (5:Int32) ms) (fun q5 => some (q5.1, q5.2))) else (if (M_isCell v1) = (0:Int32) then (some ((-1:Int32), ms)) else (if (M_isIn v2 (0:Int32) (1:Int32)) = (0:Int32) then (M_book_j45 (-2:Int32) ms) else (Option.bind (M_lists (5:Int32) (106:Int32) (8:Int32) v1 v2 ms) (fun q4 => M_book_j45 q4.1 q4.2))))
set_option maxRecDepth 10000 in
theorem M_book_ok {v1 : Int32} {v2 : Int32} {q : (Int32 × (Nat → Int32))} (hc : call = sxE sc (d + 3)) (hf : M_book v1 v2 mk.2.2.1 = some q) (h : Q (some (.int q.1)) (cW nw kp im ol sn sr tp (mW (mk.1, mk.2.1, q.2, mk.2.2.2.1, mk.2.2.2.2.1, mk.2.2.2.2.2.1, mk.2.2.2.2.2.2.1, mk.2.2.2.2.2.2.2.1, mk.2.2.2.2.2.2.2.2.1, mk.2.2.2.2.2.2.2.2.2) mg mt mc T))) : call 229 [.ref 59, .int v1, .int v2] (cW nw kp im ol sn sr tp (mW mk mg mt mc T)) Q := by
  refine ent hc rfl (fun cl hE hm => ?_)
  have J45 : ∀ (k0 : Int32) (ms_j : (Nat → Int32)) (z0 : Option Value) (z1 : Option Value) (z2 : Option Value), M_book_j45 k0 ms_j = some q → sxWP sc cl Q 229 (45, [z0, z1, z2], [.int k0], (cW nw kp im ol sn sr tp (mW (mk.1, mk.2.1, ms_j, mk.2.2.2.1, mk.2.2.2.2.1, mk.2.2.2.2.2.1, mk.2.2.2.2.2.2.1, mk.2.2.2.2.2.2.2.1, mk.2.2.2.2.2.2.2.2.1, mk.2.2.2.2.2.2.2.2.2) mg mt mc T)), 0, 0) := by
    intro k0 ms_j z0 z1 z2 hf
    unfold M_book_j45 at hf
    obtain rfl := Option.some.inj hf
    refine stp hm 1 ?_
    exact h
  unfold M_book at hf
  refine stp hm 3 (brn hf (fun c1 hf => ?_) (fun c1 hf => ?_))
  · show sxWP sc cl Q 229 (11, [some (.ref 59), some (.int v1), some (.int v2)], [], (cW nw kp im ol sn sr tp (mW mk mg mt mc T)), 0, 0)
    refine stp hm 2 (M_isCell_ok hE rfl ?_)
    show sxWP sc cl Q 229 (15, [some (.ref 59), some (.int v1), some (.int v2)], [.int (M_isCell v1)], (cW nw kp im ol sn sr tp (mW mk mg mt mc T)), 0, 0)
    refine stp hm 1 (brn hf (fun c2 hf => ?_) (fun c2 hf => ?_))
    · show sxWP sc cl Q 229 (20, [some (.ref 59), some (.int v1), some (.int v2)], [], (cW nw kp im ol sn sr tp (mW mk mg mt mc T)), 0, 0)
      refine stp hm 4 (M_isIn_ok hE rfl ?_)
      show sxWP sc cl Q 229 (26, [some (.ref 59), some (.int v1), some (.int v2)], [.int (M_isIn v2 (0:Int32) (1:Int32))], (cW nw kp im ol sn sr tp (mW mk mg mt mc T)), 0, 0)
      refine stp hm 1 (br hf (fun c3 hf => ?_) (fun c3 hf => ?_))
      · show sxWP sc cl Q 229 (43, [some (.ref 59), some (.int v1), some (.int v2)], [], (cW nw kp im ol sn sr tp (mW mk mg mt mc T)), 0, 0)
        refine stp hm 1 (?_ : sxWP sc cl Q 229 (45, [some (.ref 59), some (.int v1), some (.int v2)], [.int (-2:Int32)], (cW nw kp im ol sn sr tp (mW mk mg mt mc T)), 0, 0))
        exact J45 _ _ _ _ _ hf
      · show sxWP sc cl Q 229 (29, [some (.ref 59), some (.int v1), some (.int v2)], [], (cW nw kp im ol sn sr tp (mW mk mg mt mc T)), 0, 0)
        obtain ⟨q4, hq4, hf⟩ := bnd hf
        refine stp hm 7 (M_lists_ok hE hq4 ?_)
        show sxWP sc cl Q 229 (40, [some (.ref 59), some (.int v1), some (.int v2)], [.int q4.1], (cW nw kp im ol sn sr tp (mW (mk.1, mk.2.1, q4.2, mk.2.2.2.1, mk.2.2.2.2.1, mk.2.2.2.2.2.1, mk.2.2.2.2.2.2.1, mk.2.2.2.2.2.2.2.1, mk.2.2.2.2.2.2.2.2.1, mk.2.2.2.2.2.2.2.2.2) mg mt mc T)), 0, 0)
        refine stp hm 1 (?_ : sxWP sc cl Q 229 (45, [some (.ref 59), some (.int v1), some (.int v2)], [.int q4.1], (cW nw kp im ol sn sr tp (mW (mk.1, mk.2.1, q4.2, mk.2.2.2.1, mk.2.2.2.2.1, mk.2.2.2.2.2.1, mk.2.2.2.2.2.2.1, mk.2.2.2.2.2.2.2.1, mk.2.2.2.2.2.2.2.2.1, mk.2.2.2.2.2.2.2.2.2) mg mt mc T)), 0, 0))
        exact J45 _ _ _ _ _ hf
    · show sxWP sc cl Q 229 (18, [some (.ref 59), some (.int v1), some (.int v2)], [], (cW nw kp im ol sn sr tp (mW mk mg mt mc T)), 0, 0)
      obtain rfl := Option.some.inj hf
      refine stp hm 2 ?_
      exact h
  · show sxWP sc cl Q 229 (5, [some (.ref 59), some (.int v1), some (.int v2)], [], (cW nw kp im ol sn sr tp (mW mk mg mt mc T)), 0, 0)
    obtain ⟨q5, hq5, hf⟩ := bnd hf
    refine stp hm 3 (M_none_ok hE hq5 ?_)
    show sxWP sc cl Q 229 (10, [some (.ref 59), some (.int v1), some (.int v2)], [.int q5.1], (cW nw kp im ol sn sr tp (mW (mk.1, mk.2.1, q5.2, mk.2.2.2.1, mk.2.2.2.2.1, mk.2.2.2.2.2.1, mk.2.2.2.2.2.2.1, mk.2.2.2.2.2.2.2.1, mk.2.2.2.2.2.2.2.2.1, mk.2.2.2.2.2.2.2.2.2) mg mt mc T)), 0, 0)
    obtain rfl := Option.some.inj hf
    refine stp hm 1 ?_
    exact h

set_option maxRecDepth 10000 in
theorem R_one_3_ok {v1 : Int32} {q : Int32} (hc : call = sxE sc (d + 1)) (hf : R_one_2 v1 nw.2.2.2.2.2.2.2.1 = some q) (h : Q (some (.int q)) (cW nw kp im ol sn sr tp (mW mk mg mt mc T))) : call 48 [.ref 12, .int v1] (cW nw kp im ol sn sr tp (mW mk mg mt mc T)) Q := by
  refine ent hc rfl (fun cl hE hm => ?_)
  have J23 : ∀ (k0 : Int32) (z0 : Option Value) (z1 : Option Value), R_one_2_j23 k0 = some q → sxWP sc cl Q 48 (23, [z0, z1], [.int k0], (cW nw kp im ol sn sr tp (mW mk mg mt mc T)), 0, 0) := by
    intro k0 z0 z1 hf
    unfold R_one_2_j23 at hf
    obtain rfl := Option.some.inj hf
    refine stp hm 1 ?_
    exact h
  have J22 : ∀  (z0 : Option Value) (z1 : Option Value), R_one_2_j22 = some q → sxWP sc cl Q 48 (22, [z0, z1], [], (cW nw kp im ol sn sr tp (mW mk mg mt mc T)), 0, 0) := by
    intro z0 z1 hf
    unfold R_one_2_j22 at hf
    refine stp hm 1 (?_ : sxWP sc cl Q 48 (23, [z0, z1], [.int (0:Int32)], (cW nw kp im ol sn sr tp (mW mk mg mt mc T)), 0, 0))
    exact J23 _ _ _ hf
  unfold R_one_2 at hf
  refine stp hm 2 (br hf (fun c1 hf => ?_) (fun c1 hf => ?_))
  · show sxWP sc cl Q 48 (22, [some (.ref 12), some (.int v1)], [], (cW nw kp im ol sn sr tp (mW mk mg mt mc T)), 0, 0)
    exact J22 _ _ hf
  · show sxWP sc cl Q 48 (4, [some (.ref 12), some (.int v1)], [], (cW nw kp im ol sn sr tp (mW mk mg mt mc T)), 0, 0)
    refine stp hm 5 (br hf (fun c2 hf => ?_) (fun c2 hf => ?_))
    · show sxWP sc cl Q 48 (22, [some (.ref 12), some (.int v1)], [], (cW nw kp im ol sn sr tp (mW mk mg mt mc T)), 0, 0)
      exact J22 _ _ hf
    · show sxWP sc cl Q 48 (13, [some (.ref 12), some (.int v1)], [], (cW nw kp im ol sn sr tp (mW mk mg mt mc T)), 0, 0)
      obtain ⟨g3, hf⟩ := grd_e hf
      refine stp hm 4 (And.intro (gi_in g3) (?_ : sxWP sc cl Q 48 (19, [some (.ref 12), some (.int v1)], [.int (nw.2.2.2.2.2.2.2.1 v1.toNatClampNeg)], (cW nw kp im ol sn sr tp (mW mk mg mt mc T)), 0, 0)))
      refine stp hm 1 (?_ : sxWP sc cl Q 48 (23, [some (.ref 12), some (.int v1)], [.int (nw.2.2.2.2.2.2.2.1 v1.toNatClampNeg)], (cW nw kp im ol sn sr tp (mW mk mg mt mc T)), 0, 0))
      exact J23 _ _ _ hf

set_option maxRecDepth 10000 in
theorem R_other_3_ok {v1 : Int32} {q : Int32} (hc : call = sxE sc (d + 1)) (hf : R_other_2 v1 nw.2.2.2.2.2.2.2.2 = some q) (h : Q (some (.int q)) (cW nw kp im ol sn sr tp (mW mk mg mt mc T))) : call 49 [.ref 12, .int v1] (cW nw kp im ol sn sr tp (mW mk mg mt mc T)) Q := by
  refine ent hc rfl (fun cl hE hm => ?_)
  have J23 : ∀ (k0 : Int32) (z0 : Option Value) (z1 : Option Value), R_other_2_j23 k0 = some q → sxWP sc cl Q 49 (23, [z0, z1], [.int k0], (cW nw kp im ol sn sr tp (mW mk mg mt mc T)), 0, 0) := by
    intro k0 z0 z1 hf
    unfold R_other_2_j23 at hf
    obtain rfl := Option.some.inj hf
    refine stp hm 1 ?_
    exact h
  have J22 : ∀  (z0 : Option Value) (z1 : Option Value), R_other_2_j22 = some q → sxWP sc cl Q 49 (22, [z0, z1], [], (cW nw kp im ol sn sr tp (mW mk mg mt mc T)), 0, 0) := by
    intro z0 z1 hf
    unfold R_other_2_j22 at hf
    refine stp hm 1 (?_ : sxWP sc cl Q 49 (23, [z0, z1], [.int (0:Int32)], (cW nw kp im ol sn sr tp (mW mk mg mt mc T)), 0, 0))
    exact J23 _ _ _ hf
  unfold R_other_2 at hf
  refine stp hm 2 (br hf (fun c1 hf => ?_) (fun c1 hf => ?_))
  · show sxWP sc cl Q 49 (22, [some (.ref 12), some (.int v1)], [], (cW nw kp im ol sn sr tp (mW mk mg mt mc T)), 0, 0)
    exact J22 _ _ hf
  · show sxWP sc cl Q 49 (4, [some (.ref 12), some (.int v1)], [], (cW nw kp im ol sn sr tp (mW mk mg mt mc T)), 0, 0)
    refine stp hm 5 (br hf (fun c2 hf => ?_) (fun c2 hf => ?_))
    · show sxWP sc cl Q 49 (22, [some (.ref 12), some (.int v1)], [], (cW nw kp im ol sn sr tp (mW mk mg mt mc T)), 0, 0)
      exact J22 _ _ hf
    · show sxWP sc cl Q 49 (13, [some (.ref 12), some (.int v1)], [], (cW nw kp im ol sn sr tp (mW mk mg mt mc T)), 0, 0)
      obtain ⟨g3, hf⟩ := grd_e hf
      refine stp hm 4 (And.intro (gi_in g3) (?_ : sxWP sc cl Q 49 (19, [some (.ref 12), some (.int v1)], [.int (nw.2.2.2.2.2.2.2.2 v1.toNatClampNeg)], (cW nw kp im ol sn sr tp (mW mk mg mt mc T)), 0, 0)))
      refine stp hm 1 (?_ : sxWP sc cl Q 49 (23, [some (.ref 12), some (.int v1)], [.int (nw.2.2.2.2.2.2.2.2 v1.toNatClampNeg)], (cW nw kp im ol sn sr tp (mW mk mg mt mc T)), 0, 0))
      exact J23 _ _ _ hf

def X_looked_s2   (nrg : Int64) (ngs : Int32) (ngo : (Nat → Int32)) (ngq : (Nat → Int32)) (s : Int32) : Option (Int32 ⊕ (Int32 ⊕ Unit)) := if ngs ≤ s then (some (Sum.inr (Sum.inr ()))) else (Option.bind (R_one_2 s ngo) (fun q2 => Option.bind (R_other_2 s ngq) (fun q3 => if (X_bit (G_holds nrg q2)) = q3 then (some (Sum.inl (s + (1:Int32)))) else (some (Sum.inr (Sum.inl s))))))
def X_looked  (nrg : Int64) (ngs : Int32) (ngo : (Nat → Int32)) (ngq : (Nat → Int32)) : Option Int32 := Option.bind (wh (X_looked_s2 nrg ngs ngo ngq) FU (0:Int32)) (Sum.elim (fun w1_0a => some w1_0a) (fun w1_0b => some (-5:Int32)))
set_option maxRecDepth 10000 in
theorem X_looked_l2    (hE : cl = sxE sc (d + 2)) (hm : CallMono cl) : ∀ (n : Nat) (s : Int32) (r : (Int32 ⊕ Unit)), wh (X_looked_s2 nw.1 nw.2.2.2.2.2.2.1 nw.2.2.2.2.2.2.2.1 nw.2.2.2.2.2.2.2.2) n s = some r → ((∀ p0, r = Sum.inl p0 → ∀ (z0 : Option Value), sxWP sc cl Q 126 (54, [z0, some (.int p0)], [], (cW nw kp im ol sn sr tp (mW mk mg mt mc T)), 0, 0)) ∧ (∀ p0, r = Sum.inr p0 → ∀ (z0 z1 : Option Value), sxWP sc cl Q 126 (62, [z0, z1], [], (cW nw kp im ol sn sr tp (mW mk mg mt mc T)), 0, 0))) → sxWP sc cl Q 126 (2, [some (.ref 0), some (.int s)], [], (cW nw kp im ol sn sr tp (mW mk mg mt mc T)), 0, 0) := by
  refine wh_run (A := fun (s : Int32) => sxWP sc cl Q 126 (2, [some (.ref 0), some (.int s)], [], (cW nw kp im ol sn sr tp (mW mk mg mt mc T)), 0, 0)) (B := fun (r : (Int32 ⊕ Unit)) => (∀ p0, r = Sum.inl p0 → ∀ (z0 : Option Value), sxWP sc cl Q 126 (54, [z0, some (.int p0)], [], (cW nw kp im ol sn sr tp (mW mk mg mt mc T)), 0, 0)) ∧ (∀ p0, r = Sum.inr p0 → ∀ (z0 z1 : Option Value), sxWP sc cl Q 126 (62, [z0, z1], [], (cW nw kp im ol sn sr tp (mW mk mg mt mc T)), 0, 0))) (fun s x hf hA hB => ?_)
  unfold X_looked_s2 at hf
  refine stp hm 6 (br hf (fun c1 hf => ?_) (fun c1 hf => ?_))
  · show sxWP sc cl Q 126 (62, [some (.ref 0), some (.int s)], [], (cW nw kp im ol sn sr tp (mW mk mg mt mc T)), 0, 0)
    obtain rfl := Option.some.inj hf
    exact (hB _ rfl).2 _ rfl _ _
  · show sxWP sc cl Q 126 (16, [some (.ref 0), some (.int s)], [], (cW nw kp im ol sn sr tp (mW mk mg mt mc T)), 0, 0)
    obtain ⟨q2, hq2, hf⟩ := bnd hf
    refine stp hm 8 (R_one_3_ok hE hq2 ?_)
    show sxWP sc cl Q 126 (34, [some (.ref 0), some (.int s)], [.int q2, .long nw.1], (cW nw kp im ol sn sr tp (mW mk mg mt mc T)), 0, 0)
    refine stp hm 1 (G_holds_ok hE rfl ?_)
    show sxWP sc cl Q 126 (37, [some (.ref 0), some (.int s)], [.int (G_holds nw.1 q2)], (cW nw kp im ol sn sr tp (mW mk mg mt mc T)), 0, 0)
    refine stp hm 1 (X_bit_ok hE rfl ?_)
    show sxWP sc cl Q 126 (40, [some (.ref 0), some (.int s)], [.int (X_bit (G_holds nw.1 q2))], (cW nw kp im ol sn sr tp (mW mk mg mt mc T)), 0, 0)
    obtain ⟨q3, hq3, hf⟩ := bnd hf
    refine stp hm 5 (R_other_3_ok hE hq3 ?_)
    show sxWP sc cl Q 126 (51, [some (.ref 0), some (.int s)], [.int q3, .int (X_bit (G_holds nw.1 q2))], (cW nw kp im ol sn sr tp (mW mk mg mt mc T)), 0, 0)
    refine stp hm 1 (br hf (fun c4 hf => ?_) (fun c4 hf => ?_))
    · show sxWP sc cl Q 126 (56, [some (.ref 0), some (.int s)], [], (cW nw kp im ol sn sr tp (mW mk mg mt mc T)), 0, 0)
      obtain rfl := Option.some.inj hf
      refine stp hm 2 (?_ : sxWP sc cl Q 126 (2, [some (.ref 0), some (.int (s + (1:Int32)))], [], (cW nw kp im ol sn sr tp (mW mk mg mt mc T)), 0, 0))
      exact hA _ rfl
    · show sxWP sc cl Q 126 (54, [some (.ref 0), some (.int s)], [], (cW nw kp im ol sn sr tp (mW mk mg mt mc T)), 0, 0)
      obtain rfl := Option.some.inj hf
      exact (hB _ rfl).1 _ rfl _
set_option maxRecDepth 10000 in
theorem X_looked_ok  {q : Int32} (hc : call = sxE sc (d + 3)) (hf : X_looked nw.1 nw.2.2.2.2.2.2.1 nw.2.2.2.2.2.2.2.1 nw.2.2.2.2.2.2.2.2 = some q) (h : Q (some (.int q)) (cW nw kp im ol sn sr tp (mW mk mg mt mc T))) : call 126 [.ref 0] (cW nw kp im ol sn sr tp (mW mk mg mt mc T)) Q := by
  refine ent hc rfl (fun cl hE hm => ?_)
  unfold X_looked at hf
  obtain ⟨w1, hw1, hf⟩ := bnd hf
  refine stp hm 2 (?_ : sxWP sc cl Q 126 (2, [some (.ref 0), some (.int (0:Int32))], [], (cW nw kp im ol sn sr tp (mW mk mg mt mc T)), 0, 0))
  refine X_looked_l2 hE hm _ _ _ hw1 ?_
  refine ⟨fun w1_0a e0 => ?_, fun w1_0b e0 => ?_⟩
  · subst e0
    replace hf : (some w1_0a) = some q := hf
    intro w1_z0
    show sxWP sc cl Q 126 (54, [w1_z0, some (.int w1_0a)], [], (cW nw kp im ol sn sr tp (mW mk mg mt mc T)), 0, 0)
    obtain rfl := Option.some.inj hf
    refine stp hm 2 ?_
    exact h
  · subst e0
    replace hf : (some (-5:Int32)) = some q := hf
    intro w1_z0 w1_z1
    show sxWP sc cl Q 126 (62, [w1_z0, w1_z1], [], (cW nw kp im ol sn sr tp (mW mk mg mt mc T)), 0, 0)
    obtain rfl := Option.some.inj hf
    refine stp hm 2 ?_
    exact h

def M_looked_s2   (mrg : Int64) (ms : (Nat → Int32)) (s : Int32) : Option (Int32 ⊕ (Int32 ⊕ Unit)) := grd (gi (5:Int32) 122) (if (ms (5:Int32).toNatClampNeg) ≤ s then (some (Sum.inr (Sum.inr ()))) else (grd (gi ((106:Int32) + ((2:Int32) * s)) 122) (grd (gi (((106:Int32) + ((2:Int32) * s)) + (1:Int32)) 122) (if (M_has (ms ((106:Int32) + ((2:Int32) * s)).toNatClampNeg) mrg) = (if (ms (((106:Int32) + ((2:Int32) * s)) + (1:Int32)).toNatClampNeg) = (1:Int32) then (1:Int32) else (0:Int32)) then (some (Sum.inl (s + (1:Int32)))) else (some (Sum.inr (Sum.inl s)))))))
def M_looked  (mrg : Int64) (ms : (Nat → Int32)) : Option Int32 := Option.bind (wh (M_looked_s2 mrg ms) FU (0:Int32)) (Sum.elim (fun w1_0a => some w1_0a) (fun w1_0b => some (-5:Int32)))
set_option maxRecDepth 10000 in
theorem M_looked_l2    (hE : cl = sxE sc (d + 1)) (hm : CallMono cl) : ∀ (n : Nat) (s : Int32) (r : (Int32 ⊕ Unit)), wh (M_looked_s2 mk.1 mk.2.2.1) n s = some r → ((∀ p0, r = Sum.inl p0 → ∀ (z0 : Option Value), sxWP sc cl Q 230 (52, [z0, some (.int p0)], [], (cW nw kp im ol sn sr tp (mW mk mg mt mc T)), 0, 0)) ∧ (∀ p0, r = Sum.inr p0 → ∀ (z0 z1 : Option Value), sxWP sc cl Q 230 (60, [z0, z1], [], (cW nw kp im ol sn sr tp (mW mk mg mt mc T)), 0, 0))) → sxWP sc cl Q 230 (2, [some (.ref 59), some (.int s)], [], (cW nw kp im ol sn sr tp (mW mk mg mt mc T)), 0, 0) := by
  refine wh_run (A := fun (s : Int32) => sxWP sc cl Q 230 (2, [some (.ref 59), some (.int s)], [], (cW nw kp im ol sn sr tp (mW mk mg mt mc T)), 0, 0)) (B := fun (r : (Int32 ⊕ Unit)) => (∀ p0, r = Sum.inl p0 → ∀ (z0 : Option Value), sxWP sc cl Q 230 (52, [z0, some (.int p0)], [], (cW nw kp im ol sn sr tp (mW mk mg mt mc T)), 0, 0)) ∧ (∀ p0, r = Sum.inr p0 → ∀ (z0 z1 : Option Value), sxWP sc cl Q 230 (60, [z0, z1], [], (cW nw kp im ol sn sr tp (mW mk mg mt mc T)), 0, 0))) (fun s x hf hA hB => ?_)
  unfold M_looked_s2 at hf
  obtain ⟨g1, hf⟩ := grd_e hf
  refine stp hm 5 (And.intro (gi_in g1) (?_ : sxWP sc cl Q 230 (9, [some (.ref 59), some (.int s)], [.int (mk.2.2.1 (5:Int32).toNatClampNeg), .int s], (cW nw kp im ol sn sr tp (mW mk mg mt mc T)), 0, 0)))
  refine stp hm 1 (br hf (fun c2 hf => ?_) (fun c2 hf => ?_))
  · show sxWP sc cl Q 230 (60, [some (.ref 59), some (.int s)], [], (cW nw kp im ol sn sr tp (mW mk mg mt mc T)), 0, 0)
    obtain rfl := Option.some.inj hf
    exact (hB _ rfl).2 _ rfl _ _
  · show sxWP sc cl Q 230 (12, [some (.ref 59), some (.int s)], [], (cW nw kp im ol sn sr tp (mW mk mg mt mc T)), 0, 0)
    obtain ⟨g3, hf⟩ := grd_e hf
    refine stp hm 9 (And.intro (gi_in g3) (?_ : sxWP sc cl Q 230 (24, [some (.ref 59), some (.int s)], [.int (mk.2.2.1 ((106:Int32) + ((2:Int32) * s)).toNatClampNeg), .ref 59], (cW nw kp im ol sn sr tp (mW mk mg mt mc T)), 0, 0)))
    refine stp hm 1 (M_has_ok hE rfl ?_)
    show sxWP sc cl Q 230 (27, [some (.ref 59), some (.int s)], [.int (M_has (mk.2.2.1 ((106:Int32) + ((2:Int32) * s)).toNatClampNeg) mk.1)], (cW nw kp im ol sn sr tp (mW mk mg mt mc T)), 0, 0)
    obtain ⟨g4, hf⟩ := grd_e hf
    refine stp hm 10 (And.intro (gi_in g4) (?_ : sxWP sc cl Q 230 (40, [some (.ref 59), some (.int s)], [.int (mk.2.2.1 (((106:Int32) + ((2:Int32) * s)) + (1:Int32)).toNatClampNeg), .int (M_has (mk.2.2.1 ((106:Int32) + ((2:Int32) * s)).toNatClampNeg) mk.1)], (cW nw kp im ol sn sr tp (mW mk mg mt mc T)), 0, 0)))
    have m5 : ∀ (m5_0 : Int32), m5_0 = (if (mk.2.2.1 (((106:Int32) + ((2:Int32) * s)) + (1:Int32)).toNatClampNeg) = (1:Int32) then (1:Int32) else (0:Int32)) → sxWP sc cl Q 230 (49, [some (.ref 59), some (.int s)], [.int m5_0, .int (M_has (mk.2.2.1 ((106:Int32) + ((2:Int32) * s)).toNatClampNeg) mk.1)], (cW nw kp im ol sn sr tp (mW mk mg mt mc T)), 0, 0) := by
      intro m5_0 em5_0
      subst em5_0
      refine stp hm 1 (br hf (fun c6 hf => ?_) (fun c6 hf => ?_))
      · show sxWP sc cl Q 230 (54, [some (.ref 59), some (.int s)], [], (cW nw kp im ol sn sr tp (mW mk mg mt mc T)), 0, 0)
        obtain rfl := Option.some.inj hf
        refine stp hm 2 (?_ : sxWP sc cl Q 230 (2, [some (.ref 59), some (.int (s + (1:Int32)))], [], (cW nw kp im ol sn sr tp (mW mk mg mt mc T)), 0, 0))
        exact hA _ rfl
      · show sxWP sc cl Q 230 (52, [some (.ref 59), some (.int s)], [], (cW nw kp im ol sn sr tp (mW mk mg mt mc T)), 0, 0)
        obtain rfl := Option.some.inj hf
        exact (hB _ rfl).1 _ rfl _
    refine stp hm 2 (bsn (c := (mk.2.2.1 (((106:Int32) + ((2:Int32) * s)) + (1:Int32)).toNatClampNeg) = (1:Int32)) (fun c7 => ?_) (fun c7 => ?_))
    · have c7 : ¬ (mk.2.2.1 (((106:Int32) + ((2:Int32) * s)) + (1:Int32)).toNatClampNeg) = (1:Int32) := c7
      refine stp hm 1 (?_ : sxWP sc cl Q 230 (49, [some (.ref 59), some (.int s)], [.int (0:Int32), .int (M_has (mk.2.2.1 ((106:Int32) + ((2:Int32) * s)).toNatClampNeg) mk.1)], (cW nw kp im ol sn sr tp (mW mk mg mt mc T)), 0, 0))
      exact m5 _ (by rw [if_neg c7])
    · have c7 : (mk.2.2.1 (((106:Int32) + ((2:Int32) * s)) + (1:Int32)).toNatClampNeg) = (1:Int32) := c7
      refine stp hm 2 (?_ : sxWP sc cl Q 230 (49, [some (.ref 59), some (.int s)], [.int (1:Int32), .int (M_has (mk.2.2.1 ((106:Int32) + ((2:Int32) * s)).toNatClampNeg) mk.1)], (cW nw kp im ol sn sr tp (mW mk mg mt mc T)), 0, 0))
      exact m5 _ (by rw [if_pos c7])
set_option maxRecDepth 10000 in
theorem M_looked_ok  {q : Int32} (hc : call = sxE sc (d + 2)) (hf : M_looked mk.1 mk.2.2.1 = some q) (h : Q (some (.int q)) (cW nw kp im ol sn sr tp (mW mk mg mt mc T))) : call 230 [.ref 59] (cW nw kp im ol sn sr tp (mW mk mg mt mc T)) Q := by
  refine ent hc rfl (fun cl hE hm => ?_)
  unfold M_looked at hf
  obtain ⟨w1, hw1, hf⟩ := bnd hf
  refine stp hm 2 (?_ : sxWP sc cl Q 230 (2, [some (.ref 59), some (.int (0:Int32))], [], (cW nw kp im ol sn sr tp (mW mk mg mt mc T)), 0, 0))
  refine M_looked_l2 hE hm _ _ _ hw1 ?_
  refine ⟨fun w1_0a e0 => ?_, fun w1_0b e0 => ?_⟩
  · subst e0
    replace hf : (some w1_0a) = some q := hf
    intro w1_z0
    show sxWP sc cl Q 230 (52, [w1_z0, some (.int w1_0a)], [], (cW nw kp im ol sn sr tp (mW mk mg mt mc T)), 0, 0)
    obtain rfl := Option.some.inj hf
    refine stp hm 2 ?_
    exact h
  · subst e0
    replace hf : (some (-5:Int32)) = some q := hf
    intro w1_z0 w1_z1
    show sxWP sc cl Q 230 (60, [w1_z0, w1_z1], [], (cW nw kp im ol sn sr tp (mW mk mg mt mc T)), 0, 0)
    obtain rfl := Option.some.inj hf
    refine stp hm 2 ?_
    exact h

def X_isTape (v0 : Int32)  : Int32 := if v0 < (0:Int32) then (0:Int32) else (if (6:Int32) ≤ v0 then (0:Int32) else (1:Int32))
set_option maxRecDepth 10000 in
theorem X_isTape_ok {v0 : Int32} {r : Int32} (hc : call = sxE sc (d + 1)) (hf : X_isTape v0 = r) (h : Q (some (.int r)) hp) : call 135 [.int v0] hp Q := by
  refine ent hc rfl (fun cl hE hm => ?_)
  unfold X_isTape at hf
  have m1 : ∀ (m1_0 : Int32), m1_0 = (if v0 < (0:Int32) then (0:Int32) else (if (6:Int32) ≤ v0 then (0:Int32) else (1:Int32))) → sxWP sc cl Q 135 (15, [some (.int v0)], [.int m1_0], hp, 0, 0) := by
    intro m1_0 em1_0
    subst em1_0
    subst hf
    refine stp hm 1 (And.intro (by (repeat' split) <;> first | exact Or.inl rfl | exact Or.inr rfl) ?_)
    exact h
  refine stp hm 2 (bs (c := v0 < (0:Int32)) (fun c2 => ?_) (fun c2 => ?_))
  · have c2 : v0 < (0:Int32) := c2
    refine stp hm 1 (?_ : sxWP sc cl Q 135 (15, [some (.int v0)], [.int (0:Int32)], hp, 0, 0))
    exact m1 _ (by rw [if_pos c2])
  · have c2 : ¬ v0 < (0:Int32) := c2
    refine stp hm 3 (bs (c := (6:Int32) ≤ v0) (fun c3 => ?_) (fun c3 => ?_))
    · have c3 : (6:Int32) ≤ v0 := c3
      refine stp hm 1 (?_ : sxWP sc cl Q 135 (15, [some (.int v0)], [.int (0:Int32)], hp, 0, 0))
      exact m1 _ (by rw [if_neg c2, if_pos c3])
    · have c3 : ¬ (6:Int32) ≤ v0 := c3
      refine stp hm 2 (?_ : sxWP sc cl Q 135 (15, [some (.int v0)], [.int (1:Int32)], hp, 0, 0))
      exact m1 _ (by rw [if_neg c2, if_neg c3])
theorem X_isTape_z {v0 : Int32}  : X_isTape v0 = 0 ∨ X_isTape v0 = 1 := by
  unfold X_isTape
  (repeat' split) <;> first | exact Or.inl rfl | exact Or.inr rfl

def M_isTape (v0 : Int32)  : Int32 := M_isIn v0 (0:Int32) (5:Int32)
set_option maxRecDepth 10000 in
theorem M_isTape_ok {v0 : Int32} {r : Int32} (hc : call = sxE sc (d + 2)) (hf : M_isTape v0 = r) (h : Q (some (.int r)) hp) : call 231 [.int v0] hp Q := by
  refine ent hc rfl (fun cl hE hm => ?_)
  unfold M_isTape at hf
  refine stp hm 4 (M_isIn_ok hE rfl ?_)
  show sxWP sc cl Q 231 (6, [some (.int v0)], [.int (M_isIn v0 (0:Int32) (5:Int32))], hp, 0, 0)
  subst hf
  refine stp hm 1 (And.intro (M_isIn_z) ?_)
  exact h
theorem M_isTape_z {v0 : Int32}  : M_isTape v0 = 0 ∨ M_isTape v0 = 1 := by
  unfold M_isTape
  (repeat' split) <;> first | exact Or.inl rfl | exact Or.inr rfl | exact M_isIn_z

def M_judge_s44  (v1 : Int32) (v2 : Int32) (mrg : Int64) (mmy : (Nat → Int32)) (mit : (Nat → Int64)) (s : Int32) : Option (Int32 ⊕ (Int32 ⊕ (Int32 ⊕ Unit))) := if (36:Int32) ≤ s then (some (Sum.inr (Sum.inr (Sum.inr ())))) else (grd (gi v1 6) (if (v2.toInt64 + s.toInt64) < ((mmy v1.toNatClampNeg).toInt64) then (grd (gi ((((60:Int32) * v1) + v2) + s) 360) (if (mit ((((60:Int32) * v1) + v2) + s).toNatClampNeg) = (if (M_has s mrg) = (0:Int32) then (0:Int64) else (1:Int64)) then (some (Sum.inl (s + (1:Int32)))) else (some (Sum.inr (Sum.inr (Sum.inl s)))))) else (some (Sum.inr (Sum.inl s)))))
def M_judge (v1 : Int32) (v2 : Int32) (mrg : Int64) (mso : (Nat → Int32)) (mmy : (Nat → Int32)) (mit : (Nat → Int64)) : Option Int32 := if (M_isTape v1) = (0:Int32) then (some (-1:Int32)) else (grd (gi v1 6) (if (mso v1.toNatClampNeg) = (-1:Int32) then (some (100:Int32)) else (grd (gi v1 6) (if (mso v1.toNatClampNeg) = (4:Int32) then (if (0:Int32) ≤ v2 then (Option.bind (wh (M_judge_s44 v1 v2 mrg mmy mit) FU (0:Int32)) (Sum.elim (fun w7_0a => some ((100:Int32) + w7_0a)) (Sum.elim (fun w7_1a => some w7_1a) (fun w7_1b => some (-5:Int32))))) else (some (100:Int32))) else (some (-12:Int32))))))
set_option maxRecDepth 10000 in
theorem M_judge_l44 {v1 : Int32} {v2 : Int32}   (hE : cl = sxE sc (d + 2)) (hm : CallMono cl) : ∀ (n : Nat) (s : Int32) (r : (Int32 ⊕ (Int32 ⊕ Unit))), wh (M_judge_s44 v1 v2 mk.1 mk.2.2.2.2.2.2.2.2.1 mk.2.2.2.2.2.2.2.2.2) n s = some r → ((∀ p0, r = Sum.inl p0 → ∀ (z0 z1 z2 : Option Value), sxWP sc cl Q 232 (66, [z0, z1, z2, some (.int p0)], [], (cW nw kp im ol sn sr tp (mW mk mg mt mc T)), 0, 0)) ∧ (∀ p0, r = Sum.inr p0 → (∀ p1, p0 = Sum.inl p1 → ∀ (z0 z1 z2 : Option Value), sxWP sc cl Q 232 (101, [z0, z1, z2, some (.int p1)], [], (cW nw kp im ol sn sr tp (mW mk mg mt mc T)), 0, 0)) ∧ (∀ p1, p0 = Sum.inr p1 → ∀ (z0 z1 z2 z3 : Option Value), sxWP sc cl Q 232 (109, [z0, z1, z2, z3], [], (cW nw kp im ol sn sr tp (mW mk mg mt mc T)), 0, 0)))) → sxWP sc cl Q 232 (44, [some (.ref 59), some (.int v1), some (.int v2), some (.int s)], [], (cW nw kp im ol sn sr tp (mW mk mg mt mc T)), 0, 0) := by
  refine wh_run (A := fun (s : Int32) => sxWP sc cl Q 232 (44, [some (.ref 59), some (.int v1), some (.int v2), some (.int s)], [], (cW nw kp im ol sn sr tp (mW mk mg mt mc T)), 0, 0)) (B := fun (r : (Int32 ⊕ (Int32 ⊕ Unit))) => (∀ p0, r = Sum.inl p0 → ∀ (z0 z1 z2 : Option Value), sxWP sc cl Q 232 (66, [z0, z1, z2, some (.int p0)], [], (cW nw kp im ol sn sr tp (mW mk mg mt mc T)), 0, 0)) ∧ (∀ p0, r = Sum.inr p0 → (∀ p1, p0 = Sum.inl p1 → ∀ (z0 z1 z2 : Option Value), sxWP sc cl Q 232 (101, [z0, z1, z2, some (.int p1)], [], (cW nw kp im ol sn sr tp (mW mk mg mt mc T)), 0, 0)) ∧ (∀ p1, p0 = Sum.inr p1 → ∀ (z0 z1 z2 z3 : Option Value), sxWP sc cl Q 232 (109, [z0, z1, z2, z3], [], (cW nw kp im ol sn sr tp (mW mk mg mt mc T)), 0, 0)))) (fun s x hf hA hB => ?_)
  unfold M_judge_s44 at hf
  refine stp hm 3 (br hf (fun c1 hf => ?_) (fun c1 hf => ?_))
  · show sxWP sc cl Q 232 (109, [some (.ref 59), some (.int v1), some (.int v2), some (.int s)], [], (cW nw kp im ol sn sr tp (mW mk mg mt mc T)), 0, 0)
    obtain rfl := Option.some.inj hf
    exact ((hB _ rfl).2 _ rfl).2 _ rfl _ _ _ _
  · show sxWP sc cl Q 232 (50, [some (.ref 59), some (.int v1), some (.int v2), some (.int s)], [], (cW nw kp im ol sn sr tp (mW mk mg mt mc T)), 0, 0)
    obtain ⟨g2, hf⟩ := grd_e hf
    refine stp hm 9 (And.intro (gi_in g2) (?_ : sxWP sc cl Q 232 (61, [some (.ref 59), some (.int v1), some (.int v2), some (.int s)], [.int (mk.2.2.2.2.2.2.2.2.1 v1.toNatClampNeg), .long (v2.toInt64 + s.toInt64)], (cW nw kp im ol sn sr tp (mW mk mg mt mc T)), 0, 0)))
    refine stp hm 3 (brI (lg_cmp_lt _ _) hf (fun c3 hf => ?_) (fun c3 hf => ?_))
    · show sxWP sc cl Q 232 (71, [some (.ref 59), some (.int v1), some (.int v2), some (.int s)], [], (cW nw kp im ol sn sr tp (mW mk mg mt mc T)), 0, 0)
      obtain ⟨g4, hf⟩ := grd_e hf
      refine stp hm 10 (And.intro (gi_in g4) (?_ : sxWP sc cl Q 232 (84, [some (.ref 59), some (.int v1), some (.int v2), some (.int s)], [.long (mk.2.2.2.2.2.2.2.2.2 ((((60:Int32) * v1) + v2) + s).toNatClampNeg)], (cW nw kp im ol sn sr tp (mW mk mg mt mc T)), 0, 0)))
      refine stp hm 3 (M_has_ok hE rfl ?_)
      show sxWP sc cl Q 232 (89, [some (.ref 59), some (.int v1), some (.int v2), some (.int s)], [.int (M_has s mk.1), .long (mk.2.2.2.2.2.2.2.2.2 ((((60:Int32) * v1) + v2) + s).toNatClampNeg)], (cW nw kp im ol sn sr tp (mW mk mg mt mc T)), 0, 0)
      have m5 : ∀ (m5_0 : Int64), m5_0 = (if (M_has s mk.1) = (0:Int32) then (0:Int64) else (1:Int64)) → sxWP sc cl Q 232 (97, [some (.ref 59), some (.int v1), some (.int v2), some (.int s)], [.long m5_0, .long (mk.2.2.2.2.2.2.2.2.2 ((((60:Int32) * v1) + v2) + s).toNatClampNeg)], (cW nw kp im ol sn sr tp (mW mk mg mt mc T)), 0, 0) := by
        intro m5_0 em5_0
        subst em5_0
        refine stp hm 2 (brI (lg_cmp_eq _ _) hf (fun c6 hf => ?_) (fun c6 hf => ?_))
        · show sxWP sc cl Q 232 (103, [some (.ref 59), some (.int v1), some (.int v2), some (.int s)], [], (cW nw kp im ol sn sr tp (mW mk mg mt mc T)), 0, 0)
          obtain rfl := Option.some.inj hf
          refine stp hm 2 (?_ : sxWP sc cl Q 232 (44, [some (.ref 59), some (.int v1), some (.int v2), some (.int (s + (1:Int32)))], [], (cW nw kp im ol sn sr tp (mW mk mg mt mc T)), 0, 0))
          exact hA _ rfl
        · show sxWP sc cl Q 232 (101, [some (.ref 59), some (.int v1), some (.int v2), some (.int s)], [], (cW nw kp im ol sn sr tp (mW mk mg mt mc T)), 0, 0)
          obtain rfl := Option.some.inj hf
          exact ((hB _ rfl).2 _ rfl).1 _ rfl _ _ _
      refine stp hm 1 (bs (c := (M_has s mk.1) = (0:Int32)) (fun c7 => ?_) (fun c7 => ?_))
      · have c7 : (M_has s mk.1) = (0:Int32) := c7
        refine stp hm 1 (?_ : sxWP sc cl Q 232 (97, [some (.ref 59), some (.int v1), some (.int v2), some (.int s)], [.long (0:Int64), .long (mk.2.2.2.2.2.2.2.2.2 ((((60:Int32) * v1) + v2) + s).toNatClampNeg)], (cW nw kp im ol sn sr tp (mW mk mg mt mc T)), 0, 0))
        exact m5 _ (by rw [if_pos c7])
      · have c7 : ¬ (M_has s mk.1) = (0:Int32) := c7
        refine stp hm 2 (?_ : sxWP sc cl Q 232 (97, [some (.ref 59), some (.int v1), some (.int v2), some (.int s)], [.long (1:Int64), .long (mk.2.2.2.2.2.2.2.2.2 ((((60:Int32) * v1) + v2) + s).toNatClampNeg)], (cW nw kp im ol sn sr tp (mW mk mg mt mc T)), 0, 0))
        exact m5 _ (by rw [if_neg c7])
    · show sxWP sc cl Q 232 (66, [some (.ref 59), some (.int v1), some (.int v2), some (.int s)], [], (cW nw kp im ol sn sr tp (mW mk mg mt mc T)), 0, 0)
      obtain rfl := Option.some.inj hf
      exact (hB _ rfl).1 _ rfl _ _ _
set_option maxRecDepth 10000 in
theorem M_judge_ok {v1 : Int32} {v2 : Int32} {q : Int32} (hc : call = sxE sc (d + 3)) (hf : M_judge v1 v2 mk.1 mk.2.2.2.2.2.2.2.1 mk.2.2.2.2.2.2.2.2.1 mk.2.2.2.2.2.2.2.2.2 = some q) (h : Q (some (.int q)) (cW nw kp im ol sn sr tp (mW mk mg mt mc T))) : call 232 [.ref 59, .int v1, .int v2] (cW nw kp im ol sn sr tp (mW mk mg mt mc T)) Q := by
  refine ent hc rfl (fun cl hE hm => ?_)
  unfold M_judge at hf
  refine stp hm 2 (M_isTape_ok hE rfl ?_)
  show sxWP sc cl Q 232 (4, [some (.ref 59), some (.int v1), some (.int v2), none], [.int (M_isTape v1)], (cW nw kp im ol sn sr tp (mW mk mg mt mc T)), 0, 0)
  refine stp hm 1 (brn hf (fun c1 hf => ?_) (fun c1 hf => ?_))
  · show sxWP sc cl Q 232 (9, [some (.ref 59), some (.int v1), some (.int v2), none], [], (cW nw kp im ol sn sr tp (mW mk mg mt mc T)), 0, 0)
    obtain ⟨g2, hf⟩ := grd_e hf
    refine stp hm 4 (And.intro (gi_in g2) (?_ : sxWP sc cl Q 232 (15, [some (.ref 59), some (.int v1), some (.int v2), none], [.int (mk.2.2.2.2.2.2.2.1 v1.toNatClampNeg)], (cW nw kp im ol sn sr tp (mW mk mg mt mc T)), 0, 0)))
    refine stp hm 2 (brn hf (fun c3 hf => ?_) (fun c3 hf => ?_))
    · show sxWP sc cl Q 232 (22, [some (.ref 59), some (.int v1), some (.int v2), none], [], (cW nw kp im ol sn sr tp (mW mk mg mt mc T)), 0, 0)
      obtain ⟨g4, hf⟩ := grd_e hf
      refine stp hm 4 (And.intro (gi_in g4) (?_ : sxWP sc cl Q 232 (28, [some (.ref 59), some (.int v1), some (.int v2), none], [.int (mk.2.2.2.2.2.2.2.1 v1.toNatClampNeg)], (cW nw kp im ol sn sr tp (mW mk mg mt mc T)), 0, 0)))
      refine stp hm 2 (br hf (fun c5 hf => ?_) (fun c5 hf => ?_))
      · show sxWP sc cl Q 232 (35, [some (.ref 59), some (.int v1), some (.int v2), none], [], (cW nw kp im ol sn sr tp (mW mk mg mt mc T)), 0, 0)
        refine stp hm 2 (br hf (fun c6 hf => ?_) (fun c6 hf => ?_))
        · show sxWP sc cl Q 232 (42, [some (.ref 59), some (.int v1), some (.int v2), none], [], (cW nw kp im ol sn sr tp (mW mk mg mt mc T)), 0, 0)
          obtain ⟨w7, hw7, hf⟩ := bnd hf
          refine stp hm 2 (?_ : sxWP sc cl Q 232 (44, [some (.ref 59), some (.int v1), some (.int v2), some (.int (0:Int32))], [], (cW nw kp im ol sn sr tp (mW mk mg mt mc T)), 0, 0))
          refine M_judge_l44 hE hm _ _ _ hw7 ?_
          refine ⟨fun w7_0a e0 => ?_, fun w7_0b e0 => ?_⟩
          · subst e0
            replace hf : (some ((100:Int32) + w7_0a)) = some q := hf
            intro w7_z0 w7_z1 w7_z2
            show sxWP sc cl Q 232 (66, [w7_z0, w7_z1, w7_z2, some (.int w7_0a)], [], (cW nw kp im ol sn sr tp (mW mk mg mt mc T)), 0, 0)
            obtain rfl := Option.some.inj hf
            refine stp hm 4 ?_
            exact h
          · subst e0
            refine ⟨fun w7_1a e1 => ?_, fun w7_1b e1 => ?_⟩
            · subst e1
              replace hf : (some w7_1a) = some q := hf
              intro w7_z0 w7_z1 w7_z2
              show sxWP sc cl Q 232 (101, [w7_z0, w7_z1, w7_z2, some (.int w7_1a)], [], (cW nw kp im ol sn sr tp (mW mk mg mt mc T)), 0, 0)
              obtain rfl := Option.some.inj hf
              refine stp hm 2 ?_
              exact h
            · subst e1
              replace hf : (some (-5:Int32)) = some q := hf
              intro w7_z0 w7_z1 w7_z2 w7_z3
              show sxWP sc cl Q 232 (109, [w7_z0, w7_z1, w7_z2, w7_z3], [], (cW nw kp im ol sn sr tp (mW mk mg mt mc T)), 0, 0)
              obtain rfl := Option.some.inj hf
              refine stp hm 2 ?_
              exact h
        · show sxWP sc cl Q 232 (39, [some (.ref 59), some (.int v1), some (.int v2), none], [], (cW nw kp im ol sn sr tp (mW mk mg mt mc T)), 0, 0)
          obtain rfl := Option.some.inj hf
          refine stp hm 2 ?_
          exact h
      · show sxWP sc cl Q 232 (32, [some (.ref 59), some (.int v1), some (.int v2), none], [], (cW nw kp im ol sn sr tp (mW mk mg mt mc T)), 0, 0)
        obtain rfl := Option.some.inj hf
        refine stp hm 2 ?_
        exact h
    · show sxWP sc cl Q 232 (19, [some (.ref 59), some (.int v1), some (.int v2), none], [], (cW nw kp im ol sn sr tp (mW mk mg mt mc T)), 0, 0)
      obtain rfl := Option.some.inj hf
      refine stp hm 2 ?_
      exact h
  · show sxWP sc cl Q 232 (7, [some (.ref 59), some (.int v1), some (.int v2), none], [], (cW nw kp im ol sn sr tp (mW mk mg mt mc T)), 0, 0)
    obtain rfl := Option.some.inj hf
    refine stp hm 2 ?_
    exact h

def P_copy  (nps : Int32) (npl : Int32) (npw : (Nat → Int32)) (kpw : (Nat → Int32)) : Option (Int32 × Int32 × (Nat → Int32)) := some (nps, npl, va_cpy npw kpw (0:Int32).toNatClampNeg (0:Int32).toNatClampNeg (40:Int32).toNatClampNeg)
set_option maxRecDepth 10000 in
theorem P_copy_ok  {q : (Int32 × Int32 × (Nat → Int32))} (hc : call = sxE sc (d + 1)) (hf : P_copy nw.2.2.2.1.1 nw.2.2.2.1.2.1 nw.2.2.2.1.2.2.1 kp.2.2.2.1.2.2.1 = some q) (h : Q none (cW nw (kp.1, kp.2.1, kp.2.2.1, (q.1, q.2.1, q.2.2, kp.2.2.2.1.2.2.2), kp.2.2.2.2.1, kp.2.2.2.2.2.1, kp.2.2.2.2.2.2) im ol sn sr tp (mW mk mg mt mc T))) : call 38 [.ref 17, .ref 3] (cW nw kp im ol sn sr tp (mW mk mg mt mc T)) Q := by
  refine ent hc rfl (fun cl hE hm => ?_)
  unfold P_copy at hf
  refine stp hm 16 (And.intro (by decide) (?_ : sxWP sc cl Q 38 (31, [some (.ref 17), some (.ref 3)], [], (cW nw (kp.1, kp.2.1, kp.2.2.1, (nw.2.2.2.1.1, nw.2.2.2.1.2.1, va_cpy nw.2.2.2.1.2.2.1 kp.2.2.2.1.2.2.1 (0:Int32).toNatClampNeg (0:Int32).toNatClampNeg (40:Int32).toNatClampNeg, kp.2.2.2.1.2.2.2), kp.2.2.2.2.1, kp.2.2.2.2.2.1, kp.2.2.2.2.2.2) im ol sn sr tp (mW mk mg mt mc T)), 0, 0)))
  obtain rfl := Option.some.inj hf
  refine stp hm 1 ?_
  exact h

set_option maxRecDepth 10000 in
theorem R_emptied_4_ok  {q : (Int32 × Int32)} (hc : call = sxE sc (d + 1)) (hf : R_emptied = some q) (h : Q (some (.int q.1)) (cW nw (kp.1, kp.2.1, kp.2.2.1, kp.2.2.2.1, (q.2, kp.2.2.2.2.1.2.1, kp.2.2.2.2.1.2.2), kp.2.2.2.2.2.1, kp.2.2.2.2.2.2) im ol sn sr tp (mW mk mg mt mc T))) : call 46 [.ref 20] (cW nw kp im ol sn sr tp (mW mk mg mt mc T)) Q := by
  refine ent hc rfl (fun cl hE hm => ?_)
  unfold R_emptied at hf
  obtain rfl := Option.some.inj hf
  refine stp hm 6 ?_
  exact h

set_option maxRecDepth 10000 in
theorem R_append_4_ok {v1 : Int32} {v2 : Int32} {q : (Int32 × Int32 × (Nat → Int32) × (Nat → Int32))} (hc : call = sxE sc (d + 1)) (hf : R_append v1 v2 kp.2.2.2.2.1.1 kp.2.2.2.2.1.2.1 kp.2.2.2.2.1.2.2 = some q) (h : Q (some (.int q.1)) (cW nw (kp.1, kp.2.1, kp.2.2.1, kp.2.2.2.1, (q.2.1, q.2.2.1, q.2.2.2), kp.2.2.2.2.2.1, kp.2.2.2.2.2.2) im ol sn sr tp (mW mk mg mt mc T))) : call 47 [.ref 20, .int v1, .int v2] (cW nw kp im ol sn sr tp (mW mk mg mt mc T)) Q := by
  refine ent hc rfl (fun cl hE hm => ?_)
  have J31 : ∀ (kss_j : Int32) (kso_j : (Nat → Int32)) (ksq_j : (Nat → Int32)) (z0 : Option Value) (z1 : Option Value) (z2 : Option Value), R_append_j31 kss_j kso_j ksq_j = some q → sxWP sc cl Q 47 (31, [z0, z1, z2], [], (cW nw (kp.1, kp.2.1, kp.2.2.1, kp.2.2.2.1, (kss_j, kso_j, ksq_j), kp.2.2.2.2.2.1, kp.2.2.2.2.2.2) im ol sn sr tp (mW mk mg mt mc T)), 0, 0) := by
    intro kss_j kso_j ksq_j z0 z1 z2 hf
    unfold R_append_j31 at hf
    obtain rfl := Option.some.inj hf
    refine stp hm 2 (And.intro (Or.inl rfl) ?_)
    exact h
  unfold R_append at hf
  refine stp hm 3 (br hf (fun c1 hf => ?_) (fun c1 hf => ?_))
  · show sxWP sc cl Q 47 (31, [some (.ref 20), some (.int v1), some (.int v2)], [], (cW nw kp im ol sn sr tp (mW mk mg mt mc T)), 0, 0)
    exact J31 _ _ _ _ _ _ hf
  · show sxWP sc cl Q 47 (7, [some (.ref 20), some (.int v1), some (.int v2)], [], (cW nw kp im ol sn sr tp (mW mk mg mt mc T)), 0, 0)
    refine stp hm 6 (br hf (fun c2 hf => ?_) (fun c2 hf => ?_))
    · show sxWP sc cl Q 47 (31, [some (.ref 20), some (.int v1), some (.int v2)], [], (cW nw kp im ol sn sr tp (mW mk mg mt mc T)), 0, 0)
      exact J31 _ _ _ _ _ _ hf
    · show sxWP sc cl Q 47 (19, [some (.ref 20), some (.int v1), some (.int v2)], [], (cW nw kp im ol sn sr tp (mW mk mg mt mc T)), 0, 0)
      refine stp hm 6 (br hf (fun c3 hf => ?_) (fun c3 hf => ?_))
      · show sxWP sc cl Q 47 (33, [some (.ref 20), some (.int v1), some (.int v2)], [], (cW nw kp im ol sn sr tp (mW mk mg mt mc T)), 0, 0)
        obtain ⟨g4, hf⟩ := grd_e hf
        refine stp hm 6 (And.intro (gi_in g4) (?_ : sxWP sc cl Q 47 (43, [some (.ref 20), some (.int v1), some (.int v2)], [], (cW nw (kp.1, kp.2.1, kp.2.2.1, kp.2.2.2.1, (kp.2.2.2.2.1.1, upd kp.2.2.2.2.1.2.1 kp.2.2.2.2.1.1.toNatClampNeg v1, kp.2.2.2.2.1.2.2), kp.2.2.2.2.2.1, kp.2.2.2.2.2.2) im ol sn sr tp (mW mk mg mt mc T)), 0, 0)))
        obtain ⟨g5, hf⟩ := grd_e hf
        refine stp hm 6 (And.intro (gi_in g5) (?_ : sxWP sc cl Q 47 (53, [some (.ref 20), some (.int v1), some (.int v2)], [], (cW nw (kp.1, kp.2.1, kp.2.2.1, kp.2.2.2.1, (kp.2.2.2.2.1.1, upd kp.2.2.2.2.1.2.1 kp.2.2.2.2.1.1.toNatClampNeg v1, upd kp.2.2.2.2.1.2.2 kp.2.2.2.2.1.1.toNatClampNeg v2), kp.2.2.2.2.2.1, kp.2.2.2.2.2.2) im ol sn sr tp (mW mk mg mt mc T)), 0, 0)))
        obtain rfl := Option.some.inj hf
        refine stp hm 8 (And.intro (Or.inr rfl) ?_)
        exact h
      · show sxWP sc cl Q 47 (31, [some (.ref 20), some (.int v1), some (.int v2)], [], (cW nw kp im ol sn sr tp (mW mk mg mt mc T)), 0, 0)
        exact J31 _ _ _ _ _ _ hf

def R_copy_s7   (nss : Int32) (nso : (Nat → Int32)) (nsq : (Nat → Int32)) (s : (Int32 × Int32 × (Nat → Int32) × (Nat → Int32))) : Option ((Int32 × Int32 × (Nat → Int32) × (Nat → Int32)) ⊕ (Int32 × (Nat → Int32) × (Nat → Int32))) := if nss ≤ s.1 then (some (Sum.inr (s.2.1, s.2.2.1, s.2.2.2))) else (Option.bind (R_one s.1 nso) (fun q2 => Option.bind (R_other s.1 nsq) (fun q3 => Option.bind (R_append q2 q3 s.2.1 s.2.2.1 s.2.2.2) (fun q4 => some (Sum.inl (s.1 + (1:Int32), q4.2.1, q4.2.2.1, q4.2.2.2))))))
def R_copy  (nss : Int32) (nso : (Nat → Int32)) (nsq : (Nat → Int32)) (kso : (Nat → Int32)) (ksq : (Nat → Int32)) : Option (Int32 × (Nat → Int32) × (Nat → Int32)) := Option.bind (R_emptied) (fun q1 => Option.bind (wh (R_copy_s7 nss nso nsq) FU ((0:Int32), q1.2, kso, ksq)) (fun w2 => some (w2.1, w2.2.1, w2.2.2)))
set_option maxRecDepth 10000 in
theorem R_copy_l7    (hE : cl = sxE sc (d + 1)) (hm : CallMono cl) : ∀ (n : Nat) (s : (Int32 × Int32 × (Nat → Int32) × (Nat → Int32))) (r : (Int32 × (Nat → Int32) × (Nat → Int32))), wh (R_copy_s7 nw.2.2.2.2.1.1 nw.2.2.2.2.1.2.1 nw.2.2.2.2.1.2.2) n s = some r → (∀ (z0 z1 z2 : Option Value), sxWP sc cl Q 50 (36, [z0, z1, z2], [], (cW nw (kp.1, kp.2.1, kp.2.2.1, kp.2.2.2.1, (r.1, r.2.1, r.2.2), kp.2.2.2.2.2.1, kp.2.2.2.2.2.2) im ol sn sr tp (mW mk mg mt mc T)), 0, 0)) → sxWP sc cl Q 50 (7, [some (.ref 20), some (.ref 6), some (.int s.1)], [], (cW nw (kp.1, kp.2.1, kp.2.2.1, kp.2.2.2.1, (s.2.1, s.2.2.1, s.2.2.2), kp.2.2.2.2.2.1, kp.2.2.2.2.2.2) im ol sn sr tp (mW mk mg mt mc T)), 0, 0) := by
  refine wh_run (A := fun (s : (Int32 × Int32 × (Nat → Int32) × (Nat → Int32))) => sxWP sc cl Q 50 (7, [some (.ref 20), some (.ref 6), some (.int s.1)], [], (cW nw (kp.1, kp.2.1, kp.2.2.1, kp.2.2.2.1, (s.2.1, s.2.2.1, s.2.2.2), kp.2.2.2.2.2.1, kp.2.2.2.2.2.2) im ol sn sr tp (mW mk mg mt mc T)), 0, 0)) (B := fun (r : (Int32 × (Nat → Int32) × (Nat → Int32))) => ∀ (z0 z1 z2 : Option Value), sxWP sc cl Q 50 (36, [z0, z1, z2], [], (cW nw (kp.1, kp.2.1, kp.2.2.1, kp.2.2.2.1, (r.1, r.2.1, r.2.2), kp.2.2.2.2.2.1, kp.2.2.2.2.2.2) im ol sn sr tp (mW mk mg mt mc T)), 0, 0)) (fun s x hf hA hB => ?_)
  unfold R_copy_s7 at hf
  refine stp hm 4 (br hf (fun c1 hf => ?_) (fun c1 hf => ?_))
  · show sxWP sc cl Q 50 (36, [some (.ref 20), some (.ref 6), some (.int s.1)], [], (cW nw (kp.1, kp.2.1, kp.2.2.1, kp.2.2.2.1, (s.2.1, s.2.2.1, s.2.2.2), kp.2.2.2.2.2.1, kp.2.2.2.2.2.2) im ol sn sr tp (mW mk mg mt mc T)), 0, 0)
    obtain rfl := Option.some.inj hf
    exact hB _ rfl _ _ _
  · show sxWP sc cl Q 50 (15, [some (.ref 20), some (.ref 6), some (.int s.1)], [], (cW nw (kp.1, kp.2.1, kp.2.2.1, kp.2.2.2.1, (s.2.1, s.2.2.1, s.2.2.2), kp.2.2.2.2.2.1, kp.2.2.2.2.2.2) im ol sn sr tp (mW mk mg mt mc T)), 0, 0)
    obtain ⟨q2, hq2, hf⟩ := bnd hf
    refine stp hm 4 (R_one_ok hE hq2 ?_)
    show sxWP sc cl Q 50 (21, [some (.ref 20), some (.ref 6), some (.int s.1)], [.int q2, .ref 20], (cW nw (kp.1, kp.2.1, kp.2.2.1, kp.2.2.2.1, (s.2.1, s.2.2.1, s.2.2.2), kp.2.2.2.2.2.1, kp.2.2.2.2.2.2) im ol sn sr tp (mW mk mg mt mc T)), 0, 0)
    obtain ⟨q3, hq3, hf⟩ := bnd hf
    refine stp hm 3 (R_other_ok hE hq3 ?_)
    show sxWP sc cl Q 50 (26, [some (.ref 20), some (.ref 6), some (.int s.1)], [.int q3, .int q2, .ref 20], (cW nw (kp.1, kp.2.1, kp.2.2.1, kp.2.2.2.1, (s.2.1, s.2.2.1, s.2.2.2), kp.2.2.2.2.2.1, kp.2.2.2.2.2.2) im ol sn sr tp (mW mk mg mt mc T)), 0, 0)
    obtain ⟨q4, hq4, hf⟩ := bnd hf
    refine stp hm 1 (R_append_4_ok hE hq4 ?_)
    show sxWP sc cl Q 50 (29, [some (.ref 20), some (.ref 6), some (.int s.1)], [.int q4.1], (cW nw (kp.1, kp.2.1, kp.2.2.1, kp.2.2.2.1, (q4.2.1, q4.2.2.1, q4.2.2.2), kp.2.2.2.2.2.1, kp.2.2.2.2.2.2) im ol sn sr tp (mW mk mg mt mc T)), 0, 0)
    obtain rfl := Option.some.inj hf
    refine stp hm 3 (?_ : sxWP sc cl Q 50 (7, [some (.ref 20), some (.ref 6), some (.int (s.1 + (1:Int32)))], [], (cW nw (kp.1, kp.2.1, kp.2.2.1, kp.2.2.2.1, (q4.2.1, q4.2.2.1, q4.2.2.2), kp.2.2.2.2.2.1, kp.2.2.2.2.2.2) im ol sn sr tp (mW mk mg mt mc T)), 0, 0))
    exact hA _ rfl
set_option maxRecDepth 10000 in
theorem R_copy_ok  {q : (Int32 × (Nat → Int32) × (Nat → Int32))} (hc : call = sxE sc (d + 2)) (hf : R_copy nw.2.2.2.2.1.1 nw.2.2.2.2.1.2.1 nw.2.2.2.2.1.2.2 kp.2.2.2.2.1.2.1 kp.2.2.2.2.1.2.2 = some q) (h : Q none (cW nw (kp.1, kp.2.1, kp.2.2.1, kp.2.2.2.1, (q.1, q.2.1, q.2.2), kp.2.2.2.2.2.1, kp.2.2.2.2.2.2) im ol sn sr tp (mW mk mg mt mc T))) : call 50 [.ref 20, .ref 6] (cW nw kp im ol sn sr tp (mW mk mg mt mc T)) Q := by
  refine ent hc rfl (fun cl hE hm => ?_)
  unfold R_copy at hf
  obtain ⟨q1, hq1, hf⟩ := bnd hf
  refine stp hm 2 (R_emptied_4_ok hE hq1 ?_)
  show sxWP sc cl Q 50 (4, [some (.ref 20), some (.ref 6), none], [.int q1.1], (cW nw (kp.1, kp.2.1, kp.2.2.1, kp.2.2.2.1, (q1.2, kp.2.2.2.2.1.2.1, kp.2.2.2.2.1.2.2), kp.2.2.2.2.2.1, kp.2.2.2.2.2.2) im ol sn sr tp (mW mk mg mt mc T)), 0, 0)
  obtain ⟨w2, hw2, hf⟩ := bnd hf
  refine stp hm 3 (?_ : sxWP sc cl Q 50 (7, [some (.ref 20), some (.ref 6), some (.int (0:Int32))], [], (cW nw (kp.1, kp.2.1, kp.2.2.1, kp.2.2.2.1, (q1.2, kp.2.2.2.2.1.2.1, kp.2.2.2.2.1.2.2), kp.2.2.2.2.2.1, kp.2.2.2.2.2.2) im ol sn sr tp (mW mk mg mt mc T)), 0, 0))
  refine R_copy_l7 hE hm _ _ _ hw2 ?_
  intro w2_z0 w2_z1 w2_z2
  show sxWP sc cl Q 50 (36, [w2_z0, w2_z1, w2_z2], [], (cW nw (kp.1, kp.2.1, kp.2.2.1, kp.2.2.2.1, (w2.1, w2.2.1, w2.2.2), kp.2.2.2.2.2.1, kp.2.2.2.2.2.2) im ol sn sr tp (mW mk mg mt mc T)), 0, 0)
  obtain rfl := Option.some.inj hf
  refine stp hm 1 ?_
  exact h

set_option maxRecDepth 10000 in
theorem R_emptied_5_ok  {q : (Int32 × Int32)} (hc : call = sxE sc (d + 1)) (hf : R_emptied = some q) (h : Q (some (.int q.1)) (cW nw (kp.1, kp.2.1, kp.2.2.1, kp.2.2.2.1, kp.2.2.2.2.1, (q.2, kp.2.2.2.2.2.1.2.1, kp.2.2.2.2.2.1.2.2), kp.2.2.2.2.2.2) im ol sn sr tp (mW mk mg mt mc T))) : call 46 [.ref 23] (cW nw kp im ol sn sr tp (mW mk mg mt mc T)) Q := by
  refine ent hc rfl (fun cl hE hm => ?_)
  unfold R_emptied at hf
  obtain rfl := Option.some.inj hf
  refine stp hm 6 ?_
  exact h

set_option maxRecDepth 10000 in
theorem R_append_5_ok {v1 : Int32} {v2 : Int32} {q : (Int32 × Int32 × (Nat → Int32) × (Nat → Int32))} (hc : call = sxE sc (d + 1)) (hf : R_append_2 v1 v2 kp.2.2.2.2.2.1.1 kp.2.2.2.2.2.1.2.1 kp.2.2.2.2.2.1.2.2 = some q) (h : Q (some (.int q.1)) (cW nw (kp.1, kp.2.1, kp.2.2.1, kp.2.2.2.1, kp.2.2.2.2.1, (q.2.1, q.2.2.1, q.2.2.2), kp.2.2.2.2.2.2) im ol sn sr tp (mW mk mg mt mc T))) : call 47 [.ref 23, .int v1, .int v2] (cW nw kp im ol sn sr tp (mW mk mg mt mc T)) Q := by
  refine ent hc rfl (fun cl hE hm => ?_)
  have J31 : ∀ (kes_j : Int32) (keo_j : (Nat → Int32)) (keq_j : (Nat → Int32)) (z0 : Option Value) (z1 : Option Value) (z2 : Option Value), R_append_2_j31 kes_j keo_j keq_j = some q → sxWP sc cl Q 47 (31, [z0, z1, z2], [], (cW nw (kp.1, kp.2.1, kp.2.2.1, kp.2.2.2.1, kp.2.2.2.2.1, (kes_j, keo_j, keq_j), kp.2.2.2.2.2.2) im ol sn sr tp (mW mk mg mt mc T)), 0, 0) := by
    intro kes_j keo_j keq_j z0 z1 z2 hf
    unfold R_append_2_j31 at hf
    obtain rfl := Option.some.inj hf
    refine stp hm 2 (And.intro (Or.inl rfl) ?_)
    exact h
  unfold R_append_2 at hf
  refine stp hm 3 (br hf (fun c1 hf => ?_) (fun c1 hf => ?_))
  · show sxWP sc cl Q 47 (31, [some (.ref 23), some (.int v1), some (.int v2)], [], (cW nw kp im ol sn sr tp (mW mk mg mt mc T)), 0, 0)
    exact J31 _ _ _ _ _ _ hf
  · show sxWP sc cl Q 47 (7, [some (.ref 23), some (.int v1), some (.int v2)], [], (cW nw kp im ol sn sr tp (mW mk mg mt mc T)), 0, 0)
    refine stp hm 6 (br hf (fun c2 hf => ?_) (fun c2 hf => ?_))
    · show sxWP sc cl Q 47 (31, [some (.ref 23), some (.int v1), some (.int v2)], [], (cW nw kp im ol sn sr tp (mW mk mg mt mc T)), 0, 0)
      exact J31 _ _ _ _ _ _ hf
    · show sxWP sc cl Q 47 (19, [some (.ref 23), some (.int v1), some (.int v2)], [], (cW nw kp im ol sn sr tp (mW mk mg mt mc T)), 0, 0)
      refine stp hm 6 (br hf (fun c3 hf => ?_) (fun c3 hf => ?_))
      · show sxWP sc cl Q 47 (33, [some (.ref 23), some (.int v1), some (.int v2)], [], (cW nw kp im ol sn sr tp (mW mk mg mt mc T)), 0, 0)
        obtain ⟨g4, hf⟩ := grd_e hf
        refine stp hm 6 (And.intro (gi_in g4) (?_ : sxWP sc cl Q 47 (43, [some (.ref 23), some (.int v1), some (.int v2)], [], (cW nw (kp.1, kp.2.1, kp.2.2.1, kp.2.2.2.1, kp.2.2.2.2.1, (kp.2.2.2.2.2.1.1, upd kp.2.2.2.2.2.1.2.1 kp.2.2.2.2.2.1.1.toNatClampNeg v1, kp.2.2.2.2.2.1.2.2), kp.2.2.2.2.2.2) im ol sn sr tp (mW mk mg mt mc T)), 0, 0)))
        obtain ⟨g5, hf⟩ := grd_e hf
        refine stp hm 6 (And.intro (gi_in g5) (?_ : sxWP sc cl Q 47 (53, [some (.ref 23), some (.int v1), some (.int v2)], [], (cW nw (kp.1, kp.2.1, kp.2.2.1, kp.2.2.2.1, kp.2.2.2.2.1, (kp.2.2.2.2.2.1.1, upd kp.2.2.2.2.2.1.2.1 kp.2.2.2.2.2.1.1.toNatClampNeg v1, upd kp.2.2.2.2.2.1.2.2 kp.2.2.2.2.2.1.1.toNatClampNeg v2), kp.2.2.2.2.2.2) im ol sn sr tp (mW mk mg mt mc T)), 0, 0)))
        obtain rfl := Option.some.inj hf
        refine stp hm 8 (And.intro (Or.inr rfl) ?_)
        exact h
      · show sxWP sc cl Q 47 (31, [some (.ref 23), some (.int v1), some (.int v2)], [], (cW nw kp im ol sn sr tp (mW mk mg mt mc T)), 0, 0)
        exact J31 _ _ _ _ _ _ hf

def R_copy_2_s7   (nes : Int32) (neo : (Nat → Int32)) (neq : (Nat → Int32)) (s : (Int32 × Int32 × (Nat → Int32) × (Nat → Int32))) : Option ((Int32 × Int32 × (Nat → Int32) × (Nat → Int32)) ⊕ (Int32 × (Nat → Int32) × (Nat → Int32))) := if nes ≤ s.1 then (some (Sum.inr (s.2.1, s.2.2.1, s.2.2.2))) else (Option.bind (R_one_2 s.1 neo) (fun q2 => Option.bind (R_other_2 s.1 neq) (fun q3 => Option.bind (R_append_2 q2 q3 s.2.1 s.2.2.1 s.2.2.2) (fun q4 => some (Sum.inl (s.1 + (1:Int32), q4.2.1, q4.2.2.1, q4.2.2.2))))))
def R_copy_2  (nes : Int32) (neo : (Nat → Int32)) (neq : (Nat → Int32)) (keo : (Nat → Int32)) (keq : (Nat → Int32)) : Option (Int32 × (Nat → Int32) × (Nat → Int32)) := Option.bind (R_emptied) (fun q1 => Option.bind (wh (R_copy_2_s7 nes neo neq) FU ((0:Int32), q1.2, keo, keq)) (fun w2 => some (w2.1, w2.2.1, w2.2.2)))
set_option maxRecDepth 10000 in
theorem R_copy_2_l7    (hE : cl = sxE sc (d + 1)) (hm : CallMono cl) : ∀ (n : Nat) (s : (Int32 × Int32 × (Nat → Int32) × (Nat → Int32))) (r : (Int32 × (Nat → Int32) × (Nat → Int32))), wh (R_copy_2_s7 nw.2.2.2.2.2.1.1 nw.2.2.2.2.2.1.2.1 nw.2.2.2.2.2.1.2.2) n s = some r → (∀ (z0 z1 z2 : Option Value), sxWP sc cl Q 50 (36, [z0, z1, z2], [], (cW nw (kp.1, kp.2.1, kp.2.2.1, kp.2.2.2.1, kp.2.2.2.2.1, (r.1, r.2.1, r.2.2), kp.2.2.2.2.2.2) im ol sn sr tp (mW mk mg mt mc T)), 0, 0)) → sxWP sc cl Q 50 (7, [some (.ref 23), some (.ref 9), some (.int s.1)], [], (cW nw (kp.1, kp.2.1, kp.2.2.1, kp.2.2.2.1, kp.2.2.2.2.1, (s.2.1, s.2.2.1, s.2.2.2), kp.2.2.2.2.2.2) im ol sn sr tp (mW mk mg mt mc T)), 0, 0) := by
  refine wh_run (A := fun (s : (Int32 × Int32 × (Nat → Int32) × (Nat → Int32))) => sxWP sc cl Q 50 (7, [some (.ref 23), some (.ref 9), some (.int s.1)], [], (cW nw (kp.1, kp.2.1, kp.2.2.1, kp.2.2.2.1, kp.2.2.2.2.1, (s.2.1, s.2.2.1, s.2.2.2), kp.2.2.2.2.2.2) im ol sn sr tp (mW mk mg mt mc T)), 0, 0)) (B := fun (r : (Int32 × (Nat → Int32) × (Nat → Int32))) => ∀ (z0 z1 z2 : Option Value), sxWP sc cl Q 50 (36, [z0, z1, z2], [], (cW nw (kp.1, kp.2.1, kp.2.2.1, kp.2.2.2.1, kp.2.2.2.2.1, (r.1, r.2.1, r.2.2), kp.2.2.2.2.2.2) im ol sn sr tp (mW mk mg mt mc T)), 0, 0)) (fun s x hf hA hB => ?_)
  unfold R_copy_2_s7 at hf
  refine stp hm 4 (br hf (fun c1 hf => ?_) (fun c1 hf => ?_))
  · show sxWP sc cl Q 50 (36, [some (.ref 23), some (.ref 9), some (.int s.1)], [], (cW nw (kp.1, kp.2.1, kp.2.2.1, kp.2.2.2.1, kp.2.2.2.2.1, (s.2.1, s.2.2.1, s.2.2.2), kp.2.2.2.2.2.2) im ol sn sr tp (mW mk mg mt mc T)), 0, 0)
    obtain rfl := Option.some.inj hf
    exact hB _ rfl _ _ _
  · show sxWP sc cl Q 50 (15, [some (.ref 23), some (.ref 9), some (.int s.1)], [], (cW nw (kp.1, kp.2.1, kp.2.2.1, kp.2.2.2.1, kp.2.2.2.2.1, (s.2.1, s.2.2.1, s.2.2.2), kp.2.2.2.2.2.2) im ol sn sr tp (mW mk mg mt mc T)), 0, 0)
    obtain ⟨q2, hq2, hf⟩ := bnd hf
    refine stp hm 4 (R_one_2_ok hE hq2 ?_)
    show sxWP sc cl Q 50 (21, [some (.ref 23), some (.ref 9), some (.int s.1)], [.int q2, .ref 23], (cW nw (kp.1, kp.2.1, kp.2.2.1, kp.2.2.2.1, kp.2.2.2.2.1, (s.2.1, s.2.2.1, s.2.2.2), kp.2.2.2.2.2.2) im ol sn sr tp (mW mk mg mt mc T)), 0, 0)
    obtain ⟨q3, hq3, hf⟩ := bnd hf
    refine stp hm 3 (R_other_2_ok hE hq3 ?_)
    show sxWP sc cl Q 50 (26, [some (.ref 23), some (.ref 9), some (.int s.1)], [.int q3, .int q2, .ref 23], (cW nw (kp.1, kp.2.1, kp.2.2.1, kp.2.2.2.1, kp.2.2.2.2.1, (s.2.1, s.2.2.1, s.2.2.2), kp.2.2.2.2.2.2) im ol sn sr tp (mW mk mg mt mc T)), 0, 0)
    obtain ⟨q4, hq4, hf⟩ := bnd hf
    refine stp hm 1 (R_append_5_ok hE hq4 ?_)
    show sxWP sc cl Q 50 (29, [some (.ref 23), some (.ref 9), some (.int s.1)], [.int q4.1], (cW nw (kp.1, kp.2.1, kp.2.2.1, kp.2.2.2.1, kp.2.2.2.2.1, (q4.2.1, q4.2.2.1, q4.2.2.2), kp.2.2.2.2.2.2) im ol sn sr tp (mW mk mg mt mc T)), 0, 0)
    obtain rfl := Option.some.inj hf
    refine stp hm 3 (?_ : sxWP sc cl Q 50 (7, [some (.ref 23), some (.ref 9), some (.int (s.1 + (1:Int32)))], [], (cW nw (kp.1, kp.2.1, kp.2.2.1, kp.2.2.2.1, kp.2.2.2.2.1, (q4.2.1, q4.2.2.1, q4.2.2.2), kp.2.2.2.2.2.2) im ol sn sr tp (mW mk mg mt mc T)), 0, 0))
    exact hA _ rfl
set_option maxRecDepth 10000 in
theorem R_copy_2_ok  {q : (Int32 × (Nat → Int32) × (Nat → Int32))} (hc : call = sxE sc (d + 2)) (hf : R_copy_2 nw.2.2.2.2.2.1.1 nw.2.2.2.2.2.1.2.1 nw.2.2.2.2.2.1.2.2 kp.2.2.2.2.2.1.2.1 kp.2.2.2.2.2.1.2.2 = some q) (h : Q none (cW nw (kp.1, kp.2.1, kp.2.2.1, kp.2.2.2.1, kp.2.2.2.2.1, (q.1, q.2.1, q.2.2), kp.2.2.2.2.2.2) im ol sn sr tp (mW mk mg mt mc T))) : call 50 [.ref 23, .ref 9] (cW nw kp im ol sn sr tp (mW mk mg mt mc T)) Q := by
  refine ent hc rfl (fun cl hE hm => ?_)
  unfold R_copy_2 at hf
  obtain ⟨q1, hq1, hf⟩ := bnd hf
  refine stp hm 2 (R_emptied_5_ok hE hq1 ?_)
  show sxWP sc cl Q 50 (4, [some (.ref 23), some (.ref 9), none], [.int q1.1], (cW nw (kp.1, kp.2.1, kp.2.2.1, kp.2.2.2.1, kp.2.2.2.2.1, (q1.2, kp.2.2.2.2.2.1.2.1, kp.2.2.2.2.2.1.2.2), kp.2.2.2.2.2.2) im ol sn sr tp (mW mk mg mt mc T)), 0, 0)
  obtain ⟨w2, hw2, hf⟩ := bnd hf
  refine stp hm 3 (?_ : sxWP sc cl Q 50 (7, [some (.ref 23), some (.ref 9), some (.int (0:Int32))], [], (cW nw (kp.1, kp.2.1, kp.2.2.1, kp.2.2.2.1, kp.2.2.2.2.1, (q1.2, kp.2.2.2.2.2.1.2.1, kp.2.2.2.2.2.1.2.2), kp.2.2.2.2.2.2) im ol sn sr tp (mW mk mg mt mc T)), 0, 0))
  refine R_copy_2_l7 hE hm _ _ _ hw2 ?_
  intro w2_z0 w2_z1 w2_z2
  show sxWP sc cl Q 50 (36, [w2_z0, w2_z1, w2_z2], [], (cW nw (kp.1, kp.2.1, kp.2.2.1, kp.2.2.2.1, kp.2.2.2.2.1, (w2.1, w2.2.1, w2.2.2), kp.2.2.2.2.2.2) im ol sn sr tp (mW mk mg mt mc T)), 0, 0)
  obtain rfl := Option.some.inj hf
  refine stp hm 1 ?_
  exact h

set_option maxRecDepth 10000 in
theorem R_emptied_6_ok  {q : (Int32 × Int32)} (hc : call = sxE sc (d + 1)) (hf : R_emptied = some q) (h : Q (some (.int q.1)) (cW nw (kp.1, kp.2.1, kp.2.2.1, kp.2.2.2.1, kp.2.2.2.2.1, kp.2.2.2.2.2.1, (q.2, kp.2.2.2.2.2.2.2.1, kp.2.2.2.2.2.2.2.2)) im ol sn sr tp (mW mk mg mt mc T))) : call 46 [.ref 26] (cW nw kp im ol sn sr tp (mW mk mg mt mc T)) Q := by
  refine ent hc rfl (fun cl hE hm => ?_)
  unfold R_emptied at hf
  obtain rfl := Option.some.inj hf
  refine stp hm 6 ?_
  exact h

set_option maxRecDepth 10000 in
theorem R_append_6_ok {v1 : Int32} {v2 : Int32} {q : (Int32 × Int32 × (Nat → Int32) × (Nat → Int32))} (hc : call = sxE sc (d + 1)) (hf : R_append_2 v1 v2 kp.2.2.2.2.2.2.1 kp.2.2.2.2.2.2.2.1 kp.2.2.2.2.2.2.2.2 = some q) (h : Q (some (.int q.1)) (cW nw (kp.1, kp.2.1, kp.2.2.1, kp.2.2.2.1, kp.2.2.2.2.1, kp.2.2.2.2.2.1, (q.2.1, q.2.2.1, q.2.2.2)) im ol sn sr tp (mW mk mg mt mc T))) : call 47 [.ref 26, .int v1, .int v2] (cW nw kp im ol sn sr tp (mW mk mg mt mc T)) Q := by
  refine ent hc rfl (fun cl hE hm => ?_)
  have J31 : ∀ (kgs_j : Int32) (kgo_j : (Nat → Int32)) (kgq_j : (Nat → Int32)) (z0 : Option Value) (z1 : Option Value) (z2 : Option Value), R_append_2_j31 kgs_j kgo_j kgq_j = some q → sxWP sc cl Q 47 (31, [z0, z1, z2], [], (cW nw (kp.1, kp.2.1, kp.2.2.1, kp.2.2.2.1, kp.2.2.2.2.1, kp.2.2.2.2.2.1, (kgs_j, kgo_j, kgq_j)) im ol sn sr tp (mW mk mg mt mc T)), 0, 0) := by
    intro kgs_j kgo_j kgq_j z0 z1 z2 hf
    unfold R_append_2_j31 at hf
    obtain rfl := Option.some.inj hf
    refine stp hm 2 (And.intro (Or.inl rfl) ?_)
    exact h
  unfold R_append_2 at hf
  refine stp hm 3 (br hf (fun c1 hf => ?_) (fun c1 hf => ?_))
  · show sxWP sc cl Q 47 (31, [some (.ref 26), some (.int v1), some (.int v2)], [], (cW nw kp im ol sn sr tp (mW mk mg mt mc T)), 0, 0)
    exact J31 _ _ _ _ _ _ hf
  · show sxWP sc cl Q 47 (7, [some (.ref 26), some (.int v1), some (.int v2)], [], (cW nw kp im ol sn sr tp (mW mk mg mt mc T)), 0, 0)
    refine stp hm 6 (br hf (fun c2 hf => ?_) (fun c2 hf => ?_))
    · show sxWP sc cl Q 47 (31, [some (.ref 26), some (.int v1), some (.int v2)], [], (cW nw kp im ol sn sr tp (mW mk mg mt mc T)), 0, 0)
      exact J31 _ _ _ _ _ _ hf
    · show sxWP sc cl Q 47 (19, [some (.ref 26), some (.int v1), some (.int v2)], [], (cW nw kp im ol sn sr tp (mW mk mg mt mc T)), 0, 0)
      refine stp hm 6 (br hf (fun c3 hf => ?_) (fun c3 hf => ?_))
      · show sxWP sc cl Q 47 (33, [some (.ref 26), some (.int v1), some (.int v2)], [], (cW nw kp im ol sn sr tp (mW mk mg mt mc T)), 0, 0)
        obtain ⟨g4, hf⟩ := grd_e hf
        refine stp hm 6 (And.intro (gi_in g4) (?_ : sxWP sc cl Q 47 (43, [some (.ref 26), some (.int v1), some (.int v2)], [], (cW nw (kp.1, kp.2.1, kp.2.2.1, kp.2.2.2.1, kp.2.2.2.2.1, kp.2.2.2.2.2.1, (kp.2.2.2.2.2.2.1, upd kp.2.2.2.2.2.2.2.1 kp.2.2.2.2.2.2.1.toNatClampNeg v1, kp.2.2.2.2.2.2.2.2)) im ol sn sr tp (mW mk mg mt mc T)), 0, 0)))
        obtain ⟨g5, hf⟩ := grd_e hf
        refine stp hm 6 (And.intro (gi_in g5) (?_ : sxWP sc cl Q 47 (53, [some (.ref 26), some (.int v1), some (.int v2)], [], (cW nw (kp.1, kp.2.1, kp.2.2.1, kp.2.2.2.1, kp.2.2.2.2.1, kp.2.2.2.2.2.1, (kp.2.2.2.2.2.2.1, upd kp.2.2.2.2.2.2.2.1 kp.2.2.2.2.2.2.1.toNatClampNeg v1, upd kp.2.2.2.2.2.2.2.2 kp.2.2.2.2.2.2.1.toNatClampNeg v2)) im ol sn sr tp (mW mk mg mt mc T)), 0, 0)))
        obtain rfl := Option.some.inj hf
        refine stp hm 8 (And.intro (Or.inr rfl) ?_)
        exact h
      · show sxWP sc cl Q 47 (31, [some (.ref 26), some (.int v1), some (.int v2)], [], (cW nw kp im ol sn sr tp (mW mk mg mt mc T)), 0, 0)
        exact J31 _ _ _ _ _ _ hf

set_option maxRecDepth 10000 in
theorem R_copy_3_l7    (hE : cl = sxE sc (d + 1)) (hm : CallMono cl) : ∀ (n : Nat) (s : (Int32 × Int32 × (Nat → Int32) × (Nat → Int32))) (r : (Int32 × (Nat → Int32) × (Nat → Int32))), wh (R_copy_2_s7 nw.2.2.2.2.2.2.1 nw.2.2.2.2.2.2.2.1 nw.2.2.2.2.2.2.2.2) n s = some r → (∀ (z0 z1 z2 : Option Value), sxWP sc cl Q 50 (36, [z0, z1, z2], [], (cW nw (kp.1, kp.2.1, kp.2.2.1, kp.2.2.2.1, kp.2.2.2.2.1, kp.2.2.2.2.2.1, (r.1, r.2.1, r.2.2)) im ol sn sr tp (mW mk mg mt mc T)), 0, 0)) → sxWP sc cl Q 50 (7, [some (.ref 26), some (.ref 12), some (.int s.1)], [], (cW nw (kp.1, kp.2.1, kp.2.2.1, kp.2.2.2.1, kp.2.2.2.2.1, kp.2.2.2.2.2.1, (s.2.1, s.2.2.1, s.2.2.2)) im ol sn sr tp (mW mk mg mt mc T)), 0, 0) := by
  refine wh_run (A := fun (s : (Int32 × Int32 × (Nat → Int32) × (Nat → Int32))) => sxWP sc cl Q 50 (7, [some (.ref 26), some (.ref 12), some (.int s.1)], [], (cW nw (kp.1, kp.2.1, kp.2.2.1, kp.2.2.2.1, kp.2.2.2.2.1, kp.2.2.2.2.2.1, (s.2.1, s.2.2.1, s.2.2.2)) im ol sn sr tp (mW mk mg mt mc T)), 0, 0)) (B := fun (r : (Int32 × (Nat → Int32) × (Nat → Int32))) => ∀ (z0 z1 z2 : Option Value), sxWP sc cl Q 50 (36, [z0, z1, z2], [], (cW nw (kp.1, kp.2.1, kp.2.2.1, kp.2.2.2.1, kp.2.2.2.2.1, kp.2.2.2.2.2.1, (r.1, r.2.1, r.2.2)) im ol sn sr tp (mW mk mg mt mc T)), 0, 0)) (fun s x hf hA hB => ?_)
  unfold R_copy_2_s7 at hf
  refine stp hm 4 (br hf (fun c1 hf => ?_) (fun c1 hf => ?_))
  · show sxWP sc cl Q 50 (36, [some (.ref 26), some (.ref 12), some (.int s.1)], [], (cW nw (kp.1, kp.2.1, kp.2.2.1, kp.2.2.2.1, kp.2.2.2.2.1, kp.2.2.2.2.2.1, (s.2.1, s.2.2.1, s.2.2.2)) im ol sn sr tp (mW mk mg mt mc T)), 0, 0)
    obtain rfl := Option.some.inj hf
    exact hB _ rfl _ _ _
  · show sxWP sc cl Q 50 (15, [some (.ref 26), some (.ref 12), some (.int s.1)], [], (cW nw (kp.1, kp.2.1, kp.2.2.1, kp.2.2.2.1, kp.2.2.2.2.1, kp.2.2.2.2.2.1, (s.2.1, s.2.2.1, s.2.2.2)) im ol sn sr tp (mW mk mg mt mc T)), 0, 0)
    obtain ⟨q2, hq2, hf⟩ := bnd hf
    refine stp hm 4 (R_one_3_ok hE hq2 ?_)
    show sxWP sc cl Q 50 (21, [some (.ref 26), some (.ref 12), some (.int s.1)], [.int q2, .ref 26], (cW nw (kp.1, kp.2.1, kp.2.2.1, kp.2.2.2.1, kp.2.2.2.2.1, kp.2.2.2.2.2.1, (s.2.1, s.2.2.1, s.2.2.2)) im ol sn sr tp (mW mk mg mt mc T)), 0, 0)
    obtain ⟨q3, hq3, hf⟩ := bnd hf
    refine stp hm 3 (R_other_3_ok hE hq3 ?_)
    show sxWP sc cl Q 50 (26, [some (.ref 26), some (.ref 12), some (.int s.1)], [.int q3, .int q2, .ref 26], (cW nw (kp.1, kp.2.1, kp.2.2.1, kp.2.2.2.1, kp.2.2.2.2.1, kp.2.2.2.2.2.1, (s.2.1, s.2.2.1, s.2.2.2)) im ol sn sr tp (mW mk mg mt mc T)), 0, 0)
    obtain ⟨q4, hq4, hf⟩ := bnd hf
    refine stp hm 1 (R_append_6_ok hE hq4 ?_)
    show sxWP sc cl Q 50 (29, [some (.ref 26), some (.ref 12), some (.int s.1)], [.int q4.1], (cW nw (kp.1, kp.2.1, kp.2.2.1, kp.2.2.2.1, kp.2.2.2.2.1, kp.2.2.2.2.2.1, (q4.2.1, q4.2.2.1, q4.2.2.2)) im ol sn sr tp (mW mk mg mt mc T)), 0, 0)
    obtain rfl := Option.some.inj hf
    refine stp hm 3 (?_ : sxWP sc cl Q 50 (7, [some (.ref 26), some (.ref 12), some (.int (s.1 + (1:Int32)))], [], (cW nw (kp.1, kp.2.1, kp.2.2.1, kp.2.2.2.1, kp.2.2.2.2.1, kp.2.2.2.2.2.1, (q4.2.1, q4.2.2.1, q4.2.2.2)) im ol sn sr tp (mW mk mg mt mc T)), 0, 0))
    exact hA _ rfl
set_option maxRecDepth 10000 in
theorem R_copy_3_ok  {q : (Int32 × (Nat → Int32) × (Nat → Int32))} (hc : call = sxE sc (d + 2)) (hf : R_copy_2 nw.2.2.2.2.2.2.1 nw.2.2.2.2.2.2.2.1 nw.2.2.2.2.2.2.2.2 kp.2.2.2.2.2.2.2.1 kp.2.2.2.2.2.2.2.2 = some q) (h : Q none (cW nw (kp.1, kp.2.1, kp.2.2.1, kp.2.2.2.1, kp.2.2.2.2.1, kp.2.2.2.2.2.1, (q.1, q.2.1, q.2.2)) im ol sn sr tp (mW mk mg mt mc T))) : call 50 [.ref 26, .ref 12] (cW nw kp im ol sn sr tp (mW mk mg mt mc T)) Q := by
  refine ent hc rfl (fun cl hE hm => ?_)
  unfold R_copy_2 at hf
  obtain ⟨q1, hq1, hf⟩ := bnd hf
  refine stp hm 2 (R_emptied_6_ok hE hq1 ?_)
  show sxWP sc cl Q 50 (4, [some (.ref 26), some (.ref 12), none], [.int q1.1], (cW nw (kp.1, kp.2.1, kp.2.2.1, kp.2.2.2.1, kp.2.2.2.2.1, kp.2.2.2.2.2.1, (q1.2, kp.2.2.2.2.2.2.2.1, kp.2.2.2.2.2.2.2.2)) im ol sn sr tp (mW mk mg mt mc T)), 0, 0)
  obtain ⟨w2, hw2, hf⟩ := bnd hf
  refine stp hm 3 (?_ : sxWP sc cl Q 50 (7, [some (.ref 26), some (.ref 12), some (.int (0:Int32))], [], (cW nw (kp.1, kp.2.1, kp.2.2.1, kp.2.2.2.1, kp.2.2.2.2.1, kp.2.2.2.2.2.1, (q1.2, kp.2.2.2.2.2.2.2.1, kp.2.2.2.2.2.2.2.2)) im ol sn sr tp (mW mk mg mt mc T)), 0, 0))
  refine R_copy_3_l7 hE hm _ _ _ hw2 ?_
  intro w2_z0 w2_z1 w2_z2
  show sxWP sc cl Q 50 (36, [w2_z0, w2_z1, w2_z2], [], (cW nw (kp.1, kp.2.1, kp.2.2.1, kp.2.2.2.1, kp.2.2.2.2.1, kp.2.2.2.2.2.1, (w2.1, w2.2.1, w2.2.2)) im ol sn sr tp (mW mk mg mt mc T)), 0, 0)
  obtain rfl := Option.some.inj hf
  refine stp hm 1 ?_
  exact h

def S_copy  (nrg : Int64) (nld : Int32) (nmt : (Nat → Int32)) (nps : Int32) (npl : Int32) (npw : (Nat → Int32)) (nss : Int32) (nso : (Nat → Int32)) (nsq : (Nat → Int32)) (nes : Int32) (neo : (Nat → Int32)) (neq : (Nat → Int32)) (ngs : Int32) (ngo : (Nat → Int32)) (ngq : (Nat → Int32)) (kmt : (Nat → Int32)) (kpw : (Nat → Int32)) (kso : (Nat → Int32)) (ksq : (Nat → Int32)) (keo : (Nat → Int32)) (keq : (Nat → Int32)) (kgo : (Nat → Int32)) (kgq : (Nat → Int32)) : Option (Int64 × Int32 × (Nat → Int32) × Int32 × Int32 × (Nat → Int32) × Int32 × (Nat → Int32) × (Nat → Int32) × Int32 × (Nat → Int32) × (Nat → Int32) × Int32 × (Nat → Int32) × (Nat → Int32)) := grd (zb nld) (Option.bind (P_copy nps npl npw kpw) (fun q2 => Option.bind (R_copy nss nso nsq kso ksq) (fun q3 => Option.bind (R_copy_2 nes neo neq keo keq) (fun q4 => Option.bind (R_copy_2 ngs ngo ngq kgo kgq) (fun q5 => some (nrg, nld, va_cpy nmt kmt (0:Int32).toNatClampNeg (0:Int32).toNatClampNeg (36:Int32).toNatClampNeg, q2.1, q2.2.1, q2.2.2, q3.1, q3.2.1, q3.2.2, q4.1, q4.2.1, q4.2.2, q5.1, q5.2.1, q5.2.2))))))
set_option maxRecDepth 10000 in
theorem S_copy_ok  {q : (Int64 × Int32 × (Nat → Int32) × Int32 × Int32 × (Nat → Int32) × Int32 × (Nat → Int32) × (Nat → Int32) × Int32 × (Nat → Int32) × (Nat → Int32) × Int32 × (Nat → Int32) × (Nat → Int32))} (hc : call = sxE sc (d + 3)) (hf : S_copy nw.1 nw.2.1 nw.2.2.1 nw.2.2.2.1.1 nw.2.2.2.1.2.1 nw.2.2.2.1.2.2.1 nw.2.2.2.2.1.1 nw.2.2.2.2.1.2.1 nw.2.2.2.2.1.2.2 nw.2.2.2.2.2.1.1 nw.2.2.2.2.2.1.2.1 nw.2.2.2.2.2.1.2.2 nw.2.2.2.2.2.2.1 nw.2.2.2.2.2.2.2.1 nw.2.2.2.2.2.2.2.2 kp.2.2.1 kp.2.2.2.1.2.2.1 kp.2.2.2.2.1.2.1 kp.2.2.2.2.1.2.2 kp.2.2.2.2.2.1.2.1 kp.2.2.2.2.2.1.2.2 kp.2.2.2.2.2.2.2.1 kp.2.2.2.2.2.2.2.2 = some q) (h : Q none (cW nw (q.1, q.2.1, q.2.2.1, (q.2.2.2.1, q.2.2.2.2.1, q.2.2.2.2.2.1, kp.2.2.2.1.2.2.2), (q.2.2.2.2.2.2.1, q.2.2.2.2.2.2.2.1, q.2.2.2.2.2.2.2.2.1), (q.2.2.2.2.2.2.2.2.2.1, q.2.2.2.2.2.2.2.2.2.2.1, q.2.2.2.2.2.2.2.2.2.2.2.1), (q.2.2.2.2.2.2.2.2.2.2.2.2.1, q.2.2.2.2.2.2.2.2.2.2.2.2.2.1, q.2.2.2.2.2.2.2.2.2.2.2.2.2.2)) im ol sn sr tp (mW mk mg mt mc T))) : call 63 [.ref 15, .ref 1] (cW nw kp im ol sn sr tp (mW mk mg mt mc T)) Q := by
  refine ent hc rfl (fun cl hE hm => ?_)
  unfold S_copy at hf
  obtain ⟨g1, hf⟩ := grd_e hf
  refine stp hm 8 (And.intro (zb_e g1) (?_ : sxWP sc cl Q 63 (16, [some (.ref 15), some (.ref 1)], [], (cW nw (nw.1, nw.2.1, kp.2.2.1, kp.2.2.2.1, kp.2.2.2.2.1, kp.2.2.2.2.2.1, kp.2.2.2.2.2.2) im ol sn sr tp (mW mk mg mt mc T)), 0, 0)))
  refine stp hm 8 (And.intro (by decide) (?_ : sxWP sc cl Q 63 (31, [some (.ref 15), some (.ref 1)], [], (cW nw (nw.1, nw.2.1, va_cpy nw.2.2.1 kp.2.2.1 (0:Int32).toNatClampNeg (0:Int32).toNatClampNeg (36:Int32).toNatClampNeg, kp.2.2.2.1, kp.2.2.2.2.1, kp.2.2.2.2.2.1, kp.2.2.2.2.2.2) im ol sn sr tp (mW mk mg mt mc T)), 0, 0)))
  obtain ⟨q2, hq2, hf⟩ := bnd hf
  refine stp hm 5 (P_copy_ok hE hq2 ?_)
  show sxWP sc cl Q 63 (42, [some (.ref 15), some (.ref 1)], [], (cW nw (nw.1, nw.2.1, va_cpy nw.2.2.1 kp.2.2.1 (0:Int32).toNatClampNeg (0:Int32).toNatClampNeg (36:Int32).toNatClampNeg, (q2.1, q2.2.1, q2.2.2, kp.2.2.2.1.2.2.2), kp.2.2.2.2.1, kp.2.2.2.2.2.1, kp.2.2.2.2.2.2) im ol sn sr tp (mW mk mg mt mc T)), 0, 0)
  obtain ⟨q3, hq3, hf⟩ := bnd hf
  refine stp hm 5 (R_copy_ok hE hq3 ?_)
  show sxWP sc cl Q 63 (53, [some (.ref 15), some (.ref 1)], [], (cW nw (nw.1, nw.2.1, va_cpy nw.2.2.1 kp.2.2.1 (0:Int32).toNatClampNeg (0:Int32).toNatClampNeg (36:Int32).toNatClampNeg, (q2.1, q2.2.1, q2.2.2, kp.2.2.2.1.2.2.2), (q3.1, q3.2.1, q3.2.2), kp.2.2.2.2.2.1, kp.2.2.2.2.2.2) im ol sn sr tp (mW mk mg mt mc T)), 0, 0)
  obtain ⟨q4, hq4, hf⟩ := bnd hf
  refine stp hm 5 (R_copy_2_ok hE hq4 ?_)
  show sxWP sc cl Q 63 (64, [some (.ref 15), some (.ref 1)], [], (cW nw (nw.1, nw.2.1, va_cpy nw.2.2.1 kp.2.2.1 (0:Int32).toNatClampNeg (0:Int32).toNatClampNeg (36:Int32).toNatClampNeg, (q2.1, q2.2.1, q2.2.2, kp.2.2.2.1.2.2.2), (q3.1, q3.2.1, q3.2.2), (q4.1, q4.2.1, q4.2.2), kp.2.2.2.2.2.2) im ol sn sr tp (mW mk mg mt mc T)), 0, 0)
  obtain ⟨q5, hq5, hf⟩ := bnd hf
  refine stp hm 5 (R_copy_3_ok hE hq5 ?_)
  show sxWP sc cl Q 63 (75, [some (.ref 15), some (.ref 1)], [], (cW nw (nw.1, nw.2.1, va_cpy nw.2.2.1 kp.2.2.1 (0:Int32).toNatClampNeg (0:Int32).toNatClampNeg (36:Int32).toNatClampNeg, (q2.1, q2.2.1, q2.2.2, kp.2.2.2.1.2.2.2), (q3.1, q3.2.1, q3.2.2), (q4.1, q4.2.1, q4.2.2), (q5.1, q5.2.1, q5.2.2)) im ol sn sr tp (mW mk mg mt mc T)), 0, 0)
  obtain rfl := Option.some.inj hf
  refine stp hm 1 ?_
  exact h

def X_image  (nrg : Int64) (nld : Int32) (nmt : (Nat → Int32)) (nps : Int32) (npl : Int32) (npw : (Nat → Int32)) (nss : Int32) (nso : (Nat → Int32)) (nsq : (Nat → Int32)) (nes : Int32) (neo : (Nat → Int32)) (neq : (Nat → Int32)) (ngs : Int32) (ngo : (Nat → Int32)) (ngq : (Nat → Int32)) (kmt : (Nat → Int32)) (kpw : (Nat → Int32)) (kso : (Nat → Int32)) (ksq : (Nat → Int32)) (keo : (Nat → Int32)) (keq : (Nat → Int32)) (kgo : (Nat → Int32)) (kgq : (Nat → Int32)) : Option (Int32 × Int32 × Int64 × Int32 × (Nat → Int32) × Int32 × Int32 × (Nat → Int32) × Int32 × (Nat → Int32) × (Nat → Int32) × Int32 × (Nat → Int32) × (Nat → Int32) × Int32 × (Nat → Int32) × (Nat → Int32)) := Option.bind (S_copy nrg nld nmt nps npl npw nss nso nsq nes neo neq ngs ngo ngq kmt kpw kso ksq keo keq kgo kgq) (fun q1 => some (J_Long_bitCount nrg, (1:Int32), q1.1, q1.2.1, q1.2.2.1, q1.2.2.2.1, q1.2.2.2.2.1, q1.2.2.2.2.2.1, q1.2.2.2.2.2.2.1, q1.2.2.2.2.2.2.2.1, q1.2.2.2.2.2.2.2.2.1, q1.2.2.2.2.2.2.2.2.2.1, q1.2.2.2.2.2.2.2.2.2.2.1, q1.2.2.2.2.2.2.2.2.2.2.2.1, q1.2.2.2.2.2.2.2.2.2.2.2.2.1, q1.2.2.2.2.2.2.2.2.2.2.2.2.2.1, q1.2.2.2.2.2.2.2.2.2.2.2.2.2.2))
set_option maxRecDepth 10000 in
theorem X_image_ok  {q : (Int32 × Int32 × Int64 × Int32 × (Nat → Int32) × Int32 × Int32 × (Nat → Int32) × Int32 × (Nat → Int32) × (Nat → Int32) × Int32 × (Nat → Int32) × (Nat → Int32) × Int32 × (Nat → Int32) × (Nat → Int32))} (hc : call = sxE sc (d + 4)) (hf : X_image nw.1 nw.2.1 nw.2.2.1 nw.2.2.2.1.1 nw.2.2.2.1.2.1 nw.2.2.2.1.2.2.1 nw.2.2.2.2.1.1 nw.2.2.2.2.1.2.1 nw.2.2.2.2.1.2.2 nw.2.2.2.2.2.1.1 nw.2.2.2.2.2.1.2.1 nw.2.2.2.2.2.1.2.2 nw.2.2.2.2.2.2.1 nw.2.2.2.2.2.2.2.1 nw.2.2.2.2.2.2.2.2 kp.2.2.1 kp.2.2.2.1.2.2.1 kp.2.2.2.2.1.2.1 kp.2.2.2.2.1.2.2 kp.2.2.2.2.2.1.2.1 kp.2.2.2.2.2.1.2.2 kp.2.2.2.2.2.2.2.1 kp.2.2.2.2.2.2.2.2 = some q) (h : Q (some (.int q.1)) (cW nw (q.2.2.1, q.2.2.2.1, q.2.2.2.2.1, (q.2.2.2.2.2.1, q.2.2.2.2.2.2.1, q.2.2.2.2.2.2.2.1, kp.2.2.2.1.2.2.2), (q.2.2.2.2.2.2.2.2.1, q.2.2.2.2.2.2.2.2.2.1, q.2.2.2.2.2.2.2.2.2.2.1), (q.2.2.2.2.2.2.2.2.2.2.2.1, q.2.2.2.2.2.2.2.2.2.2.2.2.1, q.2.2.2.2.2.2.2.2.2.2.2.2.2.1), (q.2.2.2.2.2.2.2.2.2.2.2.2.2.2.1, q.2.2.2.2.2.2.2.2.2.2.2.2.2.2.2.1, q.2.2.2.2.2.2.2.2.2.2.2.2.2.2.2.2)) q.2.1 ol sn sr tp (mW mk mg mt mc T))) : call 128 [.ref 0] (cW nw kp im ol sn sr tp (mW mk mg mt mc T)) Q := by
  refine ent hc rfl (fun cl hE hm => ?_)
  unfold X_image at hf
  obtain ⟨q1, hq1, hf⟩ := bnd hf
  refine stp hm 5 (S_copy_ok hE hq1 ?_)
  show sxWP sc cl Q 128 (11, [some (.ref 0)], [], (cW nw (q1.1, q1.2.1, q1.2.2.1, (q1.2.2.2.1, q1.2.2.2.2.1, q1.2.2.2.2.2.1, kp.2.2.2.1.2.2.2), (q1.2.2.2.2.2.2.1, q1.2.2.2.2.2.2.2.1, q1.2.2.2.2.2.2.2.2.1), (q1.2.2.2.2.2.2.2.2.2.1, q1.2.2.2.2.2.2.2.2.2.2.1, q1.2.2.2.2.2.2.2.2.2.2.2.1), (q1.2.2.2.2.2.2.2.2.2.2.2.2.1, q1.2.2.2.2.2.2.2.2.2.2.2.2.2.1, q1.2.2.2.2.2.2.2.2.2.2.2.2.2.2)) im ol sn sr tp (mW mk mg mt mc T)), 0, 0)
  refine stp hm 3 (And.intro (Or.inr rfl) (?_ : sxWP sc cl Q 128 (16, [some (.ref 0)], [], (cW nw (q1.1, q1.2.1, q1.2.2.1, (q1.2.2.2.1, q1.2.2.2.2.1, q1.2.2.2.2.2.1, kp.2.2.2.1.2.2.2), (q1.2.2.2.2.2.2.1, q1.2.2.2.2.2.2.2.1, q1.2.2.2.2.2.2.2.2.1), (q1.2.2.2.2.2.2.2.2.2.1, q1.2.2.2.2.2.2.2.2.2.2.1, q1.2.2.2.2.2.2.2.2.2.2.2.1), (q1.2.2.2.2.2.2.2.2.2.2.2.2.1, q1.2.2.2.2.2.2.2.2.2.2.2.2.2.1, q1.2.2.2.2.2.2.2.2.2.2.2.2.2.2)) (1:Int32) ol sn sr tp (mW mk mg mt mc T)), 0, 0)))
  refine stp hm 4 (J_Long_bitCount_ok hE rfl ?_)
  show sxWP sc cl Q 128 (26, [some (.ref 0)], [.int (J_Long_bitCount nw.1)], (cW nw (q1.1, q1.2.1, q1.2.2.1, (q1.2.2.2.1, q1.2.2.2.2.1, q1.2.2.2.2.2.1, kp.2.2.2.1.2.2.2), (q1.2.2.2.2.2.2.1, q1.2.2.2.2.2.2.2.1, q1.2.2.2.2.2.2.2.2.1), (q1.2.2.2.2.2.2.2.2.2.1, q1.2.2.2.2.2.2.2.2.2.2.1, q1.2.2.2.2.2.2.2.2.2.2.2.1), (q1.2.2.2.2.2.2.2.2.2.2.2.2.1, q1.2.2.2.2.2.2.2.2.2.2.2.2.2.1, q1.2.2.2.2.2.2.2.2.2.2.2.2.2.2)) (1:Int32) ol sn sr tp (mW mk mg mt mc T)), 0, 0)
  obtain rfl := Option.some.inj hf
  refine stp hm 1 ?_
  exact h

def M_copies_s2   (ms : (Nat → Int32)) (s : (Int32 × (Nat → Int32))) : Option ((Int32 × (Nat → Int32)) ⊕ (Nat → Int32)) := if (122:Int32) ≤ s.1 then (some (Sum.inr s.2)) else (grd (gi s.1 122) (grd (gi s.1 122) (some (Sum.inl (s.1 + (1:Int32), upd s.2 s.1.toNatClampNeg (ms s.1.toNatClampNeg))))))
def M_copies  (ms : (Nat → Int32)) (mkp : (Nat → Int32)) : Option (Nat → Int32) := Option.bind (wh (M_copies_s2 ms) FU ((0:Int32), mkp)) (fun w1 => some w1)
set_option maxRecDepth 10000 in
theorem M_copies_l2    (hE : cl = sxE sc (d + 0)) (hm : CallMono cl) : ∀ (n : Nat) (s : (Int32 × (Nat → Int32))) (r : (Nat → Int32)), wh (M_copies_s2 mk.2.2.1) n s = some r → (∀ (z0 z1 z2 : Option Value), sxWP sc cl Q 233 (20, [z0, z1, z2], [], (cW nw kp im ol sn sr tp (mW (mk.1, mk.2.1, mk.2.2.1, r, mk.2.2.2.2.1, mk.2.2.2.2.2.1, mk.2.2.2.2.2.2.1, mk.2.2.2.2.2.2.2.1, mk.2.2.2.2.2.2.2.2.1, mk.2.2.2.2.2.2.2.2.2) mg mt mc T)), 0, 0)) → sxWP sc cl Q 233 (2, [some (.ref 60), some (.ref 61), some (.int s.1)], [], (cW nw kp im ol sn sr tp (mW (mk.1, mk.2.1, mk.2.2.1, s.2, mk.2.2.2.2.1, mk.2.2.2.2.2.1, mk.2.2.2.2.2.2.1, mk.2.2.2.2.2.2.2.1, mk.2.2.2.2.2.2.2.2.1, mk.2.2.2.2.2.2.2.2.2) mg mt mc T)), 0, 0) := by
  refine wh_run (A := fun (s : (Int32 × (Nat → Int32))) => sxWP sc cl Q 233 (2, [some (.ref 60), some (.ref 61), some (.int s.1)], [], (cW nw kp im ol sn sr tp (mW (mk.1, mk.2.1, mk.2.2.1, s.2, mk.2.2.2.2.1, mk.2.2.2.2.2.1, mk.2.2.2.2.2.2.1, mk.2.2.2.2.2.2.2.1, mk.2.2.2.2.2.2.2.2.1, mk.2.2.2.2.2.2.2.2.2) mg mt mc T)), 0, 0)) (B := fun (r : (Nat → Int32)) => ∀ (z0 z1 z2 : Option Value), sxWP sc cl Q 233 (20, [z0, z1, z2], [], (cW nw kp im ol sn sr tp (mW (mk.1, mk.2.1, mk.2.2.1, r, mk.2.2.2.2.1, mk.2.2.2.2.2.1, mk.2.2.2.2.2.2.1, mk.2.2.2.2.2.2.2.1, mk.2.2.2.2.2.2.2.2.1, mk.2.2.2.2.2.2.2.2.2) mg mt mc T)), 0, 0)) (fun s x hf hA hB => ?_)
  unfold M_copies_s2 at hf
  refine stp hm 3 (br hf (fun c1 hf => ?_) (fun c1 hf => ?_))
  · show sxWP sc cl Q 233 (20, [some (.ref 60), some (.ref 61), some (.int s.1)], [], (cW nw kp im ol sn sr tp (mW (mk.1, mk.2.1, mk.2.2.1, s.2, mk.2.2.2.2.1, mk.2.2.2.2.2.1, mk.2.2.2.2.2.2.1, mk.2.2.2.2.2.2.2.1, mk.2.2.2.2.2.2.2.2.1, mk.2.2.2.2.2.2.2.2.2) mg mt mc T)), 0, 0)
    obtain rfl := Option.some.inj hf
    exact hB _ rfl _ _ _
  · show sxWP sc cl Q 233 (8, [some (.ref 60), some (.ref 61), some (.int s.1)], [], (cW nw kp im ol sn sr tp (mW (mk.1, mk.2.1, mk.2.2.1, s.2, mk.2.2.2.2.1, mk.2.2.2.2.2.1, mk.2.2.2.2.2.2.1, mk.2.2.2.2.2.2.2.1, mk.2.2.2.2.2.2.2.2.1, mk.2.2.2.2.2.2.2.2.2) mg mt mc T)), 0, 0)
    obtain ⟨g2, hf⟩ := grd_e hf
    refine stp hm 5 (And.intro (gi_in g2) (?_ : sxWP sc cl Q 233 (13, [some (.ref 60), some (.ref 61), some (.int s.1)], [.int (mk.2.2.1 s.1.toNatClampNeg), .int s.1, .ref 61], (cW nw kp im ol sn sr tp (mW (mk.1, mk.2.1, mk.2.2.1, s.2, mk.2.2.2.2.1, mk.2.2.2.2.2.1, mk.2.2.2.2.2.2.1, mk.2.2.2.2.2.2.2.1, mk.2.2.2.2.2.2.2.2.1, mk.2.2.2.2.2.2.2.2.2) mg mt mc T)), 0, 0)))
    obtain ⟨g3, hf⟩ := grd_e hf
    refine stp hm 1 (And.intro (gi_in g3) (?_ : sxWP sc cl Q 233 (14, [some (.ref 60), some (.ref 61), some (.int s.1)], [], (cW nw kp im ol sn sr tp (mW (mk.1, mk.2.1, mk.2.2.1, upd s.2 s.1.toNatClampNeg (mk.2.2.1 s.1.toNatClampNeg), mk.2.2.2.2.1, mk.2.2.2.2.2.1, mk.2.2.2.2.2.2.1, mk.2.2.2.2.2.2.2.1, mk.2.2.2.2.2.2.2.2.1, mk.2.2.2.2.2.2.2.2.2) mg mt mc T)), 0, 0)))
    obtain rfl := Option.some.inj hf
    refine stp hm 2 (?_ : sxWP sc cl Q 233 (2, [some (.ref 60), some (.ref 61), some (.int (s.1 + (1:Int32)))], [], (cW nw kp im ol sn sr tp (mW (mk.1, mk.2.1, mk.2.2.1, upd s.2 s.1.toNatClampNeg (mk.2.2.1 s.1.toNatClampNeg), mk.2.2.2.2.1, mk.2.2.2.2.2.1, mk.2.2.2.2.2.2.1, mk.2.2.2.2.2.2.2.1, mk.2.2.2.2.2.2.2.2.1, mk.2.2.2.2.2.2.2.2.2) mg mt mc T)), 0, 0))
    exact hA _ rfl
set_option maxRecDepth 10000 in
theorem M_copies_ok  {q : (Nat → Int32)} (hc : call = sxE sc (d + 1)) (hf : M_copies mk.2.2.1 mk.2.2.2.1 = some q) (h : Q none (cW nw kp im ol sn sr tp (mW (mk.1, mk.2.1, mk.2.2.1, q, mk.2.2.2.2.1, mk.2.2.2.2.2.1, mk.2.2.2.2.2.2.1, mk.2.2.2.2.2.2.2.1, mk.2.2.2.2.2.2.2.2.1, mk.2.2.2.2.2.2.2.2.2) mg mt mc T))) : call 233 [.ref 60, .ref 61] (cW nw kp im ol sn sr tp (mW mk mg mt mc T)) Q := by
  refine ent hc rfl (fun cl hE hm => ?_)
  unfold M_copies at hf
  obtain ⟨w1, hw1, hf⟩ := bnd hf
  refine stp hm 2 (?_ : sxWP sc cl Q 233 (2, [some (.ref 60), some (.ref 61), some (.int (0:Int32))], [], (cW nw kp im ol sn sr tp (mW mk mg mt mc T)), 0, 0))
  refine M_copies_l2 hE hm _ _ _ hw1 ?_
  intro w1_z0 w1_z1 w1_z2
  show sxWP sc cl Q 233 (20, [w1_z0, w1_z1, w1_z2], [], (cW nw kp im ol sn sr tp (mW (mk.1, mk.2.1, mk.2.2.1, w1, mk.2.2.2.2.1, mk.2.2.2.2.2.1, mk.2.2.2.2.2.2.1, mk.2.2.2.2.2.2.2.1, mk.2.2.2.2.2.2.2.2.1, mk.2.2.2.2.2.2.2.2.2) mg mt mc T)), 0, 0)
  obtain rfl := Option.some.inj hf
  refine stp hm 1 ?_
  exact h

def M_image  (mrg : Int64) (ms : (Nat → Int32)) (mkp : (Nat → Int32)) : Option (Int32 × Int64 × Int32 × (Nat → Int32)) := Option.bind (M_copies ms mkp) (fun q1 => Option.bind (M_cells mrg) (fun q2 => some (q2, mrg, (1:Int32), q1)))
set_option maxRecDepth 10000 in
theorem M_image_ok  {q : (Int32 × Int64 × Int32 × (Nat → Int32))} (hc : call = sxE sc (d + 3)) (hf : M_image mk.1 mk.2.2.1 mk.2.2.2.1 = some q) (h : Q (some (.int q.1)) (cW nw kp im ol sn sr tp (mW (mk.1, q.2.1, mk.2.2.1, q.2.2.2, q.2.2.1, mk.2.2.2.2.2.1, mk.2.2.2.2.2.2.1, mk.2.2.2.2.2.2.2.1, mk.2.2.2.2.2.2.2.2.1, mk.2.2.2.2.2.2.2.2.2) mg mt mc T))) : call 234 [.ref 59] (cW nw kp im ol sn sr tp (mW mk mg mt mc T)) Q := by
  refine ent hc rfl (fun cl hE hm => ?_)
  unfold M_image at hf
  obtain ⟨q1, hq1, hf⟩ := bnd hf
  refine stp hm 5 (M_copies_ok hE hq1 ?_)
  show sxWP sc cl Q 234 (11, [some (.ref 59)], [], (cW nw kp im ol sn sr tp (mW (mk.1, mk.2.1, mk.2.2.1, q1, mk.2.2.2.2.1, mk.2.2.2.2.2.1, mk.2.2.2.2.2.2.1, mk.2.2.2.2.2.2.2.1, mk.2.2.2.2.2.2.2.2.1, mk.2.2.2.2.2.2.2.2.2) mg mt mc T)), 0, 0)
  refine stp hm 7 (And.intro (Or.inr rfl) (?_ : sxWP sc cl Q 234 (24, [some (.ref 59)], [], (cW nw kp im ol sn sr tp (mW (mk.1, mk.1, mk.2.2.1, q1, (1:Int32), mk.2.2.2.2.2.1, mk.2.2.2.2.2.2.1, mk.2.2.2.2.2.2.2.1, mk.2.2.2.2.2.2.2.2.1, mk.2.2.2.2.2.2.2.2.2) mg mt mc T)), 0, 0)))
  obtain ⟨q2, hq2, hf⟩ := bnd hf
  refine stp hm 2 (M_cells_ok hE hq2 ?_)
  show sxWP sc cl Q 234 (28, [some (.ref 59)], [.int q2], (cW nw kp im ol sn sr tp (mW (mk.1, mk.1, mk.2.2.1, q1, (1:Int32), mk.2.2.2.2.2.1, mk.2.2.2.2.2.2.1, mk.2.2.2.2.2.2.2.1, mk.2.2.2.2.2.2.2.2.1, mk.2.2.2.2.2.2.2.2.2) mg mt mc T)), 0, 0)
  obtain rfl := Option.some.inj hf
  refine stp hm 1 ?_
  exact h

def P_copy_2  (npw : (Nat → Int32)) (kps : Int32) (kpl : Int32) (kpw : (Nat → Int32)) : Option (Int32 × Int32 × (Nat → Int32)) := some (kps, kpl, va_cpy kpw npw (0:Int32).toNatClampNeg (0:Int32).toNatClampNeg (40:Int32).toNatClampNeg)
set_option maxRecDepth 10000 in
theorem P_copy_2_ok  {q : (Int32 × Int32 × (Nat → Int32))} (hc : call = sxE sc (d + 1)) (hf : P_copy_2 nw.2.2.2.1.2.2.1 kp.2.2.2.1.1 kp.2.2.2.1.2.1 kp.2.2.2.1.2.2.1 = some q) (h : Q none (cW (nw.1, nw.2.1, nw.2.2.1, (q.1, q.2.1, q.2.2, nw.2.2.2.1.2.2.2), nw.2.2.2.2.1, nw.2.2.2.2.2.1, nw.2.2.2.2.2.2) kp im ol sn sr tp (mW mk mg mt mc T))) : call 38 [.ref 3, .ref 17] (cW nw kp im ol sn sr tp (mW mk mg mt mc T)) Q := by
  refine ent hc rfl (fun cl hE hm => ?_)
  unfold P_copy_2 at hf
  refine stp hm 16 (And.intro (by decide) (?_ : sxWP sc cl Q 38 (31, [some (.ref 3), some (.ref 17)], [], (cW (nw.1, nw.2.1, nw.2.2.1, (kp.2.2.2.1.1, kp.2.2.2.1.2.1, va_cpy kp.2.2.2.1.2.2.1 nw.2.2.2.1.2.2.1 (0:Int32).toNatClampNeg (0:Int32).toNatClampNeg (40:Int32).toNatClampNeg, nw.2.2.2.1.2.2.2), nw.2.2.2.2.1, nw.2.2.2.2.2.1, nw.2.2.2.2.2.2) kp im ol sn sr tp (mW mk mg mt mc T)), 0, 0)))
  obtain rfl := Option.some.inj hf
  refine stp hm 1 ?_
  exact h

set_option maxRecDepth 10000 in
theorem R_one_4_ok {v1 : Int32} {q : Int32} (hc : call = sxE sc (d + 1)) (hf : R_one v1 kp.2.2.2.2.1.2.1 = some q) (h : Q (some (.int q)) (cW nw kp im ol sn sr tp (mW mk mg mt mc T))) : call 48 [.ref 20, .int v1] (cW nw kp im ol sn sr tp (mW mk mg mt mc T)) Q := by
  refine ent hc rfl (fun cl hE hm => ?_)
  have J23 : ∀ (k0 : Int32) (z0 : Option Value) (z1 : Option Value), R_one_j23 k0 = some q → sxWP sc cl Q 48 (23, [z0, z1], [.int k0], (cW nw kp im ol sn sr tp (mW mk mg mt mc T)), 0, 0) := by
    intro k0 z0 z1 hf
    unfold R_one_j23 at hf
    obtain rfl := Option.some.inj hf
    refine stp hm 1 ?_
    exact h
  have J22 : ∀  (z0 : Option Value) (z1 : Option Value), R_one_j22 = some q → sxWP sc cl Q 48 (22, [z0, z1], [], (cW nw kp im ol sn sr tp (mW mk mg mt mc T)), 0, 0) := by
    intro z0 z1 hf
    unfold R_one_j22 at hf
    refine stp hm 1 (?_ : sxWP sc cl Q 48 (23, [z0, z1], [.int (0:Int32)], (cW nw kp im ol sn sr tp (mW mk mg mt mc T)), 0, 0))
    exact J23 _ _ _ hf
  unfold R_one at hf
  refine stp hm 2 (br hf (fun c1 hf => ?_) (fun c1 hf => ?_))
  · show sxWP sc cl Q 48 (22, [some (.ref 20), some (.int v1)], [], (cW nw kp im ol sn sr tp (mW mk mg mt mc T)), 0, 0)
    exact J22 _ _ hf
  · show sxWP sc cl Q 48 (4, [some (.ref 20), some (.int v1)], [], (cW nw kp im ol sn sr tp (mW mk mg mt mc T)), 0, 0)
    refine stp hm 5 (br hf (fun c2 hf => ?_) (fun c2 hf => ?_))
    · show sxWP sc cl Q 48 (22, [some (.ref 20), some (.int v1)], [], (cW nw kp im ol sn sr tp (mW mk mg mt mc T)), 0, 0)
      exact J22 _ _ hf
    · show sxWP sc cl Q 48 (13, [some (.ref 20), some (.int v1)], [], (cW nw kp im ol sn sr tp (mW mk mg mt mc T)), 0, 0)
      obtain ⟨g3, hf⟩ := grd_e hf
      refine stp hm 4 (And.intro (gi_in g3) (?_ : sxWP sc cl Q 48 (19, [some (.ref 20), some (.int v1)], [.int (kp.2.2.2.2.1.2.1 v1.toNatClampNeg)], (cW nw kp im ol sn sr tp (mW mk mg mt mc T)), 0, 0)))
      refine stp hm 1 (?_ : sxWP sc cl Q 48 (23, [some (.ref 20), some (.int v1)], [.int (kp.2.2.2.2.1.2.1 v1.toNatClampNeg)], (cW nw kp im ol sn sr tp (mW mk mg mt mc T)), 0, 0))
      exact J23 _ _ _ hf

set_option maxRecDepth 10000 in
theorem R_other_4_ok {v1 : Int32} {q : Int32} (hc : call = sxE sc (d + 1)) (hf : R_other v1 kp.2.2.2.2.1.2.2 = some q) (h : Q (some (.int q)) (cW nw kp im ol sn sr tp (mW mk mg mt mc T))) : call 49 [.ref 20, .int v1] (cW nw kp im ol sn sr tp (mW mk mg mt mc T)) Q := by
  refine ent hc rfl (fun cl hE hm => ?_)
  have J23 : ∀ (k0 : Int32) (z0 : Option Value) (z1 : Option Value), R_other_j23 k0 = some q → sxWP sc cl Q 49 (23, [z0, z1], [.int k0], (cW nw kp im ol sn sr tp (mW mk mg mt mc T)), 0, 0) := by
    intro k0 z0 z1 hf
    unfold R_other_j23 at hf
    obtain rfl := Option.some.inj hf
    refine stp hm 1 ?_
    exact h
  have J22 : ∀  (z0 : Option Value) (z1 : Option Value), R_other_j22 = some q → sxWP sc cl Q 49 (22, [z0, z1], [], (cW nw kp im ol sn sr tp (mW mk mg mt mc T)), 0, 0) := by
    intro z0 z1 hf
    unfold R_other_j22 at hf
    refine stp hm 1 (?_ : sxWP sc cl Q 49 (23, [z0, z1], [.int (0:Int32)], (cW nw kp im ol sn sr tp (mW mk mg mt mc T)), 0, 0))
    exact J23 _ _ _ hf
  unfold R_other at hf
  refine stp hm 2 (br hf (fun c1 hf => ?_) (fun c1 hf => ?_))
  · show sxWP sc cl Q 49 (22, [some (.ref 20), some (.int v1)], [], (cW nw kp im ol sn sr tp (mW mk mg mt mc T)), 0, 0)
    exact J22 _ _ hf
  · show sxWP sc cl Q 49 (4, [some (.ref 20), some (.int v1)], [], (cW nw kp im ol sn sr tp (mW mk mg mt mc T)), 0, 0)
    refine stp hm 5 (br hf (fun c2 hf => ?_) (fun c2 hf => ?_))
    · show sxWP sc cl Q 49 (22, [some (.ref 20), some (.int v1)], [], (cW nw kp im ol sn sr tp (mW mk mg mt mc T)), 0, 0)
      exact J22 _ _ hf
    · show sxWP sc cl Q 49 (13, [some (.ref 20), some (.int v1)], [], (cW nw kp im ol sn sr tp (mW mk mg mt mc T)), 0, 0)
      obtain ⟨g3, hf⟩ := grd_e hf
      refine stp hm 4 (And.intro (gi_in g3) (?_ : sxWP sc cl Q 49 (19, [some (.ref 20), some (.int v1)], [.int (kp.2.2.2.2.1.2.2 v1.toNatClampNeg)], (cW nw kp im ol sn sr tp (mW mk mg mt mc T)), 0, 0)))
      refine stp hm 1 (?_ : sxWP sc cl Q 49 (23, [some (.ref 20), some (.int v1)], [.int (kp.2.2.2.2.1.2.2 v1.toNatClampNeg)], (cW nw kp im ol sn sr tp (mW mk mg mt mc T)), 0, 0))
      exact J23 _ _ _ hf
end PT
