/-! methods as functions (printed by wip/whole/dec) -/
section PT
variable {sc : sxS} {d : Nat} {Q : sxR} {hp : sxH} {call cl : sxX} {nw kp : tSt} {im : Int32} {ol : tOl} {sn : tSn} {sr : tSc} {tp : Nat → tTp} {mk : tMk} {mg : tMg} {mt : tMt} {mc : tMc} {T : sxH}

def M_height_j124  (k0 : Int32) (gle_j : Int32) (gsu_j : Int32) (gma_j : (Nat → Int32)) (gpi_j : (Nat → Int32)) (gst_j : (Nat → Int32)) (ghe_j : (Nat → Int32)) (gow_j : (Nat → Int32)) (gfa_j : (Nat → Int32)) (gqu_j : (Nat → Int32)) (glo_j : (Nat → Int32)) (ghi_j : (Nat → Int32)) (gby_j : (Nat → Int32)) (gib_j : (Nat → Int32)) : Option (Int32 × Int32 × Int32 × (Nat → Int32) × (Nat → Int32) × (Nat → Int32) × (Nat → Int32) × (Nat → Int32) × (Nat → Int32) × (Nat → Int32) × (Nat → Int32) × (Nat → Int32) × (Nat → Int32) × (Nat → Int32)) := some (k0 + (1000:Int32), gle_j, gsu_j, gma_j, gpi_j, gst_j, ghe_j, gow_j, gfa_j, gqu_j, glo_j, ghi_j, gby_j, gib_j)
def M_height_j88  (v1 : Int32) (v2 : Int32) (gle_j : Int32) (gsu_j : Int32) (gma_j : (Nat → Int32)) (gpi_j : (Nat → Int32)) (gst_j : (Nat → Int32)) (ghe_j : (Nat → Int32)) (gow_j : (Nat → Int32)) (gfa_j : (Nat → Int32)) (gqu_j : (Nat → Int32)) (glo_j : (Nat → Int32)) (ghi_j : (Nat → Int32)) (gby_j : (Nat → Int32)) (gib_j : (Nat → Int32)) (mrg : Int64) (ms : (Nat → Int32)) : Option (Int32 × Int32 × Int32 × (Nat → Int32) × (Nat → Int32) × (Nat → Int32) × (Nat → Int32) × (Nat → Int32) × (Nat → Int32) × (Nat → Int32) × (Nat → Int32) × (Nat → Int32) × (Nat → Int32) × (Nat → Int32)) := if (M_isOf v1 mrg) = (0:Int32) then (some ((-5:Int32), gle_j, gsu_j, gma_j, gpi_j, gst_j, ghe_j, gow_j, gfa_j, gqu_j, glo_j, ghi_j, gby_j, gib_j)) else (if (3:Int32) ≤ v2 then (Option.bind (M_rank mrg gle_j gsu_j ms gma_j gpi_j gst_j ghe_j gow_j gfa_j gqu_j glo_j ghi_j gby_j gib_j) (fun q3 => grd (gi v1 49) (some ((q3.2.2.2.2.2.2.2.2.2.2.2.2.1 v1.toNatClampNeg) + (1000:Int32), q3.2.1, q3.2.2.1, q3.2.2.2.1, q3.2.2.2.2.1, q3.2.2.2.2.2.1, q3.2.2.2.2.2.2.1, q3.2.2.2.2.2.2.2.1, q3.2.2.2.2.2.2.2.2.1, q3.2.2.2.2.2.2.2.2.2.1, q3.2.2.2.2.2.2.2.2.2.2.1, q3.2.2.2.2.2.2.2.2.2.2.2.1, q3.2.2.2.2.2.2.2.2.2.2.2.2.1, q3.2.2.2.2.2.2.2.2.2.2.2.2.2)))) else (if v2 = (1:Int32) then (grd (gi v1 49) (M_height_j124 (glo_j v1.toNatClampNeg) gle_j gsu_j gma_j gpi_j gst_j ghe_j gow_j gfa_j gqu_j glo_j ghi_j gby_j gib_j)) else (grd (gi v1 49) (M_height_j124 (ghi_j v1.toNatClampNeg) gle_j gsu_j gma_j gpi_j gst_j ghe_j gow_j gfa_j gqu_j glo_j ghi_j gby_j gib_j))))
def M_height_j85  (gle_j : Int32) (gsu_j : Int32) (gma_j : (Nat → Int32)) (gpi_j : (Nat → Int32)) (gst_j : (Nat → Int32)) (ghe_j : (Nat → Int32)) (gow_j : (Nat → Int32)) (gfa_j : (Nat → Int32)) (gqu_j : (Nat → Int32)) (glo_j : (Nat → Int32)) (ghi_j : (Nat → Int32)) (gby_j : (Nat → Int32)) (gib_j : (Nat → Int32)) : Option (Int32 × Int32 × Int32 × (Nat → Int32) × (Nat → Int32) × (Nat → Int32) × (Nat → Int32) × (Nat → Int32) × (Nat → Int32) × (Nat → Int32) × (Nat → Int32) × (Nat → Int32) × (Nat → Int32) × (Nat → Int32)) := some ((-3:Int32), gle_j, gsu_j, gma_j, gpi_j, gst_j, ghe_j, gow_j, gfa_j, gqu_j, glo_j, ghi_j, gby_j, gib_j)
def M_height_j60  (k0 : Int32) (gle_j : Int32) (gsu_j : Int32) (gma_j : (Nat → Int32)) (gpi_j : (Nat → Int32)) (gst_j : (Nat → Int32)) (ghe_j : (Nat → Int32)) (gow_j : (Nat → Int32)) (gfa_j : (Nat → Int32)) (gqu_j : (Nat → Int32)) (glo_j : (Nat → Int32)) (ghi_j : (Nat → Int32)) (gby_j : (Nat → Int32)) (gib_j : (Nat → Int32)) : Option (Int32 × Int32 × Int32 × (Nat → Int32) × (Nat → Int32) × (Nat → Int32) × (Nat → Int32) × (Nat → Int32) × (Nat → Int32) × (Nat → Int32) × (Nat → Int32) × (Nat → Int32) × (Nat → Int32) × (Nat → Int32)) := some (k0, gle_j, gsu_j, gma_j, gpi_j, gst_j, ghe_j, gow_j, gfa_j, gqu_j, glo_j, ghi_j, gby_j, gib_j)
def M_height_j16  (gle_j : Int32) (gsu_j : Int32) (gma_j : (Nat → Int32)) (gpi_j : (Nat → Int32)) (gst_j : (Nat → Int32)) (ghe_j : (Nat → Int32)) (gow_j : (Nat → Int32)) (gfa_j : (Nat → Int32)) (gqu_j : (Nat → Int32)) (glo_j : (Nat → Int32)) (ghi_j : (Nat → Int32)) (gby_j : (Nat → Int32)) (gib_j : (Nat → Int32)) : Option (Int32 × Int32 × Int32 × (Nat → Int32) × (Nat → Int32) × (Nat → Int32) × (Nat → Int32) × (Nat → Int32) × (Nat → Int32) × (Nat → Int32) × (Nat → Int32) × (Nat → Int32) × (Nat → Int32) × (Nat → Int32)) := some ((-1:Int32), gle_j, gsu_j, gma_j, gpi_j, gst_j, ghe_j, gow_j, gfa_j, gqu_j, glo_j, ghi_j, gby_j, gib_j)
def M_height (v1 : Int32) (v2 : Int32) (mrg : Int64) (gle : Int32) (gsu : Int32) (ms : (Nat → Int32)) (gma : (Nat → Int32)) (gpi : (Nat → Int32)) (gst : (Nat → Int32)) (ghe : (Nat → Int32)) (gow : (Nat → Int32)) (gfa : (Nat → Int32)) (gqu : (Nat → Int32)) (glo : (Nat → Int32)) (ghi : (Nat → Int32)) (gby : (Nat → Int32)) (gib : (Nat → Int32)) : Option (Int32 × Int32 × Int32 × (Nat → Int32) × (Nat → Int32) × (Nat → Int32) × (Nat → Int32) × (Nat → Int32) × (Nat → Int32) × (Nat → Int32) × (Nat → Int32) × (Nat → Int32) × (Nat → Int32) × (Nat → Int32)) := if (M_isVertex v1) = (0:Int32) then (M_height_j16 gle gsu gma gpi gst ghe gow gfa gqu glo ghi gby gib) else (if (M_isIn v2 (0:Int32) (3:Int32)) = (0:Int32) then (M_height_j16 gle gsu gma gpi gst ghe gow gfa gqu glo ghi gby gib) else (if v2 = (0:Int32) then (Option.bind (M_wordTold (1:Int32) mrg gle gsu gma gpi gst ghe gow) (fun q16 => if q16.1 = (1000:Int32) then (grd (gi v1 49) (if (q16.2.2.2.2.2.2.2 v1.toNatClampNeg) = (0:Int32) then (M_height_j60 (-5:Int32) q16.2.1 q16.2.2.1 q16.2.2.2.1 q16.2.2.2.2.1 q16.2.2.2.2.2.1 q16.2.2.2.2.2.2.1 q16.2.2.2.2.2.2.2 gfa gqu glo ghi gby gib) else (grd (gi v1 49) (M_height_j60 ((q16.2.2.2.2.2.2.1 v1.toNatClampNeg) + (1000:Int32)) q16.2.1 q16.2.2.1 q16.2.2.2.1 q16.2.2.2.2.1 q16.2.2.2.2.2.1 q16.2.2.2.2.2.2.1 q16.2.2.2.2.2.2.2 gfa gqu glo ghi gby gib)))) else (some ((-3:Int32), q16.2.1, q16.2.2.1, q16.2.2.2.1, q16.2.2.2.2.1, q16.2.2.2.2.2.1, q16.2.2.2.2.2.2.1, q16.2.2.2.2.2.2.2, gfa, gqu, glo, ghi, gby, gib)))) else (if v2 = (3:Int32) then (grd (gi (0:Int32) 122) (if (ms (0:Int32).toNatClampNeg) = (0:Int32) then (M_height_j85 gle gsu gma gpi gst ghe gow gfa gqu glo ghi gby gib) else (M_height_j88 v1 v2 gle gsu gma gpi gst ghe gow gfa gqu glo ghi gby gib mrg ms))) else (Option.bind (M_isTilable mrg gle gsu gma gpi gst ghe gow gfa gqu glo ghi) (fun q12 => if q12.1 = (0:Int32) then (M_height_j85 q12.2.1 q12.2.2.1 q12.2.2.2.1 q12.2.2.2.2.1 q12.2.2.2.2.2.1 q12.2.2.2.2.2.2.1 q12.2.2.2.2.2.2.2.1 q12.2.2.2.2.2.2.2.2.1 q12.2.2.2.2.2.2.2.2.2.1 q12.2.2.2.2.2.2.2.2.2.2.1 q12.2.2.2.2.2.2.2.2.2.2.2 gby gib) else (M_height_j88 v1 v2 q12.2.1 q12.2.2.1 q12.2.2.2.1 q12.2.2.2.2.1 q12.2.2.2.2.2.1 q12.2.2.2.2.2.2.1 q12.2.2.2.2.2.2.2.1 q12.2.2.2.2.2.2.2.2.1 q12.2.2.2.2.2.2.2.2.2.1 q12.2.2.2.2.2.2.2.2.2.2.1 q12.2.2.2.2.2.2.2.2.2.2.2 gby gib mrg ms))))))
set_option maxRecDepth 10000 in
theorem M_height_ok {v1 : Int32} {v2 : Int32} {q : (Int32 × Int32 × Int32 × (Nat → Int32) × (Nat → Int32) × (Nat → Int32) × (Nat → Int32) × (Nat → Int32) × (Nat → Int32) × (Nat → Int32) × (Nat → Int32) × (Nat → Int32) × (Nat → Int32) × (Nat → Int32))} (hc : call = sxE sc (d + 8)) (hf : M_height v1 v2 mk.1 mg.2.2.1 mg.2.2.2.1 mk.2.2.1 mg.1 mg.2.1 mg.2.2.2.2.1 mg.2.2.2.2.2.1 mg.2.2.2.2.2.2.1 mg.2.2.2.2.2.2.2.1 mg.2.2.2.2.2.2.2.2.1 mg.2.2.2.2.2.2.2.2.2.1 mg.2.2.2.2.2.2.2.2.2.2.1 mg.2.2.2.2.2.2.2.2.2.2.2.1 mg.2.2.2.2.2.2.2.2.2.2.2.2 = some q) (h : Q (some (.int q.1)) (cW nw kp im ol sn sr tp (mW mk (q.2.2.2.1, q.2.2.2.2.1, q.2.1, q.2.2.1, q.2.2.2.2.2.1, q.2.2.2.2.2.2.1, q.2.2.2.2.2.2.2.1, q.2.2.2.2.2.2.2.2.1, q.2.2.2.2.2.2.2.2.2.1, q.2.2.2.2.2.2.2.2.2.2.1, q.2.2.2.2.2.2.2.2.2.2.2.1, q.2.2.2.2.2.2.2.2.2.2.2.2.1, q.2.2.2.2.2.2.2.2.2.2.2.2.2) mt mc T))) : call 204 [.ref 59, .int v1, .int v2] (cW nw kp im ol sn sr tp (mW mk mg mt mc T)) Q := by
  refine ent hc rfl (fun cl hE hm => ?_)
  have J124 : ∀ (k0 : Int32) (gle_j : Int32) (gsu_j : Int32) (gma_j : (Nat → Int32)) (gpi_j : (Nat → Int32)) (gst_j : (Nat → Int32)) (ghe_j : (Nat → Int32)) (gow_j : (Nat → Int32)) (gfa_j : (Nat → Int32)) (gqu_j : (Nat → Int32)) (glo_j : (Nat → Int32)) (ghi_j : (Nat → Int32)) (gby_j : (Nat → Int32)) (gib_j : (Nat → Int32)) (z0 : Option Value) (z1 : Option Value) (z2 : Option Value), M_height_j124 k0 gle_j gsu_j gma_j gpi_j gst_j ghe_j gow_j gfa_j gqu_j glo_j ghi_j gby_j gib_j = some q → sxWP sc cl Q 204 (124, [z0, z1, z2], [.int k0], (cW nw kp im ol sn sr tp (mW mk (gma_j, gpi_j, gle_j, gsu_j, gst_j, ghe_j, gow_j, gfa_j, gqu_j, glo_j, ghi_j, gby_j, gib_j) mt mc T)), 0, 0) := by
    intro k0 gle_j gsu_j gma_j gpi_j gst_j ghe_j gow_j gfa_j gqu_j glo_j ghi_j gby_j gib_j z0 z1 z2 hf
    unfold M_height_j124 at hf
    obtain rfl := Option.some.inj hf
    refine stp hm 3 ?_
    exact h
  have J88 : ∀ (v1 : Int32) (v2 : Int32) (gle_j : Int32) (gsu_j : Int32) (gma_j : (Nat → Int32)) (gpi_j : (Nat → Int32)) (gst_j : (Nat → Int32)) (ghe_j : (Nat → Int32)) (gow_j : (Nat → Int32)) (gfa_j : (Nat → Int32)) (gqu_j : (Nat → Int32)) (glo_j : (Nat → Int32)) (ghi_j : (Nat → Int32)) (gby_j : (Nat → Int32)) (gib_j : (Nat → Int32)), M_height_j88 v1 v2 gle_j gsu_j gma_j gpi_j gst_j ghe_j gow_j gfa_j gqu_j glo_j ghi_j gby_j gib_j mk.1 mk.2.2.1 = some q → sxWP sc cl Q 204 (88, [some (.ref 59), some (.int v1), some (.int v2)], [], (cW nw kp im ol sn sr tp (mW mk (gma_j, gpi_j, gle_j, gsu_j, gst_j, ghe_j, gow_j, gfa_j, gqu_j, glo_j, ghi_j, gby_j, gib_j) mt mc T)), 0, 0) := by
    intro v1 v2 gle_j gsu_j gma_j gpi_j gst_j ghe_j gow_j gfa_j gqu_j glo_j ghi_j gby_j gib_j hf
    unfold M_height_j88 at hf
    refine stp hm 3 (M_isOf_ok hE rfl ?_)
    show sxWP sc cl Q 204 (93, [some (.ref 59), some (.int v1), some (.int v2)], [.int (M_isOf v1 mk.1)], (cW nw kp im ol sn sr tp (mW mk (gma_j, gpi_j, gle_j, gsu_j, gst_j, ghe_j, gow_j, gfa_j, gqu_j, glo_j, ghi_j, gby_j, gib_j) mt mc T)), 0, 0)
    refine stp hm 1 (brn hf (fun c1 hf => ?_) (fun c1 hf => ?_))
    · show sxWP sc cl Q 204 (99, [some (.ref 59), some (.int v1), some (.int v2)], [], (cW nw kp im ol sn sr tp (mW mk (gma_j, gpi_j, gle_j, gsu_j, gst_j, ghe_j, gow_j, gfa_j, gqu_j, glo_j, ghi_j, gby_j, gib_j) mt mc T)), 0, 0)
      refine stp hm 3 (br hf (fun c2 hf => ?_) (fun c2 hf => ?_))
      · show sxWP sc cl Q 204 (129, [some (.ref 59), some (.int v1), some (.int v2)], [], (cW nw kp im ol sn sr tp (mW mk (gma_j, gpi_j, gle_j, gsu_j, gst_j, ghe_j, gow_j, gfa_j, gqu_j, glo_j, ghi_j, gby_j, gib_j) mt mc T)), 0, 0)
        obtain ⟨q3, hq3, hf⟩ := bnd hf
        refine stp hm 2 (M_rank_ok hE hq3 ?_)
        show sxWP sc cl Q 204 (133, [some (.ref 59), some (.int v1), some (.int v2)], [.int q3.1], (cW nw kp im ol sn sr tp (mW mk (q3.2.2.2.1, q3.2.2.2.2.1, q3.2.1, q3.2.2.1, q3.2.2.2.2.2.1, q3.2.2.2.2.2.2.1, q3.2.2.2.2.2.2.2.1, q3.2.2.2.2.2.2.2.2.1, q3.2.2.2.2.2.2.2.2.2.1, q3.2.2.2.2.2.2.2.2.2.2.1, q3.2.2.2.2.2.2.2.2.2.2.2.1, q3.2.2.2.2.2.2.2.2.2.2.2.2.1, q3.2.2.2.2.2.2.2.2.2.2.2.2.2) mt mc T)), 0, 0)
        obtain ⟨g4, hf⟩ := grd_e hf
        refine stp hm 5 (And.intro (gi_in g4) (?_ : sxWP sc cl Q 204 (140, [some (.ref 59), some (.int v1), some (.int v2)], [.int (q3.2.2.2.2.2.2.2.2.2.2.2.2.1 v1.toNatClampNeg)], (cW nw kp im ol sn sr tp (mW mk (q3.2.2.2.1, q3.2.2.2.2.1, q3.2.1, q3.2.2.1, q3.2.2.2.2.2.1, q3.2.2.2.2.2.2.1, q3.2.2.2.2.2.2.2.1, q3.2.2.2.2.2.2.2.2.1, q3.2.2.2.2.2.2.2.2.2.1, q3.2.2.2.2.2.2.2.2.2.2.1, q3.2.2.2.2.2.2.2.2.2.2.2.1, q3.2.2.2.2.2.2.2.2.2.2.2.2.1, q3.2.2.2.2.2.2.2.2.2.2.2.2.2) mt mc T)), 0, 0)))
        obtain rfl := Option.some.inj hf
        refine stp hm 3 ?_
        exact h
      · show sxWP sc cl Q 204 (104, [some (.ref 59), some (.int v1), some (.int v2)], [], (cW nw kp im ol sn sr tp (mW mk (gma_j, gpi_j, gle_j, gsu_j, gst_j, ghe_j, gow_j, gfa_j, gqu_j, glo_j, ghi_j, gby_j, gib_j) mt mc T)), 0, 0)
        refine stp hm 3 (brn hf (fun c5 hf => ?_) (fun c5 hf => ?_))
        · show sxWP sc cl Q 204 (118, [some (.ref 59), some (.int v1), some (.int v2)], [], (cW nw kp im ol sn sr tp (mW mk (gma_j, gpi_j, gle_j, gsu_j, gst_j, ghe_j, gow_j, gfa_j, gqu_j, glo_j, ghi_j, gby_j, gib_j) mt mc T)), 0, 0)
          obtain ⟨g6, hf⟩ := grd_e hf
          refine stp hm 4 (And.intro (gi_in g6) (?_ : sxWP sc cl Q 204 (124, [some (.ref 59), some (.int v1), some (.int v2)], [.int (ghi_j v1.toNatClampNeg)], (cW nw kp im ol sn sr tp (mW mk (gma_j, gpi_j, gle_j, gsu_j, gst_j, ghe_j, gow_j, gfa_j, gqu_j, glo_j, ghi_j, gby_j, gib_j) mt mc T)), 0, 0)))
          exact J124 _ _ _ _ _ _ _ _ _ _ _ _ _ _ _ _ _ hf
        · show sxWP sc cl Q 204 (109, [some (.ref 59), some (.int v1), some (.int v2)], [], (cW nw kp im ol sn sr tp (mW mk (gma_j, gpi_j, gle_j, gsu_j, gst_j, ghe_j, gow_j, gfa_j, gqu_j, glo_j, ghi_j, gby_j, gib_j) mt mc T)), 0, 0)
          obtain ⟨g7, hf⟩ := grd_e hf
          refine stp hm 4 (And.intro (gi_in g7) (?_ : sxWP sc cl Q 204 (115, [some (.ref 59), some (.int v1), some (.int v2)], [.int (glo_j v1.toNatClampNeg)], (cW nw kp im ol sn sr tp (mW mk (gma_j, gpi_j, gle_j, gsu_j, gst_j, ghe_j, gow_j, gfa_j, gqu_j, glo_j, ghi_j, gby_j, gib_j) mt mc T)), 0, 0)))
          refine stp hm 1 (?_ : sxWP sc cl Q 204 (124, [some (.ref 59), some (.int v1), some (.int v2)], [.int (glo_j v1.toNatClampNeg)], (cW nw kp im ol sn sr tp (mW mk (gma_j, gpi_j, gle_j, gsu_j, gst_j, ghe_j, gow_j, gfa_j, gqu_j, glo_j, ghi_j, gby_j, gib_j) mt mc T)), 0, 0))
          exact J124 _ _ _ _ _ _ _ _ _ _ _ _ _ _ _ _ _ hf
    · show sxWP sc cl Q 204 (96, [some (.ref 59), some (.int v1), some (.int v2)], [], (cW nw kp im ol sn sr tp (mW mk (gma_j, gpi_j, gle_j, gsu_j, gst_j, ghe_j, gow_j, gfa_j, gqu_j, glo_j, ghi_j, gby_j, gib_j) mt mc T)), 0, 0)
      obtain rfl := Option.some.inj hf
      refine stp hm 2 ?_
      exact h
  have J85 : ∀ (gle_j : Int32) (gsu_j : Int32) (gma_j : (Nat → Int32)) (gpi_j : (Nat → Int32)) (gst_j : (Nat → Int32)) (ghe_j : (Nat → Int32)) (gow_j : (Nat → Int32)) (gfa_j : (Nat → Int32)) (gqu_j : (Nat → Int32)) (glo_j : (Nat → Int32)) (ghi_j : (Nat → Int32)) (gby_j : (Nat → Int32)) (gib_j : (Nat → Int32)) (z0 : Option Value) (z1 : Option Value) (z2 : Option Value), M_height_j85 gle_j gsu_j gma_j gpi_j gst_j ghe_j gow_j gfa_j gqu_j glo_j ghi_j gby_j gib_j = some q → sxWP sc cl Q 204 (85, [z0, z1, z2], [], (cW nw kp im ol sn sr tp (mW mk (gma_j, gpi_j, gle_j, gsu_j, gst_j, ghe_j, gow_j, gfa_j, gqu_j, glo_j, ghi_j, gby_j, gib_j) mt mc T)), 0, 0) := by
    intro gle_j gsu_j gma_j gpi_j gst_j ghe_j gow_j gfa_j gqu_j glo_j ghi_j gby_j gib_j z0 z1 z2 hf
    unfold M_height_j85 at hf
    obtain rfl := Option.some.inj hf
    refine stp hm 2 ?_
    exact h
  have J60 : ∀ (k0 : Int32) (gle_j : Int32) (gsu_j : Int32) (gma_j : (Nat → Int32)) (gpi_j : (Nat → Int32)) (gst_j : (Nat → Int32)) (ghe_j : (Nat → Int32)) (gow_j : (Nat → Int32)) (gfa_j : (Nat → Int32)) (gqu_j : (Nat → Int32)) (glo_j : (Nat → Int32)) (ghi_j : (Nat → Int32)) (gby_j : (Nat → Int32)) (gib_j : (Nat → Int32)) (z0 : Option Value) (z1 : Option Value) (z2 : Option Value), M_height_j60 k0 gle_j gsu_j gma_j gpi_j gst_j ghe_j gow_j gfa_j gqu_j glo_j ghi_j gby_j gib_j = some q → sxWP sc cl Q 204 (60, [z0, z1, z2], [.int k0], (cW nw kp im ol sn sr tp (mW mk (gma_j, gpi_j, gle_j, gsu_j, gst_j, ghe_j, gow_j, gfa_j, gqu_j, glo_j, ghi_j, gby_j, gib_j) mt mc T)), 0, 0) := by
    intro k0 gle_j gsu_j gma_j gpi_j gst_j ghe_j gow_j gfa_j gqu_j glo_j ghi_j gby_j gib_j z0 z1 z2 hf
    unfold M_height_j60 at hf
    obtain rfl := Option.some.inj hf
    refine stp hm 1 ?_
    exact h
  have J16 : ∀ (gle_j : Int32) (gsu_j : Int32) (gma_j : (Nat → Int32)) (gpi_j : (Nat → Int32)) (gst_j : (Nat → Int32)) (ghe_j : (Nat → Int32)) (gow_j : (Nat → Int32)) (gfa_j : (Nat → Int32)) (gqu_j : (Nat → Int32)) (glo_j : (Nat → Int32)) (ghi_j : (Nat → Int32)) (gby_j : (Nat → Int32)) (gib_j : (Nat → Int32)) (z0 : Option Value) (z1 : Option Value) (z2 : Option Value), M_height_j16 gle_j gsu_j gma_j gpi_j gst_j ghe_j gow_j gfa_j gqu_j glo_j ghi_j gby_j gib_j = some q → sxWP sc cl Q 204 (16, [z0, z1, z2], [], (cW nw kp im ol sn sr tp (mW mk (gma_j, gpi_j, gle_j, gsu_j, gst_j, ghe_j, gow_j, gfa_j, gqu_j, glo_j, ghi_j, gby_j, gib_j) mt mc T)), 0, 0) := by
    intro gle_j gsu_j gma_j gpi_j gst_j ghe_j gow_j gfa_j gqu_j glo_j ghi_j gby_j gib_j z0 z1 z2 hf
    unfold M_height_j16 at hf
    obtain rfl := Option.some.inj hf
    refine stp hm 2 ?_
    exact h
  unfold M_height at hf
  refine stp hm 2 (M_isVertex_ok hE rfl ?_)
  show sxWP sc cl Q 204 (4, [some (.ref 59), some (.int v1), some (.int v2)], [.int (M_isVertex v1)], (cW nw kp im ol sn sr tp (mW mk mg mt mc T)), 0, 0)
  refine stp hm 1 (br hf (fun c8 hf => ?_) (fun c8 hf => ?_))
  · show sxWP sc cl Q 204 (16, [some (.ref 59), some (.int v1), some (.int v2)], [], (cW nw kp im ol sn sr tp (mW mk mg mt mc T)), 0, 0)
    exact J16 _ _ _ _ _ _ _ _ _ _ _ _ _ _ _ _ hf
  · show sxWP sc cl Q 204 (7, [some (.ref 59), some (.int v1), some (.int v2)], [], (cW nw kp im ol sn sr tp (mW mk mg mt mc T)), 0, 0)
    refine stp hm 4 (M_isIn_ok hE rfl ?_)
    show sxWP sc cl Q 204 (13, [some (.ref 59), some (.int v1), some (.int v2)], [.int (M_isIn v2 (0:Int32) (3:Int32))], (cW nw kp im ol sn sr tp (mW mk mg mt mc T)), 0, 0)
    refine stp hm 1 (brn hf (fun c9 hf => ?_) (fun c9 hf => ?_))
    · show sxWP sc cl Q 204 (18, [some (.ref 59), some (.int v1), some (.int v2)], [], (cW nw kp im ol sn sr tp (mW mk mg mt mc T)), 0, 0)
      refine stp hm 2 (brn hf (fun c10 hf => ?_) (fun c10 hf => ?_))
      · show sxWP sc cl Q 204 (61, [some (.ref 59), some (.int v1), some (.int v2)], [], (cW nw kp im ol sn sr tp (mW mk mg mt mc T)), 0, 0)
        refine stp hm 3 (brn hf (fun c11 hf => ?_) (fun c11 hf => ?_))
        · show sxWP sc cl Q 204 (78, [some (.ref 59), some (.int v1), some (.int v2)], [], (cW nw kp im ol sn sr tp (mW mk mg mt mc T)), 0, 0)
          obtain ⟨q12, hq12, hf⟩ := bnd hf
          refine stp hm 2 (M_isTilable_ok hE hq12 ?_)
          show sxWP sc cl Q 204 (82, [some (.ref 59), some (.int v1), some (.int v2)], [.int q12.1], (cW nw kp im ol sn sr tp (mW mk (q12.2.2.2.1, q12.2.2.2.2.1, q12.2.1, q12.2.2.1, q12.2.2.2.2.2.1, q12.2.2.2.2.2.2.1, q12.2.2.2.2.2.2.2.1, q12.2.2.2.2.2.2.2.2.1, q12.2.2.2.2.2.2.2.2.2.1, q12.2.2.2.2.2.2.2.2.2.2.1, q12.2.2.2.2.2.2.2.2.2.2.2, mg.2.2.2.2.2.2.2.2.2.2.2.1, mg.2.2.2.2.2.2.2.2.2.2.2.2) mt mc T)), 0, 0)
          refine stp hm 1 (brn hf (fun c13 hf => ?_) (fun c13 hf => ?_))
          · show sxWP sc cl Q 204 (88, [some (.ref 59), some (.int v1), some (.int v2)], [], (cW nw kp im ol sn sr tp (mW mk (q12.2.2.2.1, q12.2.2.2.2.1, q12.2.1, q12.2.2.1, q12.2.2.2.2.2.1, q12.2.2.2.2.2.2.1, q12.2.2.2.2.2.2.2.1, q12.2.2.2.2.2.2.2.2.1, q12.2.2.2.2.2.2.2.2.2.1, q12.2.2.2.2.2.2.2.2.2.2.1, q12.2.2.2.2.2.2.2.2.2.2.2, mg.2.2.2.2.2.2.2.2.2.2.2.1, mg.2.2.2.2.2.2.2.2.2.2.2.2) mt mc T)), 0, 0)
            exact J88 _ _ _ _ _ _ _ _ _ _ _ _ _ _ _ hf
          · show sxWP sc cl Q 204 (85, [some (.ref 59), some (.int v1), some (.int v2)], [], (cW nw kp im ol sn sr tp (mW mk (q12.2.2.2.1, q12.2.2.2.2.1, q12.2.1, q12.2.2.1, q12.2.2.2.2.2.1, q12.2.2.2.2.2.2.1, q12.2.2.2.2.2.2.2.1, q12.2.2.2.2.2.2.2.2.1, q12.2.2.2.2.2.2.2.2.2.1, q12.2.2.2.2.2.2.2.2.2.2.1, q12.2.2.2.2.2.2.2.2.2.2.2, mg.2.2.2.2.2.2.2.2.2.2.2.1, mg.2.2.2.2.2.2.2.2.2.2.2.2) mt mc T)), 0, 0)
            exact J85 _ _ _ _ _ _ _ _ _ _ _ _ _ _ _ _ hf
        · show sxWP sc cl Q 204 (66, [some (.ref 59), some (.int v1), some (.int v2)], [], (cW nw kp im ol sn sr tp (mW mk mg mt mc T)), 0, 0)
          obtain ⟨g14, hf⟩ := grd_e hf
          refine stp hm 4 (And.intro (gi_in g14) (?_ : sxWP sc cl Q 204 (72, [some (.ref 59), some (.int v1), some (.int v2)], [.int (mk.2.2.1 (0:Int32).toNatClampNeg)], (cW nw kp im ol sn sr tp (mW mk mg mt mc T)), 0, 0)))
          refine stp hm 1 (brn hf (fun c15 hf => ?_) (fun c15 hf => ?_))
          · show sxWP sc cl Q 204 (88, [some (.ref 59), some (.int v1), some (.int v2)], [], (cW nw kp im ol sn sr tp (mW mk mg mt mc T)), 0, 0)
            exact J88 _ _ _ _ _ _ _ _ _ _ _ _ _ _ _ hf
          · show sxWP sc cl Q 204 (75, [some (.ref 59), some (.int v1), some (.int v2)], [], (cW nw kp im ol sn sr tp (mW mk mg mt mc T)), 0, 0)
            refine stp hm 1 (?_ : sxWP sc cl Q 204 (85, [some (.ref 59), some (.int v1), some (.int v2)], [], (cW nw kp im ol sn sr tp (mW mk mg mt mc T)), 0, 0))
            exact J85 _ _ _ _ _ _ _ _ _ _ _ _ _ _ _ _ hf
      · show sxWP sc cl Q 204 (22, [some (.ref 59), some (.int v1), some (.int v2)], [], (cW nw kp im ol sn sr tp (mW mk mg mt mc T)), 0, 0)
        obtain ⟨q16, hq16, hf⟩ := bnd hf
        refine stp hm 3 (M_wordTold_ok hE hq16 ?_)
        show sxWP sc cl Q 204 (27, [some (.ref 59), some (.int v1), some (.int v2)], [.int q16.1], (cW nw kp im ol sn sr tp (mW mk (q16.2.2.2.1, q16.2.2.2.2.1, q16.2.1, q16.2.2.1, q16.2.2.2.2.2.1, q16.2.2.2.2.2.2.1, q16.2.2.2.2.2.2.2, mg.2.2.2.2.2.2.2.1, mg.2.2.2.2.2.2.2.2.1, mg.2.2.2.2.2.2.2.2.2.1, mg.2.2.2.2.2.2.2.2.2.2.1, mg.2.2.2.2.2.2.2.2.2.2.2.1, mg.2.2.2.2.2.2.2.2.2.2.2.2) mt mc T)), 0, 0)
        refine stp hm 2 (br hf (fun c17 hf => ?_) (fun c17 hf => ?_))
        · show sxWP sc cl Q 204 (36, [some (.ref 59), some (.int v1), some (.int v2)], [], (cW nw kp im ol sn sr tp (mW mk (q16.2.2.2.1, q16.2.2.2.2.1, q16.2.1, q16.2.2.1, q16.2.2.2.2.2.1, q16.2.2.2.2.2.2.1, q16.2.2.2.2.2.2.2, mg.2.2.2.2.2.2.2.1, mg.2.2.2.2.2.2.2.2.1, mg.2.2.2.2.2.2.2.2.2.1, mg.2.2.2.2.2.2.2.2.2.2.1, mg.2.2.2.2.2.2.2.2.2.2.2.1, mg.2.2.2.2.2.2.2.2.2.2.2.2) mt mc T)), 0, 0)
          obtain ⟨g18, hf⟩ := grd_e hf
          refine stp hm 4 (And.intro (gi_in g18) (?_ : sxWP sc cl Q 204 (42, [some (.ref 59), some (.int v1), some (.int v2)], [.int (q16.2.2.2.2.2.2.2 v1.toNatClampNeg)], (cW nw kp im ol sn sr tp (mW mk (q16.2.2.2.1, q16.2.2.2.2.1, q16.2.1, q16.2.2.1, q16.2.2.2.2.2.1, q16.2.2.2.2.2.2.1, q16.2.2.2.2.2.2.2, mg.2.2.2.2.2.2.2.1, mg.2.2.2.2.2.2.2.2.1, mg.2.2.2.2.2.2.2.2.2.1, mg.2.2.2.2.2.2.2.2.2.2.1, mg.2.2.2.2.2.2.2.2.2.2.2.1, mg.2.2.2.2.2.2.2.2.2.2.2.2) mt mc T)), 0, 0)))
          refine stp hm 1 (br hf (fun c19 hf => ?_) (fun c19 hf => ?_))
          · show sxWP sc cl Q 204 (58, [some (.ref 59), some (.int v1), some (.int v2)], [], (cW nw kp im ol sn sr tp (mW mk (q16.2.2.2.1, q16.2.2.2.2.1, q16.2.1, q16.2.2.1, q16.2.2.2.2.2.1, q16.2.2.2.2.2.2.1, q16.2.2.2.2.2.2.2, mg.2.2.2.2.2.2.2.1, mg.2.2.2.2.2.2.2.2.1, mg.2.2.2.2.2.2.2.2.2.1, mg.2.2.2.2.2.2.2.2.2.2.1, mg.2.2.2.2.2.2.2.2.2.2.2.1, mg.2.2.2.2.2.2.2.2.2.2.2.2) mt mc T)), 0, 0)
            refine stp hm 1 (?_ : sxWP sc cl Q 204 (60, [some (.ref 59), some (.int v1), some (.int v2)], [.int (-5:Int32)], (cW nw kp im ol sn sr tp (mW mk (q16.2.2.2.1, q16.2.2.2.2.1, q16.2.1, q16.2.2.1, q16.2.2.2.2.2.1, q16.2.2.2.2.2.2.1, q16.2.2.2.2.2.2.2, mg.2.2.2.2.2.2.2.1, mg.2.2.2.2.2.2.2.2.1, mg.2.2.2.2.2.2.2.2.2.1, mg.2.2.2.2.2.2.2.2.2.2.1, mg.2.2.2.2.2.2.2.2.2.2.2.1, mg.2.2.2.2.2.2.2.2.2.2.2.2) mt mc T)), 0, 0))
            exact J60 _ _ _ _ _ _ _ _ _ _ _ _ _ _ _ _ _ hf
          · show sxWP sc cl Q 204 (45, [some (.ref 59), some (.int v1), some (.int v2)], [], (cW nw kp im ol sn sr tp (mW mk (q16.2.2.2.1, q16.2.2.2.2.1, q16.2.1, q16.2.2.1, q16.2.2.2.2.2.1, q16.2.2.2.2.2.2.1, q16.2.2.2.2.2.2.2, mg.2.2.2.2.2.2.2.1, mg.2.2.2.2.2.2.2.2.1, mg.2.2.2.2.2.2.2.2.2.1, mg.2.2.2.2.2.2.2.2.2.2.1, mg.2.2.2.2.2.2.2.2.2.2.2.1, mg.2.2.2.2.2.2.2.2.2.2.2.2) mt mc T)), 0, 0)
            obtain ⟨g20, hf⟩ := grd_e hf
            refine stp hm 4 (And.intro (gi_in g20) (?_ : sxWP sc cl Q 204 (51, [some (.ref 59), some (.int v1), some (.int v2)], [.int (q16.2.2.2.2.2.2.1 v1.toNatClampNeg)], (cW nw kp im ol sn sr tp (mW mk (q16.2.2.2.1, q16.2.2.2.2.1, q16.2.1, q16.2.2.1, q16.2.2.2.2.2.1, q16.2.2.2.2.2.2.1, q16.2.2.2.2.2.2.2, mg.2.2.2.2.2.2.2.1, mg.2.2.2.2.2.2.2.2.1, mg.2.2.2.2.2.2.2.2.2.1, mg.2.2.2.2.2.2.2.2.2.2.1, mg.2.2.2.2.2.2.2.2.2.2.2.1, mg.2.2.2.2.2.2.2.2.2.2.2.2) mt mc T)), 0, 0)))
            refine stp hm 3 (?_ : sxWP sc cl Q 204 (60, [some (.ref 59), some (.int v1), some (.int v2)], [.int ((q16.2.2.2.2.2.2.1 v1.toNatClampNeg) + (1000:Int32))], (cW nw kp im ol sn sr tp (mW mk (q16.2.2.2.1, q16.2.2.2.2.1, q16.2.1, q16.2.2.1, q16.2.2.2.2.2.1, q16.2.2.2.2.2.2.1, q16.2.2.2.2.2.2.2, mg.2.2.2.2.2.2.2.1, mg.2.2.2.2.2.2.2.2.1, mg.2.2.2.2.2.2.2.2.2.1, mg.2.2.2.2.2.2.2.2.2.2.1, mg.2.2.2.2.2.2.2.2.2.2.2.1, mg.2.2.2.2.2.2.2.2.2.2.2.2) mt mc T)), 0, 0))
            exact J60 _ _ _ _ _ _ _ _ _ _ _ _ _ _ _ _ _ hf
        · show sxWP sc cl Q 204 (33, [some (.ref 59), some (.int v1), some (.int v2)], [], (cW nw kp im ol sn sr tp (mW mk (q16.2.2.2.1, q16.2.2.2.2.1, q16.2.1, q16.2.2.1, q16.2.2.2.2.2.1, q16.2.2.2.2.2.2.1, q16.2.2.2.2.2.2.2, mg.2.2.2.2.2.2.2.1, mg.2.2.2.2.2.2.2.2.1, mg.2.2.2.2.2.2.2.2.2.1, mg.2.2.2.2.2.2.2.2.2.2.1, mg.2.2.2.2.2.2.2.2.2.2.2.1, mg.2.2.2.2.2.2.2.2.2.2.2.2) mt mc T)), 0, 0)
          obtain rfl := Option.some.inj hf
          refine stp hm 2 ?_
          exact h
    · show sxWP sc cl Q 204 (16, [some (.ref 59), some (.int v1), some (.int v2)], [], (cW nw kp im ol sn sr tp (mW mk mg mt mc T)), 0, 0)
      exact J16 _ _ _ _ _ _ _ _ _ _ _ _ _ _ _ _ hf

def O_fewest_j23  (k0 : Int32) (odi_j : (Nat → Int32)) (oqu_j : (Nat → Int32)) : Option (Int32 × (Nat → Int32) × (Nat → Int32)) := some (k0, odi_j, oqu_j)
def O_fewest (v1 : Int32) (v2 : Int32) (ost : (Nat → Int32)) (odi : (Nat → Int32)) (oqu : (Nat → Int32)) : Option (Int32 × (Nat → Int32) × (Nat → Int32)) := Option.bind (O_spread v1 (0:Int32) ost odi oqu) (fun q1 => if (G_isVertex v2) = (0:Int32) then (O_fewest_j23 (-1:Int32) q1.1 q1.2) else (grd (gi v2 49) (O_fewest_j23 (q1.1 v2.toNatClampNeg) q1.1 q1.2)))
set_option maxRecDepth 10000 in
theorem O_fewest_ok {v1 : Int32} {v2 : Int32} {q : (Int32 × (Nat → Int32) × (Nat → Int32))} (hc : call = sxE sc (d + 3)) (hf : O_fewest v1 v2 ol.2.2.2.2.2.2.2.2.1 ol.2.2.2.2.2.2.2.2.2.2.2.2.2.2.2.1 ol.2.2.2.2.2.2.2.2.2.2.2.2.2.2.2.2 = some q) (h : Q (some (.int q.1)) (cW nw kp im (ol.1, ol.2.1, ol.2.2.1, ol.2.2.2.1, ol.2.2.2.2.1, ol.2.2.2.2.2.1, ol.2.2.2.2.2.2.1, ol.2.2.2.2.2.2.2.1, ol.2.2.2.2.2.2.2.2.1, ol.2.2.2.2.2.2.2.2.2.1, ol.2.2.2.2.2.2.2.2.2.2.1, ol.2.2.2.2.2.2.2.2.2.2.2.1, ol.2.2.2.2.2.2.2.2.2.2.2.2.1, ol.2.2.2.2.2.2.2.2.2.2.2.2.2.1, ol.2.2.2.2.2.2.2.2.2.2.2.2.2.2.1, q.2.1, q.2.2) sn sr tp (mW mk mg mt mc T))) : call 31 [.ref 29, .int v1, .int v2] (cW nw kp im ol sn sr tp (mW mk mg mt mc T)) Q := by
  refine ent hc rfl (fun cl hE hm => ?_)
  have J23 : ∀ (k0 : Int32) (odi_j : (Nat → Int32)) (oqu_j : (Nat → Int32)) (z0 : Option Value) (z1 : Option Value) (z2 : Option Value), O_fewest_j23 k0 odi_j oqu_j = some q → sxWP sc cl Q 31 (23, [z0, z1, z2], [.int k0], (cW nw kp im (ol.1, ol.2.1, ol.2.2.1, ol.2.2.2.1, ol.2.2.2.2.1, ol.2.2.2.2.2.1, ol.2.2.2.2.2.2.1, ol.2.2.2.2.2.2.2.1, ol.2.2.2.2.2.2.2.2.1, ol.2.2.2.2.2.2.2.2.2.1, ol.2.2.2.2.2.2.2.2.2.2.1, ol.2.2.2.2.2.2.2.2.2.2.2.1, ol.2.2.2.2.2.2.2.2.2.2.2.2.1, ol.2.2.2.2.2.2.2.2.2.2.2.2.2.1, ol.2.2.2.2.2.2.2.2.2.2.2.2.2.2.1, odi_j, oqu_j) sn sr tp (mW mk mg mt mc T)), 0, 0) := by
    intro k0 odi_j oqu_j z0 z1 z2 hf
    unfold O_fewest_j23 at hf
    obtain rfl := Option.some.inj hf
    refine stp hm 1 ?_
    exact h
  unfold O_fewest at hf
  obtain ⟨q1, hq1, hf⟩ := bnd hf
  refine stp hm 4 (O_spread_ok hE hq1 ?_)
  show sxWP sc cl Q 31 (6, [some (.ref 29), some (.int v1), some (.int v2)], [], (cW nw kp im (ol.1, ol.2.1, ol.2.2.1, ol.2.2.2.1, ol.2.2.2.2.1, ol.2.2.2.2.2.1, ol.2.2.2.2.2.2.1, ol.2.2.2.2.2.2.2.1, ol.2.2.2.2.2.2.2.2.1, ol.2.2.2.2.2.2.2.2.2.1, ol.2.2.2.2.2.2.2.2.2.2.1, ol.2.2.2.2.2.2.2.2.2.2.2.1, ol.2.2.2.2.2.2.2.2.2.2.2.2.1, ol.2.2.2.2.2.2.2.2.2.2.2.2.2.1, ol.2.2.2.2.2.2.2.2.2.2.2.2.2.2.1, q1.1, q1.2) sn sr tp (mW mk mg mt mc T)), 0, 0)
  refine stp hm 2 (G_isVertex_ok hE rfl ?_)
  show sxWP sc cl Q 31 (10, [some (.ref 29), some (.int v1), some (.int v2)], [.int (G_isVertex v2)], (cW nw kp im (ol.1, ol.2.1, ol.2.2.1, ol.2.2.2.1, ol.2.2.2.2.1, ol.2.2.2.2.2.1, ol.2.2.2.2.2.2.1, ol.2.2.2.2.2.2.2.1, ol.2.2.2.2.2.2.2.2.1, ol.2.2.2.2.2.2.2.2.2.1, ol.2.2.2.2.2.2.2.2.2.2.1, ol.2.2.2.2.2.2.2.2.2.2.2.1, ol.2.2.2.2.2.2.2.2.2.2.2.2.1, ol.2.2.2.2.2.2.2.2.2.2.2.2.2.1, ol.2.2.2.2.2.2.2.2.2.2.2.2.2.2.1, q1.1, q1.2) sn sr tp (mW mk mg mt mc T)), 0, 0)
  refine stp hm 1 (br hf (fun c2 hf => ?_) (fun c2 hf => ?_))
  · show sxWP sc cl Q 31 (22, [some (.ref 29), some (.int v1), some (.int v2)], [], (cW nw kp im (ol.1, ol.2.1, ol.2.2.1, ol.2.2.2.1, ol.2.2.2.2.1, ol.2.2.2.2.2.1, ol.2.2.2.2.2.2.1, ol.2.2.2.2.2.2.2.1, ol.2.2.2.2.2.2.2.2.1, ol.2.2.2.2.2.2.2.2.2.1, ol.2.2.2.2.2.2.2.2.2.2.1, ol.2.2.2.2.2.2.2.2.2.2.2.1, ol.2.2.2.2.2.2.2.2.2.2.2.2.1, ol.2.2.2.2.2.2.2.2.2.2.2.2.2.1, ol.2.2.2.2.2.2.2.2.2.2.2.2.2.2.1, q1.1, q1.2) sn sr tp (mW mk mg mt mc T)), 0, 0)
    refine stp hm 1 (?_ : sxWP sc cl Q 31 (23, [some (.ref 29), some (.int v1), some (.int v2)], [.int (-1:Int32)], (cW nw kp im (ol.1, ol.2.1, ol.2.2.1, ol.2.2.2.1, ol.2.2.2.2.1, ol.2.2.2.2.2.1, ol.2.2.2.2.2.2.1, ol.2.2.2.2.2.2.2.1, ol.2.2.2.2.2.2.2.2.1, ol.2.2.2.2.2.2.2.2.2.1, ol.2.2.2.2.2.2.2.2.2.2.1, ol.2.2.2.2.2.2.2.2.2.2.2.1, ol.2.2.2.2.2.2.2.2.2.2.2.2.1, ol.2.2.2.2.2.2.2.2.2.2.2.2.2.1, ol.2.2.2.2.2.2.2.2.2.2.2.2.2.2.1, q1.1, q1.2) sn sr tp (mW mk mg mt mc T)), 0, 0))
    exact J23 _ _ _ _ _ _ hf
  · show sxWP sc cl Q 31 (13, [some (.ref 29), some (.int v1), some (.int v2)], [], (cW nw kp im (ol.1, ol.2.1, ol.2.2.1, ol.2.2.2.1, ol.2.2.2.2.1, ol.2.2.2.2.2.1, ol.2.2.2.2.2.2.1, ol.2.2.2.2.2.2.2.1, ol.2.2.2.2.2.2.2.2.1, ol.2.2.2.2.2.2.2.2.2.1, ol.2.2.2.2.2.2.2.2.2.2.1, ol.2.2.2.2.2.2.2.2.2.2.2.1, ol.2.2.2.2.2.2.2.2.2.2.2.2.1, ol.2.2.2.2.2.2.2.2.2.2.2.2.2.1, ol.2.2.2.2.2.2.2.2.2.2.2.2.2.2.1, q1.1, q1.2) sn sr tp (mW mk mg mt mc T)), 0, 0)
    obtain ⟨g3, hf⟩ := grd_e hf
    refine stp hm 4 (And.intro (gi_in g3) (?_ : sxWP sc cl Q 31 (19, [some (.ref 29), some (.int v1), some (.int v2)], [.int (q1.1 v2.toNatClampNeg)], (cW nw kp im (ol.1, ol.2.1, ol.2.2.1, ol.2.2.2.1, ol.2.2.2.2.1, ol.2.2.2.2.2.1, ol.2.2.2.2.2.2.1, ol.2.2.2.2.2.2.2.1, ol.2.2.2.2.2.2.2.2.1, ol.2.2.2.2.2.2.2.2.2.1, ol.2.2.2.2.2.2.2.2.2.2.1, ol.2.2.2.2.2.2.2.2.2.2.2.1, ol.2.2.2.2.2.2.2.2.2.2.2.2.1, ol.2.2.2.2.2.2.2.2.2.2.2.2.2.1, ol.2.2.2.2.2.2.2.2.2.2.2.2.2.2.1, q1.1, q1.2) sn sr tp (mW mk mg mt mc T)), 0, 0)))
    refine stp hm 1 (?_ : sxWP sc cl Q 31 (23, [some (.ref 29), some (.int v1), some (.int v2)], [.int (q1.1 v2.toNatClampNeg)], (cW nw kp im (ol.1, ol.2.1, ol.2.2.1, ol.2.2.2.1, ol.2.2.2.2.1, ol.2.2.2.2.2.1, ol.2.2.2.2.2.2.1, ol.2.2.2.2.2.2.2.1, ol.2.2.2.2.2.2.2.2.1, ol.2.2.2.2.2.2.2.2.2.1, ol.2.2.2.2.2.2.2.2.2.2.1, ol.2.2.2.2.2.2.2.2.2.2.2.1, ol.2.2.2.2.2.2.2.2.2.2.2.2.1, ol.2.2.2.2.2.2.2.2.2.2.2.2.2.1, ol.2.2.2.2.2.2.2.2.2.2.2.2.2.2.1, q1.1, q1.2) sn sr tp (mW mk mg mt mc T)), 0, 0))
    exact J23 _ _ _ _ _ _ hf

def X_far_j52  (okn_j : Int32) (org_j : Int64) (osi_j : Int32) (oti_j : Int32) (ole_j : Int32) (oto_j : Int32) (oow_j : Int64) (oco_j : Int64) (ost_j : (Nat → Int32)) (owa_j : (Nat → Int32)) (owv_j : (Nat → Int32)) (owh_j : (Nat → Int32)) (olo_j : (Nat → Int32)) (ohi_j : (Nat → Int32)) (odi_j : (Nat → Int32)) (oqu_j : (Nat → Int32)) : Option (Int32 × Int32 × Int64 × Int32 × Int32 × Int32 × Int32 × Int64 × Int64 × (Nat → Int32) × (Nat → Int32) × (Nat → Int32) × (Nat → Int32) × (Nat → Int32) × (Nat → Int32) × (Nat → Int32) × (Nat → Int32)) := some ((-5:Int32), okn_j, org_j, osi_j, oti_j, ole_j, oto_j, oow_j, oco_j, ost_j, owa_j, owv_j, owh_j, olo_j, ohi_j, odi_j, oqu_j)
def X_far_j14  (okn_j : Int32) (org_j : Int64) (osi_j : Int32) (oti_j : Int32) (ole_j : Int32) (oto_j : Int32) (oow_j : Int64) (oco_j : Int64) (ost_j : (Nat → Int32)) (owa_j : (Nat → Int32)) (owv_j : (Nat → Int32)) (owh_j : (Nat → Int32)) (olo_j : (Nat → Int32)) (ohi_j : (Nat → Int32)) (odi_j : (Nat → Int32)) (oqu_j : (Nat → Int32)) : Option (Int32 × Int32 × Int64 × Int32 × Int32 × Int32 × Int32 × Int64 × Int64 × (Nat → Int32) × (Nat → Int32) × (Nat → Int32) × (Nat → Int32) × (Nat → Int32) × (Nat → Int32) × (Nat → Int32) × (Nat → Int32)) := some ((-1:Int32), okn_j, org_j, osi_j, oti_j, ole_j, oto_j, oow_j, oco_j, ost_j, owa_j, owv_j, owh_j, olo_j, ohi_j, odi_j, oqu_j)
def X_far (v1 : Int32) (v2 : Int32) (nrg : Int64) (okn : Int32) (org : Int64) (osi : Int32) (oti : Int32) (ole : Int32) (oto : Int32) (oow : Int64) (oco : Int64) (ost : (Nat → Int32)) (owa : (Nat → Int32)) (owv : (Nat → Int32)) (owh : (Nat → Int32)) (olo : (Nat → Int32)) (ohi : (Nat → Int32)) (ora : (Nat → Int32)) (odi : (Nat → Int32)) (oqu : (Nat → Int32)) : Option (Int32 × Int32 × Int64 × Int32 × Int32 × Int32 × Int32 × Int64 × Int64 × (Nat → Int32) × (Nat → Int32) × (Nat → Int32) × (Nat → Int32) × (Nat → Int32) × (Nat → Int32) × (Nat → Int32) × (Nat → Int32)) := if (G_isVertex v1) = (0:Int32) then (X_far_j14 okn org osi oti ole oto oow oco ost owa owv owh olo ohi odi oqu) else (if (G_isVertex v2) = (0:Int32) then (X_far_j14 okn org osi oti ole oto oow oco ost owa owv owh olo ohi odi oqu) else (Option.bind (O_look nrg okn org osi oti ole oto oow oco ost owa owv owh olo ohi ora odi oqu) (fun q3 => if (O_isCorner v1 q3.2.2.2.2.2.2.2.1) = (0:Int32) then (X_far_j52 q3.1 q3.2.1 q3.2.2.1 q3.2.2.2.1 q3.2.2.2.2.1 q3.2.2.2.2.2.1 q3.2.2.2.2.2.2.1 q3.2.2.2.2.2.2.2.1 q3.2.2.2.2.2.2.2.2.1 q3.2.2.2.2.2.2.2.2.2.1 q3.2.2.2.2.2.2.2.2.2.2.1 q3.2.2.2.2.2.2.2.2.2.2.2.1 q3.2.2.2.2.2.2.2.2.2.2.2.2.1 q3.2.2.2.2.2.2.2.2.2.2.2.2.2.1 q3.2.2.2.2.2.2.2.2.2.2.2.2.2.2.1 q3.2.2.2.2.2.2.2.2.2.2.2.2.2.2.2) else (if (O_isCorner v2 q3.2.2.2.2.2.2.2.1) = (0:Int32) then (X_far_j52 q3.1 q3.2.1 q3.2.2.1 q3.2.2.2.1 q3.2.2.2.2.1 q3.2.2.2.2.2.1 q3.2.2.2.2.2.2.1 q3.2.2.2.2.2.2.2.1 q3.2.2.2.2.2.2.2.2.1 q3.2.2.2.2.2.2.2.2.2.1 q3.2.2.2.2.2.2.2.2.2.2.1 q3.2.2.2.2.2.2.2.2.2.2.2.1 q3.2.2.2.2.2.2.2.2.2.2.2.2.1 q3.2.2.2.2.2.2.2.2.2.2.2.2.2.1 q3.2.2.2.2.2.2.2.2.2.2.2.2.2.2.1 q3.2.2.2.2.2.2.2.2.2.2.2.2.2.2.2) else (Option.bind (O_fewest v1 v2 q3.2.2.2.2.2.2.2.2.1 q3.2.2.2.2.2.2.2.2.2.2.2.2.2.2.1 q3.2.2.2.2.2.2.2.2.2.2.2.2.2.2.2) (fun q6 => some (if (0:Int32) ≤ q6.1 then q6.1 else (-5:Int32), q3.1, q3.2.1, q3.2.2.1, q3.2.2.2.1, q3.2.2.2.2.1, q3.2.2.2.2.2.1, q3.2.2.2.2.2.2.1, q3.2.2.2.2.2.2.2.1, q3.2.2.2.2.2.2.2.2.1, q3.2.2.2.2.2.2.2.2.2.1, q3.2.2.2.2.2.2.2.2.2.2.1, q3.2.2.2.2.2.2.2.2.2.2.2.1, q3.2.2.2.2.2.2.2.2.2.2.2.2.1, q3.2.2.2.2.2.2.2.2.2.2.2.2.2.1, q6.2.1, q6.2.2)))))))
set_option maxRecDepth 10000 in
theorem X_far_ok {v1 : Int32} {v2 : Int32} {q : (Int32 × Int32 × Int64 × Int32 × Int32 × Int32 × Int32 × Int64 × Int64 × (Nat → Int32) × (Nat → Int32) × (Nat → Int32) × (Nat → Int32) × (Nat → Int32) × (Nat → Int32) × (Nat → Int32) × (Nat → Int32))} (hc : call = sxE sc (d + 5)) (hf : X_far v1 v2 nw.1 ol.1 ol.2.1 ol.2.2.1 ol.2.2.2.1 ol.2.2.2.2.1 ol.2.2.2.2.2.1 ol.2.2.2.2.2.2.1 ol.2.2.2.2.2.2.2.1 ol.2.2.2.2.2.2.2.2.1 ol.2.2.2.2.2.2.2.2.2.1 ol.2.2.2.2.2.2.2.2.2.2.1 ol.2.2.2.2.2.2.2.2.2.2.2.1 ol.2.2.2.2.2.2.2.2.2.2.2.2.1 ol.2.2.2.2.2.2.2.2.2.2.2.2.2.1 ol.2.2.2.2.2.2.2.2.2.2.2.2.2.2.1 ol.2.2.2.2.2.2.2.2.2.2.2.2.2.2.2.1 ol.2.2.2.2.2.2.2.2.2.2.2.2.2.2.2.2 = some q) (h : Q (some (.int q.1)) (cW nw kp im (q.2.1, q.2.2.1, q.2.2.2.1, q.2.2.2.2.1, q.2.2.2.2.2.1, q.2.2.2.2.2.2.1, q.2.2.2.2.2.2.2.1, q.2.2.2.2.2.2.2.2.1, q.2.2.2.2.2.2.2.2.2.1, q.2.2.2.2.2.2.2.2.2.2.1, q.2.2.2.2.2.2.2.2.2.2.2.1, q.2.2.2.2.2.2.2.2.2.2.2.2.1, q.2.2.2.2.2.2.2.2.2.2.2.2.2.1, q.2.2.2.2.2.2.2.2.2.2.2.2.2.2.1, ol.2.2.2.2.2.2.2.2.2.2.2.2.2.2.1, q.2.2.2.2.2.2.2.2.2.2.2.2.2.2.2.1, q.2.2.2.2.2.2.2.2.2.2.2.2.2.2.2.2) sn sr tp (mW mk mg mt mc T))) : call 108 [.ref 0, .int v1, .int v2] (cW nw kp im ol sn sr tp (mW mk mg mt mc T)) Q := by
  refine ent hc rfl (fun cl hE hm => ?_)
  have J52 : ∀ (okn_j : Int32) (org_j : Int64) (osi_j : Int32) (oti_j : Int32) (ole_j : Int32) (oto_j : Int32) (oow_j : Int64) (oco_j : Int64) (ost_j : (Nat → Int32)) (owa_j : (Nat → Int32)) (owv_j : (Nat → Int32)) (owh_j : (Nat → Int32)) (olo_j : (Nat → Int32)) (ohi_j : (Nat → Int32)) (odi_j : (Nat → Int32)) (oqu_j : (Nat → Int32)) (z0 : Option Value) (z1 : Option Value) (z2 : Option Value) (z3 : Option Value), X_far_j52 okn_j org_j osi_j oti_j ole_j oto_j oow_j oco_j ost_j owa_j owv_j owh_j olo_j ohi_j odi_j oqu_j = some q → sxWP sc cl Q 108 (52, [z0, z1, z2, z3], [], (cW nw kp im (okn_j, org_j, osi_j, oti_j, ole_j, oto_j, oow_j, oco_j, ost_j, owa_j, owv_j, owh_j, olo_j, ohi_j, ol.2.2.2.2.2.2.2.2.2.2.2.2.2.2.1, odi_j, oqu_j) sn sr tp (mW mk mg mt mc T)), 0, 0) := by
    intro okn_j org_j osi_j oti_j ole_j oto_j oow_j oco_j ost_j owa_j owv_j owh_j olo_j ohi_j odi_j oqu_j z0 z1 z2 z3 hf
    unfold X_far_j52 at hf
    obtain rfl := Option.some.inj hf
    refine stp hm 2 ?_
    exact h
  have J14 : ∀ (okn_j : Int32) (org_j : Int64) (osi_j : Int32) (oti_j : Int32) (ole_j : Int32) (oto_j : Int32) (oow_j : Int64) (oco_j : Int64) (ost_j : (Nat → Int32)) (owa_j : (Nat → Int32)) (owv_j : (Nat → Int32)) (owh_j : (Nat → Int32)) (olo_j : (Nat → Int32)) (ohi_j : (Nat → Int32)) (odi_j : (Nat → Int32)) (oqu_j : (Nat → Int32)) (z0 : Option Value) (z1 : Option Value) (z2 : Option Value) (z3 : Option Value), X_far_j14 okn_j org_j osi_j oti_j ole_j oto_j oow_j oco_j ost_j owa_j owv_j owh_j olo_j ohi_j odi_j oqu_j = some q → sxWP sc cl Q 108 (14, [z0, z1, z2, z3], [], (cW nw kp im (okn_j, org_j, osi_j, oti_j, ole_j, oto_j, oow_j, oco_j, ost_j, owa_j, owv_j, owh_j, olo_j, ohi_j, ol.2.2.2.2.2.2.2.2.2.2.2.2.2.2.1, odi_j, oqu_j) sn sr tp (mW mk mg mt mc T)), 0, 0) := by
    intro okn_j org_j osi_j oti_j ole_j oto_j oow_j oco_j ost_j owa_j owv_j owh_j olo_j ohi_j odi_j oqu_j z0 z1 z2 z3 hf
    unfold X_far_j14 at hf
    obtain rfl := Option.some.inj hf
    refine stp hm 2 ?_
    exact h
  unfold X_far at hf
  refine stp hm 2 (G_isVertex_ok hE rfl ?_)
  show sxWP sc cl Q 108 (4, [some (.ref 0), some (.int v1), some (.int v2), none], [.int (G_isVertex v1)], (cW nw kp im ol sn sr tp (mW mk mg mt mc T)), 0, 0)
  refine stp hm 1 (br hf (fun c1 hf => ?_) (fun c1 hf => ?_))
  · show sxWP sc cl Q 108 (14, [some (.ref 0), some (.int v1), some (.int v2), none], [], (cW nw kp im ol sn sr tp (mW mk mg mt mc T)), 0, 0)
    exact J14 _ _ _ _ _ _ _ _ _ _ _ _ _ _ _ _ _ _ _ _ hf
  · show sxWP sc cl Q 108 (7, [some (.ref 0), some (.int v1), some (.int v2), none], [], (cW nw kp im ol sn sr tp (mW mk mg mt mc T)), 0, 0)
    refine stp hm 2 (G_isVertex_ok hE rfl ?_)
    show sxWP sc cl Q 108 (11, [some (.ref 0), some (.int v1), some (.int v2), none], [.int (G_isVertex v2)], (cW nw kp im ol sn sr tp (mW mk mg mt mc T)), 0, 0)
    refine stp hm 1 (brn hf (fun c2 hf => ?_) (fun c2 hf => ?_))
    · show sxWP sc cl Q 108 (16, [some (.ref 0), some (.int v1), some (.int v2), none], [], (cW nw kp im ol sn sr tp (mW mk mg mt mc T)), 0, 0)
      obtain ⟨q3, hq3, hf⟩ := bnd hf
      refine stp hm 6 (O_look_ok hE hq3 ?_)
      show sxWP sc cl Q 108 (30, [some (.ref 0), some (.int v1), some (.int v2), none], [], (cW nw kp im (q3.1, q3.2.1, q3.2.2.1, q3.2.2.2.1, q3.2.2.2.2.1, q3.2.2.2.2.2.1, q3.2.2.2.2.2.2.1, q3.2.2.2.2.2.2.2.1, q3.2.2.2.2.2.2.2.2.1, q3.2.2.2.2.2.2.2.2.2.1, q3.2.2.2.2.2.2.2.2.2.2.1, q3.2.2.2.2.2.2.2.2.2.2.2.1, q3.2.2.2.2.2.2.2.2.2.2.2.2.1, q3.2.2.2.2.2.2.2.2.2.2.2.2.2.1, ol.2.2.2.2.2.2.2.2.2.2.2.2.2.2.1, q3.2.2.2.2.2.2.2.2.2.2.2.2.2.2.1, q3.2.2.2.2.2.2.2.2.2.2.2.2.2.2.2) sn sr tp (mW mk mg mt mc T)), 0, 0)
      refine stp hm 4 (O_isCorner_ok hE rfl ?_)
      show sxWP sc cl Q 108 (38, [some (.ref 0), some (.int v1), some (.int v2), none], [.int (O_isCorner v1 q3.2.2.2.2.2.2.2.1)], (cW nw kp im (q3.1, q3.2.1, q3.2.2.1, q3.2.2.2.1, q3.2.2.2.2.1, q3.2.2.2.2.2.1, q3.2.2.2.2.2.2.1, q3.2.2.2.2.2.2.2.1, q3.2.2.2.2.2.2.2.2.1, q3.2.2.2.2.2.2.2.2.2.1, q3.2.2.2.2.2.2.2.2.2.2.1, q3.2.2.2.2.2.2.2.2.2.2.2.1, q3.2.2.2.2.2.2.2.2.2.2.2.2.1, q3.2.2.2.2.2.2.2.2.2.2.2.2.2.1, ol.2.2.2.2.2.2.2.2.2.2.2.2.2.2.1, q3.2.2.2.2.2.2.2.2.2.2.2.2.2.2.1, q3.2.2.2.2.2.2.2.2.2.2.2.2.2.2.2) sn sr tp (mW mk mg mt mc T)), 0, 0)
      refine stp hm 1 (br hf (fun c4 hf => ?_) (fun c4 hf => ?_))
      · show sxWP sc cl Q 108 (52, [some (.ref 0), some (.int v1), some (.int v2), none], [], (cW nw kp im (q3.1, q3.2.1, q3.2.2.1, q3.2.2.2.1, q3.2.2.2.2.1, q3.2.2.2.2.2.1, q3.2.2.2.2.2.2.1, q3.2.2.2.2.2.2.2.1, q3.2.2.2.2.2.2.2.2.1, q3.2.2.2.2.2.2.2.2.2.1, q3.2.2.2.2.2.2.2.2.2.2.1, q3.2.2.2.2.2.2.2.2.2.2.2.1, q3.2.2.2.2.2.2.2.2.2.2.2.2.1, q3.2.2.2.2.2.2.2.2.2.2.2.2.2.1, ol.2.2.2.2.2.2.2.2.2.2.2.2.2.2.1, q3.2.2.2.2.2.2.2.2.2.2.2.2.2.2.1, q3.2.2.2.2.2.2.2.2.2.2.2.2.2.2.2) sn sr tp (mW mk mg mt mc T)), 0, 0)
        exact J52 _ _ _ _ _ _ _ _ _ _ _ _ _ _ _ _ _ _ _ _ hf
      · show sxWP sc cl Q 108 (41, [some (.ref 0), some (.int v1), some (.int v2), none], [], (cW nw kp im (q3.1, q3.2.1, q3.2.2.1, q3.2.2.2.1, q3.2.2.2.2.1, q3.2.2.2.2.2.1, q3.2.2.2.2.2.2.1, q3.2.2.2.2.2.2.2.1, q3.2.2.2.2.2.2.2.2.1, q3.2.2.2.2.2.2.2.2.2.1, q3.2.2.2.2.2.2.2.2.2.2.1, q3.2.2.2.2.2.2.2.2.2.2.2.1, q3.2.2.2.2.2.2.2.2.2.2.2.2.1, q3.2.2.2.2.2.2.2.2.2.2.2.2.2.1, ol.2.2.2.2.2.2.2.2.2.2.2.2.2.2.1, q3.2.2.2.2.2.2.2.2.2.2.2.2.2.2.1, q3.2.2.2.2.2.2.2.2.2.2.2.2.2.2.2) sn sr tp (mW mk mg mt mc T)), 0, 0)
        refine stp hm 4 (O_isCorner_ok hE rfl ?_)
        show sxWP sc cl Q 108 (49, [some (.ref 0), some (.int v1), some (.int v2), none], [.int (O_isCorner v2 q3.2.2.2.2.2.2.2.1)], (cW nw kp im (q3.1, q3.2.1, q3.2.2.1, q3.2.2.2.1, q3.2.2.2.2.1, q3.2.2.2.2.2.1, q3.2.2.2.2.2.2.1, q3.2.2.2.2.2.2.2.1, q3.2.2.2.2.2.2.2.2.1, q3.2.2.2.2.2.2.2.2.2.1, q3.2.2.2.2.2.2.2.2.2.2.1, q3.2.2.2.2.2.2.2.2.2.2.2.1, q3.2.2.2.2.2.2.2.2.2.2.2.2.1, q3.2.2.2.2.2.2.2.2.2.2.2.2.2.1, ol.2.2.2.2.2.2.2.2.2.2.2.2.2.2.1, q3.2.2.2.2.2.2.2.2.2.2.2.2.2.2.1, q3.2.2.2.2.2.2.2.2.2.2.2.2.2.2.2) sn sr tp (mW mk mg mt mc T)), 0, 0)
        refine stp hm 1 (brn hf (fun c5 hf => ?_) (fun c5 hf => ?_))
        · show sxWP sc cl Q 108 (55, [some (.ref 0), some (.int v1), some (.int v2), none], [], (cW nw kp im (q3.1, q3.2.1, q3.2.2.1, q3.2.2.2.1, q3.2.2.2.2.1, q3.2.2.2.2.2.1, q3.2.2.2.2.2.2.1, q3.2.2.2.2.2.2.2.1, q3.2.2.2.2.2.2.2.2.1, q3.2.2.2.2.2.2.2.2.2.1, q3.2.2.2.2.2.2.2.2.2.2.1, q3.2.2.2.2.2.2.2.2.2.2.2.1, q3.2.2.2.2.2.2.2.2.2.2.2.2.1, q3.2.2.2.2.2.2.2.2.2.2.2.2.2.1, ol.2.2.2.2.2.2.2.2.2.2.2.2.2.2.1, q3.2.2.2.2.2.2.2.2.2.2.2.2.2.2.1, q3.2.2.2.2.2.2.2.2.2.2.2.2.2.2.2) sn sr tp (mW mk mg mt mc T)), 0, 0)
          obtain ⟨q6, hq6, hf⟩ := bnd hf
          refine stp hm 5 (O_fewest_ok hE hq6 ?_)
          show sxWP sc cl Q 108 (64, [some (.ref 0), some (.int v1), some (.int v2), none], [.int q6.1], (cW nw kp im (q3.1, q3.2.1, q3.2.2.1, q3.2.2.2.1, q3.2.2.2.2.1, q3.2.2.2.2.2.1, q3.2.2.2.2.2.2.1, q3.2.2.2.2.2.2.2.1, q3.2.2.2.2.2.2.2.2.1, q3.2.2.2.2.2.2.2.2.2.1, q3.2.2.2.2.2.2.2.2.2.2.1, q3.2.2.2.2.2.2.2.2.2.2.2.1, q3.2.2.2.2.2.2.2.2.2.2.2.2.1, q3.2.2.2.2.2.2.2.2.2.2.2.2.2.1, ol.2.2.2.2.2.2.2.2.2.2.2.2.2.2.1, q6.2.1, q6.2.2) sn sr tp (mW mk mg mt mc T)), 0, 0)
          have m7 : ∀ (m7_0 : Int32), m7_0 = (if (0:Int32) ≤ q6.1 then q6.1 else (-5:Int32)) → sxWP sc cl Q 108 (75, [some (.ref 0), some (.int v1), some (.int v2), some (.int q6.1)], [.int m7_0], (cW nw kp im (q3.1, q3.2.1, q3.2.2.1, q3.2.2.2.1, q3.2.2.2.2.1, q3.2.2.2.2.2.1, q3.2.2.2.2.2.2.1, q3.2.2.2.2.2.2.2.1, q3.2.2.2.2.2.2.2.2.1, q3.2.2.2.2.2.2.2.2.2.1, q3.2.2.2.2.2.2.2.2.2.2.1, q3.2.2.2.2.2.2.2.2.2.2.2.1, q3.2.2.2.2.2.2.2.2.2.2.2.2.1, q3.2.2.2.2.2.2.2.2.2.2.2.2.2.1, ol.2.2.2.2.2.2.2.2.2.2.2.2.2.2.1, q6.2.1, q6.2.2) sn sr tp (mW mk mg mt mc T)), 0, 0) := by
            intro m7_0 em7_0
            subst em7_0
            obtain rfl := Option.some.inj hf
            refine stp hm 1 ?_
            exact h
          refine stp hm 3 (bs (c := (0:Int32) ≤ q6.1) (fun c8 => ?_) (fun c8 => ?_))
          · have c8 : (0:Int32) ≤ q6.1 := c8
            refine stp hm 1 (?_ : sxWP sc cl Q 108 (75, [some (.ref 0), some (.int v1), some (.int v2), some (.int q6.1)], [.int q6.1], (cW nw kp im (q3.1, q3.2.1, q3.2.2.1, q3.2.2.2.1, q3.2.2.2.2.1, q3.2.2.2.2.2.1, q3.2.2.2.2.2.2.1, q3.2.2.2.2.2.2.2.1, q3.2.2.2.2.2.2.2.2.1, q3.2.2.2.2.2.2.2.2.2.1, q3.2.2.2.2.2.2.2.2.2.2.1, q3.2.2.2.2.2.2.2.2.2.2.2.1, q3.2.2.2.2.2.2.2.2.2.2.2.2.1, q3.2.2.2.2.2.2.2.2.2.2.2.2.2.1, ol.2.2.2.2.2.2.2.2.2.2.2.2.2.2.1, q6.2.1, q6.2.2) sn sr tp (mW mk mg mt mc T)), 0, 0))
            exact m7 _ (by rw [if_pos c8])
          · have c8 : ¬ (0:Int32) ≤ q6.1 := c8
            refine stp hm 2 (?_ : sxWP sc cl Q 108 (75, [some (.ref 0), some (.int v1), some (.int v2), some (.int q6.1)], [.int (-5:Int32)], (cW nw kp im (q3.1, q3.2.1, q3.2.2.1, q3.2.2.2.1, q3.2.2.2.2.1, q3.2.2.2.2.2.1, q3.2.2.2.2.2.2.1, q3.2.2.2.2.2.2.2.1, q3.2.2.2.2.2.2.2.2.1, q3.2.2.2.2.2.2.2.2.2.1, q3.2.2.2.2.2.2.2.2.2.2.1, q3.2.2.2.2.2.2.2.2.2.2.2.1, q3.2.2.2.2.2.2.2.2.2.2.2.2.1, q3.2.2.2.2.2.2.2.2.2.2.2.2.2.1, ol.2.2.2.2.2.2.2.2.2.2.2.2.2.2.1, q6.2.1, q6.2.2) sn sr tp (mW mk mg mt mc T)), 0, 0))
            exact m7 _ (by rw [if_neg c8])
        · show sxWP sc cl Q 108 (52, [some (.ref 0), some (.int v1), some (.int v2), none], [], (cW nw kp im (q3.1, q3.2.1, q3.2.2.1, q3.2.2.2.1, q3.2.2.2.2.1, q3.2.2.2.2.2.1, q3.2.2.2.2.2.2.1, q3.2.2.2.2.2.2.2.1, q3.2.2.2.2.2.2.2.2.1, q3.2.2.2.2.2.2.2.2.2.1, q3.2.2.2.2.2.2.2.2.2.2.1, q3.2.2.2.2.2.2.2.2.2.2.2.1, q3.2.2.2.2.2.2.2.2.2.2.2.2.1, q3.2.2.2.2.2.2.2.2.2.2.2.2.2.1, ol.2.2.2.2.2.2.2.2.2.2.2.2.2.2.1, q3.2.2.2.2.2.2.2.2.2.2.2.2.2.2.1, q3.2.2.2.2.2.2.2.2.2.2.2.2.2.2.2) sn sr tp (mW mk mg mt mc T)), 0, 0)
          exact J52 _ _ _ _ _ _ _ _ _ _ _ _ _ _ _ _ _ _ _ _ hf
    · show sxWP sc cl Q 108 (14, [some (.ref 0), some (.int v1), some (.int v2), none], [], (cW nw kp im ol sn sr tp (mW mk mg mt mc T)), 0, 0)
      exact J14 _ _ _ _ _ _ _ _ _ _ _ _ _ _ _ _ _ _ _ _ hf

def M_far_j32  (gfa_j : (Nat → Int32)) (gqu_j : (Nat → Int32)) : Option (Int32 × (Nat → Int32) × (Nat → Int32)) := some ((-5:Int32), gfa_j, gqu_j)
def M_far_j14  (gfa_j : (Nat → Int32)) (gqu_j : (Nat → Int32)) : Option (Int32 × (Nat → Int32) × (Nat → Int32)) := some ((-1:Int32), gfa_j, gqu_j)
def M_far (v1 : Int32) (v2 : Int32) (mrg : Int64) (gfa : (Nat → Int32)) (gqu : (Nat → Int32)) : Option (Int32 × (Nat → Int32) × (Nat → Int32)) := if (M_isVertex v1) = (0:Int32) then (M_far_j14 gfa gqu) else (if (M_isVertex v2) = (0:Int32) then (M_far_j14 gfa gqu) else (if (M_isOf v1 mrg) = (0:Int32) then (M_far_j32 gfa gqu) else (if (M_isOf v2 mrg) = (0:Int32) then (M_far_j32 gfa gqu) else (Option.bind (M_goesFrom v1 mrg gfa gqu) (fun q5 => grd (gi (((49:Int32) * v1) + v2) 2401) (some (if (q5.1 (((49:Int32) * v1) + v2).toNatClampNeg) = (-1:Int32) then (-5:Int32) else (q5.1 (((49:Int32) * v1) + v2).toNatClampNeg), q5.1, q5.2)))))))
set_option maxRecDepth 10000 in
theorem M_far_ok {v1 : Int32} {v2 : Int32} {q : (Int32 × (Nat → Int32) × (Nat → Int32))} (hc : call = sxE sc (d + 6)) (hf : M_far v1 v2 mk.1 mg.2.2.2.2.2.2.2.1 mg.2.2.2.2.2.2.2.2.1 = some q) (h : Q (some (.int q.1)) (cW nw kp im ol sn sr tp (mW mk (mg.1, mg.2.1, mg.2.2.1, mg.2.2.2.1, mg.2.2.2.2.1, mg.2.2.2.2.2.1, mg.2.2.2.2.2.2.1, q.2.1, q.2.2, mg.2.2.2.2.2.2.2.2.2.1, mg.2.2.2.2.2.2.2.2.2.2.1, mg.2.2.2.2.2.2.2.2.2.2.2.1, mg.2.2.2.2.2.2.2.2.2.2.2.2) mt mc T))) : call 205 [.ref 59, .int v1, .int v2] (cW nw kp im ol sn sr tp (mW mk mg mt mc T)) Q := by
  refine ent hc rfl (fun cl hE hm => ?_)
  have J32 : ∀ (gfa_j : (Nat → Int32)) (gqu_j : (Nat → Int32)) (z0 : Option Value) (z1 : Option Value) (z2 : Option Value) (z3 : Option Value), M_far_j32 gfa_j gqu_j = some q → sxWP sc cl Q 205 (32, [z0, z1, z2, z3], [], (cW nw kp im ol sn sr tp (mW mk (mg.1, mg.2.1, mg.2.2.1, mg.2.2.2.1, mg.2.2.2.2.1, mg.2.2.2.2.2.1, mg.2.2.2.2.2.2.1, gfa_j, gqu_j, mg.2.2.2.2.2.2.2.2.2.1, mg.2.2.2.2.2.2.2.2.2.2.1, mg.2.2.2.2.2.2.2.2.2.2.2.1, mg.2.2.2.2.2.2.2.2.2.2.2.2) mt mc T)), 0, 0) := by
    intro gfa_j gqu_j z0 z1 z2 z3 hf
    unfold M_far_j32 at hf
    obtain rfl := Option.some.inj hf
    refine stp hm 2 ?_
    exact h
  have J14 : ∀ (gfa_j : (Nat → Int32)) (gqu_j : (Nat → Int32)) (z0 : Option Value) (z1 : Option Value) (z2 : Option Value) (z3 : Option Value), M_far_j14 gfa_j gqu_j = some q → sxWP sc cl Q 205 (14, [z0, z1, z2, z3], [], (cW nw kp im ol sn sr tp (mW mk (mg.1, mg.2.1, mg.2.2.1, mg.2.2.2.1, mg.2.2.2.2.1, mg.2.2.2.2.2.1, mg.2.2.2.2.2.2.1, gfa_j, gqu_j, mg.2.2.2.2.2.2.2.2.2.1, mg.2.2.2.2.2.2.2.2.2.2.1, mg.2.2.2.2.2.2.2.2.2.2.2.1, mg.2.2.2.2.2.2.2.2.2.2.2.2) mt mc T)), 0, 0) := by
    intro gfa_j gqu_j z0 z1 z2 z3 hf
    unfold M_far_j14 at hf
    obtain rfl := Option.some.inj hf
    refine stp hm 2 ?_
    exact h
  unfold M_far at hf
  refine stp hm 2 (M_isVertex_ok hE rfl ?_)
  show sxWP sc cl Q 205 (4, [some (.ref 59), some (.int v1), some (.int v2), none], [.int (M_isVertex v1)], (cW nw kp im ol sn sr tp (mW mk mg mt mc T)), 0, 0)
  refine stp hm 1 (br hf (fun c1 hf => ?_) (fun c1 hf => ?_))
  · show sxWP sc cl Q 205 (14, [some (.ref 59), some (.int v1), some (.int v2), none], [], (cW nw kp im ol sn sr tp (mW mk mg mt mc T)), 0, 0)
    exact J14 _ _ _ _ _ _ hf
  · show sxWP sc cl Q 205 (7, [some (.ref 59), some (.int v1), some (.int v2), none], [], (cW nw kp im ol sn sr tp (mW mk mg mt mc T)), 0, 0)
    refine stp hm 2 (M_isVertex_ok hE rfl ?_)
    show sxWP sc cl Q 205 (11, [some (.ref 59), some (.int v1), some (.int v2), none], [.int (M_isVertex v2)], (cW nw kp im ol sn sr tp (mW mk mg mt mc T)), 0, 0)
    refine stp hm 1 (brn hf (fun c2 hf => ?_) (fun c2 hf => ?_))
    · show sxWP sc cl Q 205 (16, [some (.ref 59), some (.int v1), some (.int v2), none], [], (cW nw kp im ol sn sr tp (mW mk mg mt mc T)), 0, 0)
      refine stp hm 3 (M_isOf_ok hE rfl ?_)
      show sxWP sc cl Q 205 (21, [some (.ref 59), some (.int v1), some (.int v2), none], [.int (M_isOf v1 mk.1)], (cW nw kp im ol sn sr tp (mW mk mg mt mc T)), 0, 0)
      refine stp hm 1 (br hf (fun c3 hf => ?_) (fun c3 hf => ?_))
      · show sxWP sc cl Q 205 (32, [some (.ref 59), some (.int v1), some (.int v2), none], [], (cW nw kp im ol sn sr tp (mW mk mg mt mc T)), 0, 0)
        exact J32 _ _ _ _ _ _ hf
      · show sxWP sc cl Q 205 (24, [some (.ref 59), some (.int v1), some (.int v2), none], [], (cW nw kp im ol sn sr tp (mW mk mg mt mc T)), 0, 0)
        refine stp hm 3 (M_isOf_ok hE rfl ?_)
        show sxWP sc cl Q 205 (29, [some (.ref 59), some (.int v1), some (.int v2), none], [.int (M_isOf v2 mk.1)], (cW nw kp im ol sn sr tp (mW mk mg mt mc T)), 0, 0)
        refine stp hm 1 (brn hf (fun c4 hf => ?_) (fun c4 hf => ?_))
        · show sxWP sc cl Q 205 (35, [some (.ref 59), some (.int v1), some (.int v2), none], [], (cW nw kp im ol sn sr tp (mW mk mg mt mc T)), 0, 0)
          obtain ⟨q5, hq5, hf⟩ := bnd hf
          refine stp hm 3 (M_goesFrom_ok hE hq5 ?_)
          show sxWP sc cl Q 205 (40, [some (.ref 59), some (.int v1), some (.int v2), none], [], (cW nw kp im ol sn sr tp (mW mk (mg.1, mg.2.1, mg.2.2.1, mg.2.2.2.1, mg.2.2.2.2.1, mg.2.2.2.2.2.1, mg.2.2.2.2.2.2.1, q5.1, q5.2, mg.2.2.2.2.2.2.2.2.2.1, mg.2.2.2.2.2.2.2.2.2.2.1, mg.2.2.2.2.2.2.2.2.2.2.2.1, mg.2.2.2.2.2.2.2.2.2.2.2.2) mt mc T)), 0, 0)
          obtain ⟨g6, hf⟩ := grd_e hf
          refine stp hm 8 (And.intro (gi_in g6) (?_ : sxWP sc cl Q 205 (51, [some (.ref 59), some (.int v1), some (.int v2), none], [.int (q5.1 (((49:Int32) * v1) + v2).toNatClampNeg)], (cW nw kp im ol sn sr tp (mW mk (mg.1, mg.2.1, mg.2.2.1, mg.2.2.2.1, mg.2.2.2.2.1, mg.2.2.2.2.2.1, mg.2.2.2.2.2.2.1, q5.1, q5.2, mg.2.2.2.2.2.2.2.2.2.1, mg.2.2.2.2.2.2.2.2.2.2.1, mg.2.2.2.2.2.2.2.2.2.2.2.1, mg.2.2.2.2.2.2.2.2.2.2.2.2) mt mc T)), 0, 0)))
          have m7 : ∀ (m7_0 : Int32), m7_0 = (if (q5.1 (((49:Int32) * v1) + v2).toNatClampNeg) = (-1:Int32) then (-5:Int32) else (q5.1 (((49:Int32) * v1) + v2).toNatClampNeg)) → sxWP sc cl Q 205 (63, [some (.ref 59), some (.int v1), some (.int v2), some (.int (q5.1 (((49:Int32) * v1) + v2).toNatClampNeg))], [.int m7_0], (cW nw kp im ol sn sr tp (mW mk (mg.1, mg.2.1, mg.2.2.1, mg.2.2.2.1, mg.2.2.2.2.1, mg.2.2.2.2.2.1, mg.2.2.2.2.2.2.1, q5.1, q5.2, mg.2.2.2.2.2.2.2.2.2.1, mg.2.2.2.2.2.2.2.2.2.2.1, mg.2.2.2.2.2.2.2.2.2.2.2.1, mg.2.2.2.2.2.2.2.2.2.2.2.2) mt mc T)), 0, 0) := by
            intro m7_0 em7_0
            subst em7_0
            obtain rfl := Option.some.inj hf
            refine stp hm 1 ?_
            exact h
          refine stp hm 4 (bsn (c := (q5.1 (((49:Int32) * v1) + v2).toNatClampNeg) = (-1:Int32)) (fun c8 => ?_) (fun c8 => ?_))
          · have c8 : ¬ (q5.1 (((49:Int32) * v1) + v2).toNatClampNeg) = (-1:Int32) := c8
            refine stp hm 1 (?_ : sxWP sc cl Q 205 (63, [some (.ref 59), some (.int v1), some (.int v2), some (.int (q5.1 (((49:Int32) * v1) + v2).toNatClampNeg))], [.int (q5.1 (((49:Int32) * v1) + v2).toNatClampNeg)], (cW nw kp im ol sn sr tp (mW mk (mg.1, mg.2.1, mg.2.2.1, mg.2.2.2.1, mg.2.2.2.2.1, mg.2.2.2.2.2.1, mg.2.2.2.2.2.2.1, q5.1, q5.2, mg.2.2.2.2.2.2.2.2.2.1, mg.2.2.2.2.2.2.2.2.2.2.1, mg.2.2.2.2.2.2.2.2.2.2.2.1, mg.2.2.2.2.2.2.2.2.2.2.2.2) mt mc T)), 0, 0))
            exact m7 _ (by rw [if_neg c8])
          · have c8 : (q5.1 (((49:Int32) * v1) + v2).toNatClampNeg) = (-1:Int32) := c8
            refine stp hm 2 (?_ : sxWP sc cl Q 205 (63, [some (.ref 59), some (.int v1), some (.int v2), some (.int (q5.1 (((49:Int32) * v1) + v2).toNatClampNeg))], [.int (-5:Int32)], (cW nw kp im ol sn sr tp (mW mk (mg.1, mg.2.1, mg.2.2.1, mg.2.2.2.1, mg.2.2.2.2.1, mg.2.2.2.2.2.1, mg.2.2.2.2.2.2.1, q5.1, q5.2, mg.2.2.2.2.2.2.2.2.2.1, mg.2.2.2.2.2.2.2.2.2.2.1, mg.2.2.2.2.2.2.2.2.2.2.2.1, mg.2.2.2.2.2.2.2.2.2.2.2.2) mt mc T)), 0, 0))
            exact m7 _ (by rw [if_pos c8])
        · show sxWP sc cl Q 205 (32, [some (.ref 59), some (.int v1), some (.int v2), none], [], (cW nw kp im ol sn sr tp (mW mk mg mt mc T)), 0, 0)
          exact J32 _ _ _ _ _ _ hf
    · show sxWP sc cl Q 205 (14, [some (.ref 59), some (.int v1), some (.int v2), none], [], (cW nw kp im ol sn sr tp (mW mk mg mt mc T)), 0, 0)
      exact J14 _ _ _ _ _ _ hf

def B_ofFloat_s15   (s : (UInt32 × Int32 × Int32)) : Option ((UInt32 × Int32 × Int32) ⊕ (UInt32 × Int32)) := if (128:Int32) ≤ s.2.2 then (some (Sum.inr (s.1, s.2.1))) else (if (Op.cmpValue (FP.fcmp s.1 FP.fconst2) .l) < (0:Int32) then (some (Sum.inr (s.1, s.2.1))) else (grd (nn32 (FP.fmul s.1 (1056964608:UInt32))) (some (Sum.inl (FP.fmul s.1 (1056964608:UInt32), s.2.1 + (1:Int32), s.2.2 + (1:Int32))))))
def B_ofFloat_s44   (s : (UInt32 × Int32 × Int32)) : Option ((UInt32 × Int32 × Int32) ⊕ (UInt32 × Int32)) := if (126:Int32) ≤ s.2.2 then (some (Sum.inr (s.1, s.2.1))) else (if (0:Int32) ≤ (Op.cmpValue (FP.fcmp s.1 FP.fconst1) .g) then (some (Sum.inr (s.1, s.2.1))) else (grd (nn32 (FP.fmul s.1 FP.fconst2)) (some (Sum.inl (FP.fmul s.1 FP.fconst2, s.2.1 + (-1:Int32), s.2.2 + (1:Int32))))))
def B_ofFloat (v0 : UInt32)  : Option Int32 := if (0:Int32) < (Op.cmpValue (FP.fcmp v0 FP.fconst0) .g) then (Option.bind (wh (B_ofFloat_s15) FU (v0, (127:Int32), (0:Int32))) (fun w2 => Option.bind (wh (B_ofFloat_s44) FU (w2.1, w2.2, (0:Int32))) (fun w3 => grd (nn32 (FP.fsub w3.1 FP.fconst1)) (grd (nn32 (FP.fmul (FP.fsub w3.1 FP.fconst1) (1258291200:UInt32))) (some ((w3.2 <<< ((23:Int32) &&& 31)) ||| (FP.f2i (FP.fmul (FP.fsub w3.1 FP.fconst1) (1258291200:UInt32))))))))) else (some (0:Int32))
set_option maxRecDepth 10000 in
theorem B_ofFloat_l15    (hE : cl = sxE sc (d + 0)) (hm : CallMono cl) : ∀ (n : Nat) (s : (UInt32 × Int32 × Int32)) (r : (UInt32 × Int32)), wh (B_ofFloat_s15) n s = some r → (∀ (z0 z3 : Option Value), sxWP sc cl Q 0 (42, [z0, some (.float r.1), some (.int r.2), z3], [], (cW nw kp im ol sn sr tp (mW mk mg mt mc T)), 0, 0)) → ∀ (z0 : Option Value), sxWP sc cl Q 0 (15, [z0, some (.float s.1), some (.int s.2.1), some (.int s.2.2)], [], (cW nw kp im ol sn sr tp (mW mk mg mt mc T)), 0, 0) := by
  refine wh_run (A := fun (s : (UInt32 × Int32 × Int32)) => ∀ (z0 : Option Value), sxWP sc cl Q 0 (15, [z0, some (.float s.1), some (.int s.2.1), some (.int s.2.2)], [], (cW nw kp im ol sn sr tp (mW mk mg mt mc T)), 0, 0)) (B := fun (r : (UInt32 × Int32)) => ∀ (z0 z3 : Option Value), sxWP sc cl Q 0 (42, [z0, some (.float r.1), some (.int r.2), z3], [], (cW nw kp im ol sn sr tp (mW mk mg mt mc T)), 0, 0)) (fun s x hf hA hB => ?_)
  intro z0
  unfold B_ofFloat_s15 at hf
  refine stp hm 3 (br hf (fun c1 hf => ?_) (fun c1 hf => ?_))
  · show sxWP sc cl Q 0 (42, [z0, some (.float s.1), some (.int s.2.1), some (.int s.2.2)], [], (cW nw kp im ol sn sr tp (mW mk mg mt mc T)), 0, 0)
    obtain rfl := Option.some.inj hf
    exact hB _ rfl _ _
  · show sxWP sc cl Q 0 (22, [z0, some (.float s.1), some (.int s.2.1), some (.int s.2.2)], [], (cW nw kp im ol sn sr tp (mW mk mg mt mc T)), 0, 0)
    refine stp hm 4 (br hf (fun c2 hf => ?_) (fun c2 hf => ?_))
    · show sxWP sc cl Q 0 (42, [z0, some (.float s.1), some (.int s.2.1), some (.int s.2.2)], [], (cW nw kp im ol sn sr tp (mW mk mg mt mc T)), 0, 0)
      obtain rfl := Option.some.inj hf
      exact hB _ rfl _ _
    · show sxWP sc cl Q 0 (28, [z0, some (.float s.1), some (.int s.2.1), some (.int s.2.2)], [], (cW nw kp im ol sn sr tp (mW mk mg mt mc T)), 0, 0)
      obtain ⟨g3, hf⟩ := grd_e hf
      refine stp hm 3 (And.intro (nn32_e g3) (?_ : sxWP sc cl Q 0 (32, [z0, some (.float s.1), some (.int s.2.1), some (.int s.2.2)], [.float (FP.fmul s.1 (1056964608:UInt32))], (cW nw kp im ol sn sr tp (mW mk mg mt mc T)), 0, 0)))
      obtain rfl := Option.some.inj hf
      refine stp hm 4 (?_ : sxWP sc cl Q 0 (15, [(sxc2 z0), some (.float (FP.fmul s.1 (1056964608:UInt32))), some (.int (s.2.1 + (1:Int32))), some (.int (s.2.2 + (1:Int32)))], [], (cW nw kp im ol sn sr tp (mW mk mg mt mc T)), 0, 0))
      exact hA _ rfl _
set_option maxRecDepth 10000 in
theorem B_ofFloat_l44    (hE : cl = sxE sc (d + 0)) (hm : CallMono cl) : ∀ (n : Nat) (s : (UInt32 × Int32 × Int32)) (r : (UInt32 × Int32)), wh (B_ofFloat_s44) n s = some r → (∀ (z0 z3 : Option Value), sxWP sc cl Q 0 (69, [z0, some (.float r.1), some (.int r.2), z3], [], (cW nw kp im ol sn sr tp (mW mk mg mt mc T)), 0, 0)) → ∀ (z0 : Option Value), sxWP sc cl Q 0 (44, [z0, some (.float s.1), some (.int s.2.1), some (.int s.2.2)], [], (cW nw kp im ol sn sr tp (mW mk mg mt mc T)), 0, 0) := by
  refine wh_run (A := fun (s : (UInt32 × Int32 × Int32)) => ∀ (z0 : Option Value), sxWP sc cl Q 0 (44, [z0, some (.float s.1), some (.int s.2.1), some (.int s.2.2)], [], (cW nw kp im ol sn sr tp (mW mk mg mt mc T)), 0, 0)) (B := fun (r : (UInt32 × Int32)) => ∀ (z0 z3 : Option Value), sxWP sc cl Q 0 (69, [z0, some (.float r.1), some (.int r.2), z3], [], (cW nw kp im ol sn sr tp (mW mk mg mt mc T)), 0, 0)) (fun s x hf hA hB => ?_)
  intro z0
  unfold B_ofFloat_s44 at hf
  refine stp hm 3 (br hf (fun c1 hf => ?_) (fun c1 hf => ?_))
  · show sxWP sc cl Q 0 (69, [z0, some (.float s.1), some (.int s.2.1), some (.int s.2.2)], [], (cW nw kp im ol sn sr tp (mW mk mg mt mc T)), 0, 0)
    obtain rfl := Option.some.inj hf
    exact hB _ rfl _ _
  · show sxWP sc cl Q 0 (50, [z0, some (.float s.1), some (.int s.2.1), some (.int s.2.2)], [], (cW nw kp im ol sn sr tp (mW mk mg mt mc T)), 0, 0)
    refine stp hm 4 (br hf (fun c2 hf => ?_) (fun c2 hf => ?_))
    · show sxWP sc cl Q 0 (69, [z0, some (.float s.1), some (.int s.2.1), some (.int s.2.2)], [], (cW nw kp im ol sn sr tp (mW mk mg mt mc T)), 0, 0)
      obtain rfl := Option.some.inj hf
      exact hB _ rfl _ _
    · show sxWP sc cl Q 0 (56, [z0, some (.float s.1), some (.int s.2.1), some (.int s.2.2)], [], (cW nw kp im ol sn sr tp (mW mk mg mt mc T)), 0, 0)
      obtain ⟨g3, hf⟩ := grd_e hf
      refine stp hm 3 (And.intro (nn32_e g3) (?_ : sxWP sc cl Q 0 (59, [z0, some (.float s.1), some (.int s.2.1), some (.int s.2.2)], [.float (FP.fmul s.1 FP.fconst2)], (cW nw kp im ol sn sr tp (mW mk mg mt mc T)), 0, 0)))
      obtain rfl := Option.some.inj hf
      refine stp hm 4 (?_ : sxWP sc cl Q 0 (44, [(sxc2 z0), some (.float (FP.fmul s.1 FP.fconst2)), some (.int (s.2.1 + (-1:Int32))), some (.int (s.2.2 + (1:Int32)))], [], (cW nw kp im ol sn sr tp (mW mk mg mt mc T)), 0, 0))
      exact hA _ rfl _
set_option maxRecDepth 10000 in
theorem B_ofFloat_ok {v0 : UInt32} {q : Int32} (hc : call = sxE sc (d + 1)) (hf : B_ofFloat v0 = some q) (h : Q (some (.int q)) (cW nw kp im ol sn sr tp (mW mk mg mt mc T))) : call 0 [.float v0] (cW nw kp im ol sn sr tp (mW mk mg mt mc T)) Q := by
  refine ent hc rfl (fun cl hE hm => ?_)
  unfold B_ofFloat at hf
  refine stp hm 4 (br hf (fun c1 hf => ?_) (fun c1 hf => ?_))
  · show sxWP sc cl Q 0 (8, [some (.float v0), none, none, none], [], (cW nw kp im ol sn sr tp (mW mk mg mt mc T)), 0, 0)
    obtain ⟨w2, hw2, hf⟩ := bnd hf
    refine stp hm 6 (?_ : sxWP sc cl Q 0 (15, [some (.float v0), some (.float v0), some (.int (127:Int32)), some (.int (0:Int32))], [], (cW nw kp im ol sn sr tp (mW mk mg mt mc T)), 0, 0))
    refine B_ofFloat_l15 hE hm _ _ _ hw2 ?_ _
    intro w2_z0 w2_z3
    show sxWP sc cl Q 0 (42, [w2_z0, some (.float w2.1), some (.int w2.2), w2_z3], [], (cW nw kp im ol sn sr tp (mW mk mg mt mc T)), 0, 0)
    obtain ⟨w3, hw3, hf⟩ := bnd hf
    refine stp hm 2 (?_ : sxWP sc cl Q 0 (44, [w2_z0, some (.float w2.1), some (.int w2.2), some (.int (0:Int32))], [], (cW nw kp im ol sn sr tp (mW mk mg mt mc T)), 0, 0))
    refine B_ofFloat_l44 hE hm _ _ _ hw3 ?_ _
    intro w3_z0 w3_z3
    show sxWP sc cl Q 0 (69, [w3_z0, some (.float w3.1), some (.int w3.2), w3_z3], [], (cW nw kp im ol sn sr tp (mW mk mg mt mc T)), 0, 0)
    obtain ⟨g4, hf⟩ := grd_e hf
    refine stp hm 6 (And.intro (nn32_e g4) (?_ : sxWP sc cl Q 0 (76, [w3_z0, some (.float w3.1), some (.int w3.2), w3_z3], [.float (FP.fsub w3.1 FP.fconst1), .int (w3.2 <<< ((23:Int32) &&& 31))], (cW nw kp im ol sn sr tp (mW mk mg mt mc T)), 0, 0)))
    obtain ⟨g5, hf⟩ := grd_e hf
    refine stp hm 2 (And.intro (nn32_e g5) (?_ : sxWP sc cl Q 0 (79, [w3_z0, some (.float w3.1), some (.int w3.2), w3_z3], [.float (FP.fmul (FP.fsub w3.1 FP.fconst1) (1258291200:UInt32)), .int (w3.2 <<< ((23:Int32) &&& 31))], (cW nw kp im ol sn sr tp (mW mk mg mt mc T)), 0, 0)))
    obtain rfl := Option.some.inj hf
    refine stp hm 3 ?_
    exact h
  · show sxWP sc cl Q 0 (6, [some (.float v0), none, none, none], [], (cW nw kp im ol sn sr tp (mW mk mg mt mc T)), 0, 0)
    obtain rfl := Option.some.inj hf
    refine stp hm 2 ?_
    exact h

def X_centre_j82  (v3 : UInt32) (v4 : Int32) : Option ((UInt32 × Int32) ⊕ UInt32) := some (Sum.inl (v3, v4 + (1:Int32)))
def X_centre_s32  (v1 : Int32) (nrg : Int64) (s : (UInt32 × Int32)) : Option ((UInt32 × Int32) ⊕ UInt32) := if (36:Int32) ≤ s.2 then (some (Sum.inr s.1)) else (if (G_holds nrg s.2) = (0:Int32) then (X_centre_j82 s.1 s.2) else (grd (nn32 (FP.fadd (FP.i2f (if v1 = (0:Int32) then (s.2 / (6:Int32)) else (s.2 - s.2 / (6:Int32) * (6:Int32)))) (1056964608:UInt32))) (grd (nn32 (FP.fadd s.1 (FP.fadd (FP.i2f (if v1 = (0:Int32) then (s.2 / (6:Int32)) else (s.2 - s.2 / (6:Int32) * (6:Int32)))) (1056964608:UInt32)))) (X_centre_j82 (FP.fadd s.1 (FP.fadd (FP.i2f (if v1 = (0:Int32) then (s.2 / (6:Int32)) else (s.2 - s.2 / (6:Int32) * (6:Int32)))) (1056964608:UInt32))) s.2))))
def X_centre (v1 : Int32) (nrg : Int64) : Option Int32 := if (X_isBit v1) = (0:Int32) then (some (-1:Int32)) else (if (J_Long_bitCount nrg) = (0:Int32) then (some (-3:Int32)) else (Option.bind (wh (X_centre_s32 v1 nrg) FU (FP.fconst0, (0:Int32))) (fun w3 => grd (nn32 (FP.fdiv w3 (FP.i2f (J_Long_bitCount nrg)))) (Option.bind (B_ofFloat (FP.fdiv w3 (FP.i2f (J_Long_bitCount nrg)))) (fun q5 => some q5)))))
set_option maxRecDepth 10000 in
theorem X_centre_l32 {v1 : Int32} {v2 : Int32}   (hE : cl = sxE sc (d + 2)) (hm : CallMono cl) : ∀ (n : Nat) (s : (UInt32 × Int32)) (r : UInt32), wh (X_centre_s32 v1 nw.1) n s = some r → (∀ (z0 z1 z4 z5 : Option Value), sxWP sc cl Q 109 (88, [z0, z1, some (.int v2), some (.float r), z4, z5], [], (cW nw kp im ol sn sr tp (mW mk mg mt mc T)), 0, 0)) → ∀ (z5 : Option Value), sxWP sc cl Q 109 (32, [some (.ref 0), some (.int v1), some (.int v2), some (.float s.1), some (.int s.2), z5], [], (cW nw kp im ol sn sr tp (mW mk mg mt mc T)), 0, 0) := by
  refine wh_run (A := fun (s : (UInt32 × Int32)) => ∀ (z5 : Option Value), sxWP sc cl Q 109 (32, [some (.ref 0), some (.int v1), some (.int v2), some (.float s.1), some (.int s.2), z5], [], (cW nw kp im ol sn sr tp (mW mk mg mt mc T)), 0, 0)) (B := fun (r : UInt32) => ∀ (z0 z1 z4 z5 : Option Value), sxWP sc cl Q 109 (88, [z0, z1, some (.int v2), some (.float r), z4, z5], [], (cW nw kp im ol sn sr tp (mW mk mg mt mc T)), 0, 0)) (fun s x hf hA hB => ?_)
  intro z5
  have J82 : ∀ (v3 : UInt32) (v4 : Int32) (z5 : Option Value), X_centre_j82 v3 v4 = some x → sxWP sc cl Q 109 (82, [some (.ref 0), some (.int v1), some (.int v2), some (.float v3), some (.int v4), z5], [], (cW nw kp im ol sn sr tp (mW mk mg mt mc T)), 0, 0) := by
    intro v3 v4 z5 hf
    unfold X_centre_j82 at hf
    obtain rfl := Option.some.inj hf
    refine stp hm 2 (?_ : sxWP sc cl Q 109 (32, [some (.ref 0), some (.int v1), some (.int v2), some (.float v3), some (.int (v4 + (1:Int32))), z5], [], (cW nw kp im ol sn sr tp (mW mk mg mt mc T)), 0, 0))
    exact hA _ rfl _
  unfold X_centre_s32 at hf
  refine stp hm 3 (br hf (fun c1 hf => ?_) (fun c1 hf => ?_))
  · show sxWP sc cl Q 109 (88, [some (.ref 0), some (.int v1), some (.int v2), some (.float s.1), some (.int s.2), z5], [], (cW nw kp im ol sn sr tp (mW mk mg mt mc T)), 0, 0)
    obtain rfl := Option.some.inj hf
    exact hB _ rfl _ _ _ _
  · show sxWP sc cl Q 109 (39, [some (.ref 0), some (.int v1), some (.int v2), some (.float s.1), some (.int s.2), z5], [], (cW nw kp im ol sn sr tp (mW mk mg mt mc T)), 0, 0)
    refine stp hm 5 (G_holds_ok hE rfl ?_)
    show sxWP sc cl Q 109 (51, [some (.ref 0), some (.int v1), some (.int v2), some (.float s.1), some (.int s.2), z5], [.int (G_holds nw.1 s.2)], (cW nw kp im ol sn sr tp (mW mk mg mt mc T)), 0, 0)
    refine stp hm 1 (br hf (fun c2 hf => ?_) (fun c2 hf => ?_))
    · show sxWP sc cl Q 109 (82, [some (.ref 0), some (.int v1), some (.int v2), some (.float s.1), some (.int s.2), z5], [], (cW nw kp im ol sn sr tp (mW mk mg mt mc T)), 0, 0)
      exact J82 _ _ _ hf
    · show sxWP sc cl Q 109 (54, [some (.ref 0), some (.int v1), some (.int v2), some (.float s.1), some (.int s.2), z5], [], (cW nw kp im ol sn sr tp (mW mk mg mt mc T)), 0, 0)
      have m3 : ∀ (m3_0 : Int32), m3_0 = (if v1 = (0:Int32) then (s.2 / (6:Int32)) else (s.2 - s.2 / (6:Int32) * (6:Int32))) → sxWP sc cl Q 109 (71, [some (.ref 0), some (.int v1), some (.int v2), some (.float s.1), some (.int s.2), z5], [.int m3_0], (cW nw kp im ol sn sr tp (mW mk mg mt mc T)), 0, 0) := by
        intro m3_0 em3_0
        subst em3_0
        obtain ⟨g4, hf⟩ := grd_e hf
        refine stp hm 6 (And.intro (nn32_e g4) (?_ : sxWP sc cl Q 109 (80, [some (.ref 0), some (.int v1), some (.int v2), some (.float s.1), some (.int s.2), some (.int (if v1 = (0:Int32) then (s.2 / (6:Int32)) else (s.2 - s.2 / (6:Int32) * (6:Int32))))], [.float (FP.fadd (FP.i2f (if v1 = (0:Int32) then (s.2 / (6:Int32)) else (s.2 - s.2 / (6:Int32) * (6:Int32)))) (1056964608:UInt32)), .float s.1], (cW nw kp im ol sn sr tp (mW mk mg mt mc T)), 0, 0)))
        obtain ⟨g5, hf⟩ := grd_e hf
        refine stp hm 1 (And.intro (nn32_e g5) (?_ : sxWP sc cl Q 109 (81, [some (.ref 0), some (.int v1), some (.int v2), some (.float s.1), some (.int s.2), some (.int (if v1 = (0:Int32) then (s.2 / (6:Int32)) else (s.2 - s.2 / (6:Int32) * (6:Int32))))], [.float (FP.fadd s.1 (FP.fadd (FP.i2f (if v1 = (0:Int32) then (s.2 / (6:Int32)) else (s.2 - s.2 / (6:Int32) * (6:Int32)))) (1056964608:UInt32)))], (cW nw kp im ol sn sr tp (mW mk mg mt mc T)), 0, 0)))
        refine stp hm 1 (?_ : sxWP sc cl Q 109 (82, [some (.ref 0), some (.int v1), some (.int v2), some (.float (FP.fadd s.1 (FP.fadd (FP.i2f (if v1 = (0:Int32) then (s.2 / (6:Int32)) else (s.2 - s.2 / (6:Int32) * (6:Int32)))) (1056964608:UInt32)))), some (.int s.2), some (.int (if v1 = (0:Int32) then (s.2 / (6:Int32)) else (s.2 - s.2 / (6:Int32) * (6:Int32))))], [], (cW nw kp im ol sn sr tp (mW mk mg mt mc T)), 0, 0))
        exact J82 _ _ _ hf
      refine stp hm 2 (bsn (c := v1 = (0:Int32)) (fun c6 => ?_) (fun c6 => ?_))
      · have c6 : ¬ v1 = (0:Int32) := c6
        refine stp hm 3 (And.intro (by decide) (?_ : sxWP sc cl Q 109 (71, [some (.ref 0), some (.int v1), some (.int v2), some (.float s.1), some (.int s.2), z5], [.int (s.2 - s.2 / (6:Int32) * (6:Int32))], (cW nw kp im ol sn sr tp (mW mk mg mt mc T)), 0, 0)))
        exact m3 _ (by rw [if_neg c6])
      · have c6 : v1 = (0:Int32) := c6
        refine stp hm 3 (And.intro (by decide) (?_ : sxWP sc cl Q 109 (63, [some (.ref 0), some (.int v1), some (.int v2), some (.float s.1), some (.int s.2), z5], [.int (s.2 / (6:Int32))], (cW nw kp im ol sn sr tp (mW mk mg mt mc T)), 0, 0)))
        refine stp hm 1 (?_ : sxWP sc cl Q 109 (71, [some (.ref 0), some (.int v1), some (.int v2), some (.float s.1), some (.int s.2), z5], [.int (s.2 / (6:Int32))], (cW nw kp im ol sn sr tp (mW mk mg mt mc T)), 0, 0))
        exact m3 _ (by rw [if_pos c6])
set_option maxRecDepth 10000 in
theorem X_centre_ok {v1 : Int32} {q : Int32} (hc : call = sxE sc (d + 3)) (hf : X_centre v1 nw.1 = some q) (h : Q (some (.int q)) (cW nw kp im ol sn sr tp (mW mk mg mt mc T))) : call 109 [.ref 0, .int v1] (cW nw kp im ol sn sr tp (mW mk mg mt mc T)) Q := by
  refine ent hc rfl (fun cl hE hm => ?_)
  unfold X_centre at hf
  refine stp hm 2 (X_isBit_ok hE rfl ?_)
  show sxWP sc cl Q 109 (4, [some (.ref 0), some (.int v1), none, none, none, none], [.int (X_isBit v1)], (cW nw kp im ol sn sr tp (mW mk mg mt mc T)), 0, 0)
  refine stp hm 1 (brn hf (fun c1 hf => ?_) (fun c1 hf => ?_))
  · show sxWP sc cl Q 109 (9, [some (.ref 0), some (.int v1), none, none, none, none], [], (cW nw kp im ol sn sr tp (mW mk mg mt mc T)), 0, 0)
    refine stp hm 4 (J_Long_bitCount_ok hE rfl ?_)
    show sxWP sc cl Q 109 (19, [some (.ref 0), some (.int v1), none, none, none, none], [.int (J_Long_bitCount nw.1)], (cW nw kp im ol sn sr tp (mW mk mg mt mc T)), 0, 0)
    refine stp hm 3 (brn hf (fun c2 hf => ?_) (fun c2 hf => ?_))
    · show sxWP sc cl Q 109 (27, [some (.ref 0), some (.int v1), some (.int (J_Long_bitCount nw.1)), none, none, none], [], (cW nw kp im ol sn sr tp (mW mk mg mt mc T)), 0, 0)
      obtain ⟨w3, hw3, hf⟩ := bnd hf
      refine stp hm 4 (?_ : sxWP sc cl Q 109 (32, [some (.ref 0), some (.int v1), some (.int (J_Long_bitCount nw.1)), some (.float FP.fconst0), some (.int (0:Int32)), none], [], (cW nw kp im ol sn sr tp (mW mk mg mt mc T)), 0, 0))
      refine X_centre_l32 hE hm _ _ _ hw3 ?_ _
      intro w3_z0 w3_z1 w3_z4 w3_z5
      show sxWP sc cl Q 109 (88, [w3_z0, w3_z1, some (.int (J_Long_bitCount nw.1)), some (.float w3), w3_z4, w3_z5], [], (cW nw kp im ol sn sr tp (mW mk mg mt mc T)), 0, 0)
      obtain ⟨g4, hf⟩ := grd_e hf
      refine stp hm 4 (And.intro (nn32_e g4) (?_ : sxWP sc cl Q 109 (92, [w3_z0, w3_z1, some (.int (J_Long_bitCount nw.1)), some (.float w3), w3_z4, w3_z5], [.float (FP.fdiv w3 (FP.i2f (J_Long_bitCount nw.1)))], (cW nw kp im ol sn sr tp (mW mk mg mt mc T)), 0, 0)))
      obtain ⟨q5, hq5, hf⟩ := bnd hf
      refine stp hm 1 (B_ofFloat_ok hE hq5 ?_)
      show sxWP sc cl Q 109 (95, [w3_z0, w3_z1, some (.int (J_Long_bitCount nw.1)), some (.float w3), w3_z4, w3_z5], [.int q5], (cW nw kp im ol sn sr tp (mW mk mg mt mc T)), 0, 0)
      obtain rfl := Option.some.inj hf
      refine stp hm 1 ?_
      exact h
    · show sxWP sc cl Q 109 (24, [some (.ref 0), some (.int v1), some (.int (J_Long_bitCount nw.1)), none, none, none], [], (cW nw kp im ol sn sr tp (mW mk mg mt mc T)), 0, 0)
      obtain rfl := Option.some.inj hf
      refine stp hm 2 ?_
      exact h
  · show sxWP sc cl Q 109 (7, [some (.ref 0), some (.int v1), none, none, none, none], [], (cW nw kp im ol sn sr tp (mW mk mg mt mc T)), 0, 0)
    obtain rfl := Option.some.inj hf
    refine stp hm 2 ?_
    exact h

def J_Float_isNaN (v0 : UInt32)  : Int32 := if (Op.cmpValue (FP.fcmp v0 v0) .l) = (0:Int32) then (0:Int32) else (1:Int32)
set_option maxRecDepth 10000 in
theorem J_Float_isNaN_ok {v0 : UInt32} {r : Int32} (hc : call = sxE sc (d + 1)) (hf : J_Float_isNaN v0 = r) (h : Q (some (.int r)) hp) : call 244 [.float v0] hp Q := by
  refine ent hc rfl (fun cl hE hm => ?_)
  unfold J_Float_isNaN at hf
  have m1 : ∀ (m1_0 : Int32), m1_0 = (if (Op.cmpValue (FP.fcmp v0 v0) .l) = (0:Int32) then (0:Int32) else (1:Int32)) → sxWP sc cl Q 244 (11, [some (.float v0)], [.int m1_0], hp, 0, 0) := by
    intro m1_0 em1_0
    subst em1_0
    subst hf
    refine stp hm 1 (And.intro (by (repeat' split) <;> first | exact Or.inl rfl | exact Or.inr rfl) ?_)
    exact h
  refine stp hm 4 (bs (c := (Op.cmpValue (FP.fcmp v0 v0) .l) = (0:Int32)) (fun c2 => ?_) (fun c2 => ?_))
  · have c2 : (Op.cmpValue (FP.fcmp v0 v0) .l) = (0:Int32) := c2
    refine stp hm 1 (?_ : sxWP sc cl Q 244 (11, [some (.float v0)], [.int (0:Int32)], hp, 0, 0))
    exact m1 _ (by rw [if_pos c2])
  · have c2 : ¬ (Op.cmpValue (FP.fcmp v0 v0) .l) = (0:Int32) := c2
    refine stp hm 2 (?_ : sxWP sc cl Q 244 (11, [some (.float v0)], [.int (1:Int32)], hp, 0, 0))
    exact m1 _ (by rw [if_neg c2])
theorem J_Float_isNaN_z {v0 : UInt32}  : J_Float_isNaN v0 = 0 ∨ J_Float_isNaN v0 = 1 := by
  unfold J_Float_isNaN
  (repeat' split) <;> first | exact Or.inl rfl | exact Or.inr rfl

def J_Float_floatToIntBits (v0 : UInt32)  : Int32 := if (J_Float_isNaN v0) = (0:Int32) then v0.toInt32 else (2143289344:Int32)
set_option maxRecDepth 10000 in
theorem J_Float_floatToIntBits_ok {v0 : UInt32} {r : Int32} (hc : call = sxE sc (d + 2)) (hf : J_Float_floatToIntBits v0 = r) (h : Q (some (.int r)) hp) : call 245 [.float v0] hp Q := by
  refine ent hc rfl (fun cl hE hm => ?_)
  unfold J_Float_floatToIntBits at hf
  refine stp hm 2 (J_Float_isNaN_ok hE rfl ?_)
  show sxWP sc cl Q 245 (4, [some (.float v0)], [.int (J_Float_isNaN v0)], hp, 0, 0)
  refine stp hm 1 (brn hf (fun c1 hf => ?_) (fun c1 hf => ?_))
  · show sxWP sc cl Q 245 (12, [some (.float v0)], [], hp, 0, 0)
    subst hf
    refine stp hm 2 ?_
    exact h
  · show sxWP sc cl Q 245 (7, [some (.float v0)], [], hp, 0, 0)
    subst hf
    refine stp hm 3 ?_
    exact h

def M_centre_j64  (v2 : UInt32) (v3 : Int32) : Option ((UInt32 × Int32) ⊕ UInt32) := some (Sum.inl (v2, v3 + (1:Int32)))
def M_centre_s27  (v1 : Int32) (mrg : Int64) (s : (UInt32 × Int32)) : Option ((UInt32 × Int32) ⊕ UInt32) := if (36:Int32) ≤ s.2 then (some (Sum.inr s.1)) else (if (M_has s.2 mrg) = (0:Int32) then (M_centre_j64 s.1 s.2) else (grd (nn32 (FP.fadd (FP.i2f (if v1 = (0:Int32) then (s.2 / (6:Int32)) else (s.2 - s.2 / (6:Int32) * (6:Int32)))) (1056964608:UInt32))) (grd (nn32 (FP.fadd s.1 (FP.fadd (FP.i2f (if v1 = (0:Int32) then (s.2 / (6:Int32)) else (s.2 - s.2 / (6:Int32) * (6:Int32)))) (1056964608:UInt32)))) (M_centre_j64 (FP.fadd s.1 (FP.fadd (FP.i2f (if v1 = (0:Int32) then (s.2 / (6:Int32)) else (s.2 - s.2 / (6:Int32) * (6:Int32)))) (1056964608:UInt32))) s.2))))
def M_centre (v1 : Int32) (mrg : Int64) : Option Int32 := if (M_isIn v1 (0:Int32) (1:Int32)) = (0:Int32) then (some (-1:Int32)) else (if mrg = (0:Int64) then (some (-3:Int32)) else (Option.bind (wh (M_centre_s27 v1 mrg) FU (FP.fconst0, (0:Int32))) (fun w3 => Option.bind (M_cells mrg) (fun q4 => grd (nn32 (FP.fdiv w3 (FP.i2f q4))) (some (J_Float_floatToIntBits (FP.fdiv w3 (FP.i2f q4))))))))
set_option maxRecDepth 10000 in
theorem M_centre_l27 {v1 : Int32}   (hE : cl = sxE sc (d + 2)) (hm : CallMono cl) : ∀ (n : Nat) (s : (UInt32 × Int32)) (r : UInt32), wh (M_centre_s27 v1 mk.1) n s = some r → (∀ (z1 z3 : Option Value), sxWP sc cl Q 206 (70, [some (.ref 59), z1, some (.float r), z3], [], (cW nw kp im ol sn sr tp (mW mk mg mt mc T)), 0, 0)) → sxWP sc cl Q 206 (27, [some (.ref 59), some (.int v1), some (.float s.1), some (.int s.2)], [], (cW nw kp im ol sn sr tp (mW mk mg mt mc T)), 0, 0) := by
  refine wh_run (A := fun (s : (UInt32 × Int32)) => sxWP sc cl Q 206 (27, [some (.ref 59), some (.int v1), some (.float s.1), some (.int s.2)], [], (cW nw kp im ol sn sr tp (mW mk mg mt mc T)), 0, 0)) (B := fun (r : UInt32) => ∀ (z1 z3 : Option Value), sxWP sc cl Q 206 (70, [some (.ref 59), z1, some (.float r), z3], [], (cW nw kp im ol sn sr tp (mW mk mg mt mc T)), 0, 0)) (fun s x hf hA hB => ?_)
  have J64 : ∀ (v2 : UInt32) (v3 : Int32), M_centre_j64 v2 v3 = some x → sxWP sc cl Q 206 (64, [some (.ref 59), some (.int v1), some (.float v2), some (.int v3)], [], (cW nw kp im ol sn sr tp (mW mk mg mt mc T)), 0, 0) := by
    intro v2 v3 hf
    unfold M_centre_j64 at hf
    obtain rfl := Option.some.inj hf
    refine stp hm 2 (?_ : sxWP sc cl Q 206 (27, [some (.ref 59), some (.int v1), some (.float v2), some (.int (v3 + (1:Int32)))], [], (cW nw kp im ol sn sr tp (mW mk mg mt mc T)), 0, 0))
    exact hA _ rfl
  unfold M_centre_s27 at hf
  refine stp hm 3 (br hf (fun c1 hf => ?_) (fun c1 hf => ?_))
  · show sxWP sc cl Q 206 (70, [some (.ref 59), some (.int v1), some (.float s.1), some (.int s.2)], [], (cW nw kp im ol sn sr tp (mW mk mg mt mc T)), 0, 0)
    obtain rfl := Option.some.inj hf
    exact hB _ rfl _ _
  · show sxWP sc cl Q 206 (33, [some (.ref 59), some (.int v1), some (.float s.1), some (.int s.2)], [], (cW nw kp im ol sn sr tp (mW mk mg mt mc T)), 0, 0)
    refine stp hm 3 (M_has_ok hE rfl ?_)
    show sxWP sc cl Q 206 (38, [some (.ref 59), some (.int v1), some (.float s.1), some (.int s.2)], [.int (M_has s.2 mk.1)], (cW nw kp im ol sn sr tp (mW mk mg mt mc T)), 0, 0)
    refine stp hm 1 (br hf (fun c2 hf => ?_) (fun c2 hf => ?_))
    · show sxWP sc cl Q 206 (64, [some (.ref 59), some (.int v1), some (.float s.1), some (.int s.2)], [], (cW nw kp im ol sn sr tp (mW mk mg mt mc T)), 0, 0)
      exact J64 _ _ hf
    · show sxWP sc cl Q 206 (41, [some (.ref 59), some (.int v1), some (.float s.1), some (.int s.2)], [], (cW nw kp im ol sn sr tp (mW mk mg mt mc T)), 0, 0)
      have m3 : ∀ (m3_0 : Int32), m3_0 = (if v1 = (0:Int32) then (s.2 / (6:Int32)) else (s.2 - s.2 / (6:Int32) * (6:Int32))) → sxWP sc cl Q 206 (57, [some (.ref 59), some (.int v1), some (.float s.1), some (.int s.2)], [.int m3_0, .float s.1], (cW nw kp im ol sn sr tp (mW mk mg mt mc T)), 0, 0) := by
        intro m3_0 em3_0
        subst em3_0
        obtain ⟨g4, hf⟩ := grd_e hf
        refine stp hm 3 (And.intro (nn32_e g4) (?_ : sxWP sc cl Q 206 (62, [some (.ref 59), some (.int v1), some (.float s.1), some (.int s.2)], [.float (FP.fadd (FP.i2f (if v1 = (0:Int32) then (s.2 / (6:Int32)) else (s.2 - s.2 / (6:Int32) * (6:Int32)))) (1056964608:UInt32)), .float s.1], (cW nw kp im ol sn sr tp (mW mk mg mt mc T)), 0, 0)))
        obtain ⟨g5, hf⟩ := grd_e hf
        refine stp hm 1 (And.intro (nn32_e g5) (?_ : sxWP sc cl Q 206 (63, [some (.ref 59), some (.int v1), some (.float s.1), some (.int s.2)], [.float (FP.fadd s.1 (FP.fadd (FP.i2f (if v1 = (0:Int32) then (s.2 / (6:Int32)) else (s.2 - s.2 / (6:Int32) * (6:Int32)))) (1056964608:UInt32)))], (cW nw kp im ol sn sr tp (mW mk mg mt mc T)), 0, 0)))
        refine stp hm 1 (?_ : sxWP sc cl Q 206 (64, [some (.ref 59), some (.int v1), some (.float (FP.fadd s.1 (FP.fadd (FP.i2f (if v1 = (0:Int32) then (s.2 / (6:Int32)) else (s.2 - s.2 / (6:Int32) * (6:Int32)))) (1056964608:UInt32)))), some (.int s.2)], [], (cW nw kp im ol sn sr tp (mW mk mg mt mc T)), 0, 0))
        exact J64 _ _ hf
      refine stp hm 3 (bsn (c := v1 = (0:Int32)) (fun c6 => ?_) (fun c6 => ?_))
      · have c6 : ¬ v1 = (0:Int32) := c6
        refine stp hm 3 (And.intro (by decide) (?_ : sxWP sc cl Q 206 (57, [some (.ref 59), some (.int v1), some (.float s.1), some (.int s.2)], [.int (s.2 - s.2 / (6:Int32) * (6:Int32)), .float s.1], (cW nw kp im ol sn sr tp (mW mk mg mt mc T)), 0, 0)))
        exact m3 _ (by rw [if_neg c6])
      · have c6 : v1 = (0:Int32) := c6
        refine stp hm 3 (And.intro (by decide) (?_ : sxWP sc cl Q 206 (50, [some (.ref 59), some (.int v1), some (.float s.1), some (.int s.2)], [.int (s.2 / (6:Int32)), .float s.1], (cW nw kp im ol sn sr tp (mW mk mg mt mc T)), 0, 0)))
        refine stp hm 1 (?_ : sxWP sc cl Q 206 (57, [some (.ref 59), some (.int v1), some (.float s.1), some (.int s.2)], [.int (s.2 / (6:Int32)), .float s.1], (cW nw kp im ol sn sr tp (mW mk mg mt mc T)), 0, 0))
        exact m3 _ (by rw [if_pos c6])
set_option maxRecDepth 10000 in
theorem M_centre_ok {v1 : Int32} {q : Int32} (hc : call = sxE sc (d + 3)) (hf : M_centre v1 mk.1 = some q) (h : Q (some (.int q)) (cW nw kp im ol sn sr tp (mW mk mg mt mc T))) : call 206 [.ref 59, .int v1] (cW nw kp im ol sn sr tp (mW mk mg mt mc T)) Q := by
  refine ent hc rfl (fun cl hE hm => ?_)
  unfold M_centre at hf
  refine stp hm 4 (M_isIn_ok hE rfl ?_)
  show sxWP sc cl Q 206 (6, [some (.ref 59), some (.int v1), none, none], [.int (M_isIn v1 (0:Int32) (1:Int32))], (cW nw kp im ol sn sr tp (mW mk mg mt mc T)), 0, 0)
  refine stp hm 1 (brn hf (fun c1 hf => ?_) (fun c1 hf => ?_))
  · show sxWP sc cl Q 206 (11, [some (.ref 59), some (.int v1), none, none], [], (cW nw kp im ol sn sr tp (mW mk mg mt mc T)), 0, 0)
    refine stp hm 5 (brnI (lg_cmp_eq _ _) hf (fun c2 hf => ?_) (fun c2 hf => ?_))
    · show sxWP sc cl Q 206 (23, [some (.ref 59), some (.int v1), none, none], [], (cW nw kp im ol sn sr tp (mW mk mg mt mc T)), 0, 0)
      obtain ⟨w3, hw3, hf⟩ := bnd hf
      refine stp hm 4 (?_ : sxWP sc cl Q 206 (27, [some (.ref 59), some (.int v1), some (.float FP.fconst0), some (.int (0:Int32))], [], (cW nw kp im ol sn sr tp (mW mk mg mt mc T)), 0, 0))
      refine M_centre_l27 hE hm _ _ _ hw3 ?_
      intro w3_z1 w3_z3
      show sxWP sc cl Q 206 (70, [some (.ref 59), w3_z1, some (.float w3), w3_z3], [], (cW nw kp im ol sn sr tp (mW mk mg mt mc T)), 0, 0)
      obtain ⟨q4, hq4, hf⟩ := bnd hf
      refine stp hm 3 (M_cells_ok hE hq4 ?_)
      show sxWP sc cl Q 206 (75, [some (.ref 59), w3_z1, some (.float w3), w3_z3], [.int q4, .float w3], (cW nw kp im ol sn sr tp (mW mk mg mt mc T)), 0, 0)
      obtain ⟨g5, hf⟩ := grd_e hf
      refine stp hm 2 (And.intro (nn32_e g5) (?_ : sxWP sc cl Q 206 (77, [some (.ref 59), w3_z1, some (.float w3), w3_z3], [.float (FP.fdiv w3 (FP.i2f q4))], (cW nw kp im ol sn sr tp (mW mk mg mt mc T)), 0, 0)))
      refine stp hm 1 (J_Float_floatToIntBits_ok hE rfl ?_)
      show sxWP sc cl Q 206 (80, [some (.ref 59), w3_z1, some (.float w3), w3_z3], [.int (J_Float_floatToIntBits (FP.fdiv w3 (FP.i2f q4)))], (cW nw kp im ol sn sr tp (mW mk mg mt mc T)), 0, 0)
      obtain rfl := Option.some.inj hf
      refine stp hm 1 ?_
      exact h
    · show sxWP sc cl Q 206 (20, [some (.ref 59), some (.int v1), none, none], [], (cW nw kp im ol sn sr tp (mW mk mg mt mc T)), 0, 0)
      obtain rfl := Option.some.inj hf
      refine stp hm 2 ?_
      exact h
  · show sxWP sc cl Q 206 (9, [some (.ref 59), some (.int v1), none, none], [], (cW nw kp im ol sn sr tp (mW mk mg mt mc T)), 0, 0)
    obtain rfl := Option.some.inj hf
    refine stp hm 2 ?_
    exact h

def P_rise_s9   (npl : Int32) (npw : (Nat → Int32)) (s : (Int32 × Int32 × Int32)) : Option ((Int32 × Int32 × Int32) ⊕ Int32) := if npl ≤ s.2.2 then (some (Sum.inr s.1)) else (if (40:Int32) ≤ s.2.2 then (some (Sum.inr s.1)) else (grd (gi s.2.2 40) (grd (gi s.2.2 40) (some (Sum.inl (s.1 + (G_rise s.2.1 (npw s.2.2.toNatClampNeg)), G_next s.2.1 (npw s.2.2.toNatClampNeg), s.2.2 + (1:Int32)))))))
def P_rise  (nps : Int32) (npl : Int32) (npw : (Nat → Int32)) : Option Int32 := Option.bind (wh (P_rise_s9 npl npw) FU ((0:Int32), nps, (0:Int32))) (fun w1 => some w1)
set_option maxRecDepth 10000 in
theorem P_rise_l9    (hE : cl = sxE sc (d + 2)) (hm : CallMono cl) : ∀ (n : Nat) (s : (Int32 × Int32 × Int32)) (r : Int32), wh (P_rise_s9 nw.2.2.2.1.2.1 nw.2.2.2.1.2.2.1) n s = some r → (∀ (z0 z2 z3 : Option Value), sxWP sc cl Q 43 (53, [z0, some (.int r), z2, z3], [], (cW nw kp im ol sn sr tp (mW mk mg mt mc T)), 0, 0)) → sxWP sc cl Q 43 (9, [some (.ref 3), some (.int s.1), some (.int s.2.1), some (.int s.2.2)], [], (cW nw kp im ol sn sr tp (mW mk mg mt mc T)), 0, 0) := by
  refine wh_run (A := fun (s : (Int32 × Int32 × Int32)) => sxWP sc cl Q 43 (9, [some (.ref 3), some (.int s.1), some (.int s.2.1), some (.int s.2.2)], [], (cW nw kp im ol sn sr tp (mW mk mg mt mc T)), 0, 0)) (B := fun (r : Int32) => ∀ (z0 z2 z3 : Option Value), sxWP sc cl Q 43 (53, [z0, some (.int r), z2, z3], [], (cW nw kp im ol sn sr tp (mW mk mg mt mc T)), 0, 0)) (fun s x hf hA hB => ?_)
  unfold P_rise_s9 at hf
  refine stp hm 4 (br hf (fun c1 hf => ?_) (fun c1 hf => ?_))
  · show sxWP sc cl Q 43 (53, [some (.ref 3), some (.int s.1), some (.int s.2.1), some (.int s.2.2)], [], (cW nw kp im ol sn sr tp (mW mk mg mt mc T)), 0, 0)
    obtain rfl := Option.some.inj hf
    exact hB _ rfl _ _ _
  · show sxWP sc cl Q 43 (17, [some (.ref 3), some (.int s.1), some (.int s.2.1), some (.int s.2.2)], [], (cW nw kp im ol sn sr tp (mW mk mg mt mc T)), 0, 0)
    refine stp hm 3 (br hf (fun c2 hf => ?_) (fun c2 hf => ?_))
    · show sxWP sc cl Q 43 (53, [some (.ref 3), some (.int s.1), some (.int s.2.1), some (.int s.2.2)], [], (cW nw kp im ol sn sr tp (mW mk mg mt mc T)), 0, 0)
      obtain rfl := Option.some.inj hf
      exact hB _ rfl _ _ _
    · show sxWP sc cl Q 43 (23, [some (.ref 3), some (.int s.1), some (.int s.2.1), some (.int s.2.2)], [], (cW nw kp im ol sn sr tp (mW mk mg mt mc T)), 0, 0)
      obtain ⟨g3, hf⟩ := grd_e hf
      refine stp hm 6 (And.intro (gi_in g3) (?_ : sxWP sc cl Q 43 (31, [some (.ref 3), some (.int s.1), some (.int s.2.1), some (.int s.2.2)], [.int (nw.2.2.2.1.2.2.1 s.2.2.toNatClampNeg), .int s.2.1, .int s.1], (cW nw kp im ol sn sr tp (mW mk mg mt mc T)), 0, 0)))
      refine stp hm 1 (G_rise_ok hE rfl ?_)
      show sxWP sc cl Q 43 (34, [some (.ref 3), some (.int s.1), some (.int s.2.1), some (.int s.2.2)], [.int (G_rise s.2.1 (nw.2.2.2.1.2.2.1 s.2.2.toNatClampNeg)), .int s.1], (cW nw kp im ol sn sr tp (mW mk mg mt mc T)), 0, 0)
      obtain ⟨g4, hf⟩ := grd_e hf
      refine stp hm 7 (And.intro (gi_in g4) (?_ : sxWP sc cl Q 43 (43, [some (.ref 3), some (.int (s.1 + (G_rise s.2.1 (nw.2.2.2.1.2.2.1 s.2.2.toNatClampNeg)))), some (.int s.2.1), some (.int s.2.2)], [.int (nw.2.2.2.1.2.2.1 s.2.2.toNatClampNeg), .int s.2.1], (cW nw kp im ol sn sr tp (mW mk mg mt mc T)), 0, 0)))
      refine stp hm 1 (G_next_ok hE rfl ?_)
      show sxWP sc cl Q 43 (46, [some (.ref 3), some (.int (s.1 + (G_rise s.2.1 (nw.2.2.2.1.2.2.1 s.2.2.toNatClampNeg)))), some (.int s.2.1), some (.int s.2.2)], [.int (G_next s.2.1 (nw.2.2.2.1.2.2.1 s.2.2.toNatClampNeg))], (cW nw kp im ol sn sr tp (mW mk mg mt mc T)), 0, 0)
      obtain rfl := Option.some.inj hf
      refine stp hm 3 (?_ : sxWP sc cl Q 43 (9, [some (.ref 3), some (.int (s.1 + (G_rise s.2.1 (nw.2.2.2.1.2.2.1 s.2.2.toNatClampNeg)))), some (.int (G_next s.2.1 (nw.2.2.2.1.2.2.1 s.2.2.toNatClampNeg))), some (.int (s.2.2 + (1:Int32)))], [], (cW nw kp im ol sn sr tp (mW mk mg mt mc T)), 0, 0))
      exact hA _ rfl
set_option maxRecDepth 10000 in
theorem P_rise_ok  {q : Int32} (hc : call = sxE sc (d + 3)) (hf : P_rise nw.2.2.2.1.1 nw.2.2.2.1.2.1 nw.2.2.2.1.2.2.1 = some q) (h : Q (some (.int q)) (cW nw kp im ol sn sr tp (mW mk mg mt mc T))) : call 43 [.ref 3] (cW nw kp im ol sn sr tp (mW mk mg mt mc T)) Q := by
  refine ent hc rfl (fun cl hE hm => ?_)
  unfold P_rise at hf
  obtain ⟨w1, hw1, hf⟩ := bnd hf
  refine stp hm 7 (?_ : sxWP sc cl Q 43 (9, [some (.ref 3), some (.int (0:Int32)), some (.int nw.2.2.2.1.1), some (.int (0:Int32))], [], (cW nw kp im ol sn sr tp (mW mk mg mt mc T)), 0, 0))
  refine P_rise_l9 hE hm _ _ _ hw1 ?_
  intro w1_z0 w1_z2 w1_z3
  show sxWP sc cl Q 43 (53, [w1_z0, some (.int w1), w1_z2, w1_z3], [], (cW nw kp im ol sn sr tp (mW mk mg mt mc T)), 0, 0)
  obtain rfl := Option.some.inj hf
  refine stp hm 2 ?_
  exact h

def P_isBack (v0 : Int32) (v1 : Int32)  : Int32 := if (v0 - v1) = (2:Int32) then (1:Int32) else (if (v1 - v0) = (2:Int32) then (1:Int32) else (0:Int32))
set_option maxRecDepth 10000 in
theorem P_isBack_ok {v0 : Int32} {v1 : Int32} {r : Int32} (hc : call = sxE sc (d + 1)) (hf : P_isBack v0 v1 = r) (h : Q (some (.int r)) hp) : call 42 [.int v0, .int v1] hp Q := by
  refine ent hc rfl (fun cl hE hm => ?_)
  unfold P_isBack at hf
  have m1 : ∀ (m1_0 : Int32), m1_0 = (if (v0 - v1) = (2:Int32) then (1:Int32) else (if (v1 - v0) = (2:Int32) then (1:Int32) else (0:Int32))) → sxWP sc cl Q 42 (19, [some (.int v0), some (.int v1)], [.int m1_0], hp, 0, 0) := by
    intro m1_0 em1_0
    subst em1_0
    subst hf
    refine stp hm 1 (And.intro (by (repeat' split) <;> first | exact Or.inl rfl | exact Or.inr rfl) ?_)
    exact h
  refine stp hm 5 (bs (c := (v0 - v1) = (2:Int32)) (fun c2 => ?_) (fun c2 => ?_))
  · have c2 : (v0 - v1) = (2:Int32) := c2
    refine stp hm 2 (?_ : sxWP sc cl Q 42 (19, [some (.int v0), some (.int v1)], [.int (1:Int32)], hp, 0, 0))
    exact m1 _ (by rw [if_pos c2])
  · have c2 : ¬ (v0 - v1) = (2:Int32) := c2
    refine stp hm 5 (bsn (c := (v1 - v0) = (2:Int32)) (fun c3 => ?_) (fun c3 => ?_))
    · have c3 : ¬ (v1 - v0) = (2:Int32) := c3
      refine stp hm 1 (?_ : sxWP sc cl Q 42 (19, [some (.int v0), some (.int v1)], [.int (0:Int32)], hp, 0, 0))
      exact m1 _ (by rw [if_neg c2, if_neg c3])
    · have c3 : (v1 - v0) = (2:Int32) := c3
      refine stp hm 2 (?_ : sxWP sc cl Q 42 (19, [some (.int v0), some (.int v1)], [.int (1:Int32)], hp, 0, 0))
      exact m1 _ (by rw [if_neg c2, if_pos c3])
theorem P_isBack_z {v0 : Int32} {v1 : Int32}  : P_isBack v0 v1 = 0 ∨ P_isBack v0 v1 = 1 := by
  unfold P_isBack
  (repeat' split) <;> first | exact Or.inl rfl | exact Or.inr rfl

def P_shortened_j63  (v1 : Int32) (v2 : Int32) (npr_j : (Nat → Int32)) : Option ((Int32 × Int32 × (Nat → Int32)) ⊕ (Int32 × (Nat → Int32))) := some (Sum.inl (v1, v2 + (1:Int32), npr_j))
def P_shortened_j48  (v1 : Int32) (v2 : Int32) (npr_j : (Nat → Int32)) (npw : (Nat → Int32)) : Option ((Int32 × Int32 × (Nat → Int32)) ⊕ (Int32 × (Nat → Int32))) := grd (gi v2 40) (grd (gi v1 40) (P_shortened_j63 (v1 + (1:Int32)) v2 (upd npr_j v1.toNatClampNeg (npw v2.toNatClampNeg))))
def P_shortened_s4   (npl : Int32) (npw : (Nat → Int32)) (s : (Int32 × Int32 × (Nat → Int32))) : Option ((Int32 × Int32 × (Nat → Int32)) ⊕ (Int32 × (Nat → Int32))) := if npl ≤ s.2.1 then (some (Sum.inr (s.1, s.2.2))) else (if (40:Int32) ≤ s.2.1 then (some (Sum.inr (s.1, s.2.2))) else (if s.1 ≤ (0:Int32) then (P_shortened_j48 s.1 s.2.1 s.2.2 npw) else (grd (gi (s.1 - (1:Int32)) 40) (grd (gi s.2.1 40) (if (P_isBack (s.2.2 (s.1 - (1:Int32)).toNatClampNeg) (npw s.2.1.toNatClampNeg)) = (0:Int32) then (P_shortened_j48 s.1 s.2.1 s.2.2 npw) else (P_shortened_j63 (s.1 + (-1:Int32)) s.2.1 s.2.2))))))
def P_shortened  (npl : Int32) (npw : (Nat → Int32)) (npr : (Nat → Int32)) : Option (Int32 × (Nat → Int32)) := Option.bind (wh (P_shortened_s4 npl npw) FU ((0:Int32), (0:Int32), npr)) (fun w1 => some (w1.1, w1.2))
set_option maxRecDepth 10000 in
theorem P_shortened_l4    (hE : cl = sxE sc (d + 1)) (hm : CallMono cl) : ∀ (n : Nat) (s : (Int32 × Int32 × (Nat → Int32))) (r : (Int32 × (Nat → Int32))), wh (P_shortened_s4 nw.2.2.2.1.2.1 nw.2.2.2.1.2.2.1) n s = some r → (∀ (z0 z2 : Option Value), sxWP sc cl Q 41 (69, [z0, some (.int r.1), z2], [], (cW (nw.1, nw.2.1, nw.2.2.1, (nw.2.2.2.1.1, nw.2.2.2.1.2.1, nw.2.2.2.1.2.2.1, r.2), nw.2.2.2.2.1, nw.2.2.2.2.2.1, nw.2.2.2.2.2.2) kp im ol sn sr tp (mW mk mg mt mc T)), 0, 0)) → sxWP sc cl Q 41 (4, [some (.ref 3), some (.int s.1), some (.int s.2.1)], [], (cW (nw.1, nw.2.1, nw.2.2.1, (nw.2.2.2.1.1, nw.2.2.2.1.2.1, nw.2.2.2.1.2.2.1, s.2.2), nw.2.2.2.2.1, nw.2.2.2.2.2.1, nw.2.2.2.2.2.2) kp im ol sn sr tp (mW mk mg mt mc T)), 0, 0) := by
  refine wh_run (A := fun (s : (Int32 × Int32 × (Nat → Int32))) => sxWP sc cl Q 41 (4, [some (.ref 3), some (.int s.1), some (.int s.2.1)], [], (cW (nw.1, nw.2.1, nw.2.2.1, (nw.2.2.2.1.1, nw.2.2.2.1.2.1, nw.2.2.2.1.2.2.1, s.2.2), nw.2.2.2.2.1, nw.2.2.2.2.2.1, nw.2.2.2.2.2.2) kp im ol sn sr tp (mW mk mg mt mc T)), 0, 0)) (B := fun (r : (Int32 × (Nat → Int32))) => ∀ (z0 z2 : Option Value), sxWP sc cl Q 41 (69, [z0, some (.int r.1), z2], [], (cW (nw.1, nw.2.1, nw.2.2.1, (nw.2.2.2.1.1, nw.2.2.2.1.2.1, nw.2.2.2.1.2.2.1, r.2), nw.2.2.2.2.1, nw.2.2.2.2.2.1, nw.2.2.2.2.2.2) kp im ol sn sr tp (mW mk mg mt mc T)), 0, 0)) (fun s x hf hA hB => ?_)
  have J63 : ∀ (v1 : Int32) (v2 : Int32) (npr_j : (Nat → Int32)), P_shortened_j63 v1 v2 npr_j = some x → sxWP sc cl Q 41 (63, [some (.ref 3), some (.int v1), some (.int v2)], [], (cW (nw.1, nw.2.1, nw.2.2.1, (nw.2.2.2.1.1, nw.2.2.2.1.2.1, nw.2.2.2.1.2.2.1, npr_j), nw.2.2.2.2.1, nw.2.2.2.2.2.1, nw.2.2.2.2.2.2) kp im ol sn sr tp (mW mk mg mt mc T)), 0, 0) := by
    intro v1 v2 npr_j hf
    unfold P_shortened_j63 at hf
    obtain rfl := Option.some.inj hf
    refine stp hm 2 (?_ : sxWP sc cl Q 41 (4, [some (.ref 3), some (.int v1), some (.int (v2 + (1:Int32)))], [], (cW (nw.1, nw.2.1, nw.2.2.1, (nw.2.2.2.1.1, nw.2.2.2.1.2.1, nw.2.2.2.1.2.2.1, npr_j), nw.2.2.2.2.1, nw.2.2.2.2.2.1, nw.2.2.2.2.2.2) kp im ol sn sr tp (mW mk mg mt mc T)), 0, 0))
    exact hA _ rfl
  have J48 : ∀ (v1 : Int32) (v2 : Int32) (npr_j : (Nat → Int32)), P_shortened_j48 v1 v2 npr_j nw.2.2.2.1.2.2.1 = some x → sxWP sc cl Q 41 (48, [some (.ref 3), some (.int v1), some (.int v2)], [], (cW (nw.1, nw.2.1, nw.2.2.1, (nw.2.2.2.1.1, nw.2.2.2.1.2.1, nw.2.2.2.1.2.2.1, npr_j), nw.2.2.2.2.1, nw.2.2.2.2.2.1, nw.2.2.2.2.2.2) kp im ol sn sr tp (mW mk mg mt mc T)), 0, 0) := by
    intro v1 v2 npr_j hf
    unfold P_shortened_j48 at hf
    obtain ⟨g1, hf⟩ := grd_e hf
    refine stp hm 7 (And.intro (gi_in g1) (?_ : sxWP sc cl Q 41 (59, [some (.ref 3), some (.int v1), some (.int v2)], [.int (nw.2.2.2.1.2.2.1 v2.toNatClampNeg), .int v1, .ref 5], (cW (nw.1, nw.2.1, nw.2.2.1, (nw.2.2.2.1.1, nw.2.2.2.1.2.1, nw.2.2.2.1.2.2.1, npr_j), nw.2.2.2.2.1, nw.2.2.2.2.2.1, nw.2.2.2.2.2.2) kp im ol sn sr tp (mW mk mg mt mc T)), 0, 0)))
    obtain ⟨g2, hf⟩ := grd_e hf
    refine stp hm 1 (And.intro (gi_in g2) (?_ : sxWP sc cl Q 41 (60, [some (.ref 3), some (.int v1), some (.int v2)], [], (cW (nw.1, nw.2.1, nw.2.2.1, (nw.2.2.2.1.1, nw.2.2.2.1.2.1, nw.2.2.2.1.2.2.1, upd npr_j v1.toNatClampNeg (nw.2.2.2.1.2.2.1 v2.toNatClampNeg)), nw.2.2.2.2.1, nw.2.2.2.2.2.1, nw.2.2.2.2.2.2) kp im ol sn sr tp (mW mk mg mt mc T)), 0, 0)))
    refine stp hm 1 (?_ : sxWP sc cl Q 41 (63, [some (.ref 3), some (.int (v1 + (1:Int32))), some (.int v2)], [], (cW (nw.1, nw.2.1, nw.2.2.1, (nw.2.2.2.1.1, nw.2.2.2.1.2.1, nw.2.2.2.1.2.2.1, upd npr_j v1.toNatClampNeg (nw.2.2.2.1.2.2.1 v2.toNatClampNeg)), nw.2.2.2.2.1, nw.2.2.2.2.2.1, nw.2.2.2.2.2.2) kp im ol sn sr tp (mW mk mg mt mc T)), 0, 0))
    exact J63 _ _ _ hf
  unfold P_shortened_s4 at hf
  refine stp hm 4 (br hf (fun c3 hf => ?_) (fun c3 hf => ?_))
  · show sxWP sc cl Q 41 (69, [some (.ref 3), some (.int s.1), some (.int s.2.1)], [], (cW (nw.1, nw.2.1, nw.2.2.1, (nw.2.2.2.1.1, nw.2.2.2.1.2.1, nw.2.2.2.1.2.2.1, s.2.2), nw.2.2.2.2.1, nw.2.2.2.2.2.1, nw.2.2.2.2.2.2) kp im ol sn sr tp (mW mk mg mt mc T)), 0, 0)
    obtain rfl := Option.some.inj hf
    exact hB _ rfl _ _
  · show sxWP sc cl Q 41 (12, [some (.ref 3), some (.int s.1), some (.int s.2.1)], [], (cW (nw.1, nw.2.1, nw.2.2.1, (nw.2.2.2.1.1, nw.2.2.2.1.2.1, nw.2.2.2.1.2.2.1, s.2.2), nw.2.2.2.2.1, nw.2.2.2.2.2.1, nw.2.2.2.2.2.2) kp im ol sn sr tp (mW mk mg mt mc T)), 0, 0)
    refine stp hm 3 (br hf (fun c4 hf => ?_) (fun c4 hf => ?_))
    · show sxWP sc cl Q 41 (69, [some (.ref 3), some (.int s.1), some (.int s.2.1)], [], (cW (nw.1, nw.2.1, nw.2.2.1, (nw.2.2.2.1.1, nw.2.2.2.1.2.1, nw.2.2.2.1.2.2.1, s.2.2), nw.2.2.2.2.1, nw.2.2.2.2.2.1, nw.2.2.2.2.2.2) kp im ol sn sr tp (mW mk mg mt mc T)), 0, 0)
      obtain rfl := Option.some.inj hf
      exact hB _ rfl _ _
    · show sxWP sc cl Q 41 (18, [some (.ref 3), some (.int s.1), some (.int s.2.1)], [], (cW (nw.1, nw.2.1, nw.2.2.1, (nw.2.2.2.1.1, nw.2.2.2.1.2.1, nw.2.2.2.1.2.2.1, s.2.2), nw.2.2.2.2.1, nw.2.2.2.2.2.1, nw.2.2.2.2.2.2) kp im ol sn sr tp (mW mk mg mt mc T)), 0, 0)
      refine stp hm 2 (br hf (fun c5 hf => ?_) (fun c5 hf => ?_))
      · show sxWP sc cl Q 41 (48, [some (.ref 3), some (.int s.1), some (.int s.2.1)], [], (cW (nw.1, nw.2.1, nw.2.2.1, (nw.2.2.2.1.1, nw.2.2.2.1.2.1, nw.2.2.2.1.2.2.1, s.2.2), nw.2.2.2.2.1, nw.2.2.2.2.2.1, nw.2.2.2.2.2.2) kp im ol sn sr tp (mW mk mg mt mc T)), 0, 0)
        exact J48 _ _ _ hf
      · show sxWP sc cl Q 41 (22, [some (.ref 3), some (.int s.1), some (.int s.2.1)], [], (cW (nw.1, nw.2.1, nw.2.2.1, (nw.2.2.2.1.1, nw.2.2.2.1.2.1, nw.2.2.2.1.2.2.1, s.2.2), nw.2.2.2.2.1, nw.2.2.2.2.2.1, nw.2.2.2.2.2.2) kp im ol sn sr tp (mW mk mg mt mc T)), 0, 0)
        obtain ⟨g6, hf⟩ := grd_e hf
        refine stp hm 6 (And.intro (gi_in g6) (?_ : sxWP sc cl Q 41 (30, [some (.ref 3), some (.int s.1), some (.int s.2.1)], [.int (s.2.2 (s.1 - (1:Int32)).toNatClampNeg)], (cW (nw.1, nw.2.1, nw.2.2.1, (nw.2.2.2.1.1, nw.2.2.2.1.2.1, nw.2.2.2.1.2.2.1, s.2.2), nw.2.2.2.2.1, nw.2.2.2.2.2.1, nw.2.2.2.2.2.2) kp im ol sn sr tp (mW mk mg mt mc T)), 0, 0)))
        obtain ⟨g7, hf⟩ := grd_e hf
        refine stp hm 4 (And.intro (gi_in g7) (?_ : sxWP sc cl Q 41 (36, [some (.ref 3), some (.int s.1), some (.int s.2.1)], [.int (nw.2.2.2.1.2.2.1 s.2.1.toNatClampNeg), .int (s.2.2 (s.1 - (1:Int32)).toNatClampNeg)], (cW (nw.1, nw.2.1, nw.2.2.1, (nw.2.2.2.1.1, nw.2.2.2.1.2.1, nw.2.2.2.1.2.2.1, s.2.2), nw.2.2.2.2.1, nw.2.2.2.2.2.1, nw.2.2.2.2.2.2) kp im ol sn sr tp (mW mk mg mt mc T)), 0, 0)))
        refine stp hm 1 (P_isBack_ok hE rfl ?_)
        show sxWP sc cl Q 41 (39, [some (.ref 3), some (.int s.1), some (.int s.2.1)], [.int (P_isBack (s.2.2 (s.1 - (1:Int32)).toNatClampNeg) (nw.2.2.2.1.2.2.1 s.2.1.toNatClampNeg))], (cW (nw.1, nw.2.1, nw.2.2.1, (nw.2.2.2.1.1, nw.2.2.2.1.2.1, nw.2.2.2.1.2.2.1, s.2.2), nw.2.2.2.2.1, nw.2.2.2.2.2.1, nw.2.2.2.2.2.2) kp im ol sn sr tp (mW mk mg mt mc T)), 0, 0)
        refine stp hm 1 (br hf (fun c8 hf => ?_) (fun c8 hf => ?_))
        · show sxWP sc cl Q 41 (48, [some (.ref 3), some (.int s.1), some (.int s.2.1)], [], (cW (nw.1, nw.2.1, nw.2.2.1, (nw.2.2.2.1.1, nw.2.2.2.1.2.1, nw.2.2.2.1.2.2.1, s.2.2), nw.2.2.2.2.1, nw.2.2.2.2.2.1, nw.2.2.2.2.2.2) kp im ol sn sr tp (mW mk mg mt mc T)), 0, 0)
          exact J48 _ _ _ hf
        · show sxWP sc cl Q 41 (42, [some (.ref 3), some (.int s.1), some (.int s.2.1)], [], (cW (nw.1, nw.2.1, nw.2.2.1, (nw.2.2.2.1.1, nw.2.2.2.1.2.1, nw.2.2.2.1.2.2.1, s.2.2), nw.2.2.2.2.1, nw.2.2.2.2.2.1, nw.2.2.2.2.2.2) kp im ol sn sr tp (mW mk mg mt mc T)), 0, 0)
          refine stp hm 2 (?_ : sxWP sc cl Q 41 (63, [some (.ref 3), some (.int (s.1 + (-1:Int32))), some (.int s.2.1)], [], (cW (nw.1, nw.2.1, nw.2.2.1, (nw.2.2.2.1.1, nw.2.2.2.1.2.1, nw.2.2.2.1.2.2.1, s.2.2), nw.2.2.2.2.1, nw.2.2.2.2.2.1, nw.2.2.2.2.2.2) kp im ol sn sr tp (mW mk mg mt mc T)), 0, 0))
          exact J63 _ _ _ hf
set_option maxRecDepth 10000 in
theorem P_shortened_ok  {q : (Int32 × (Nat → Int32))} (hc : call = sxE sc (d + 2)) (hf : P_shortened nw.2.2.2.1.2.1 nw.2.2.2.1.2.2.1 nw.2.2.2.1.2.2.2 = some q) (h : Q (some (.int q.1)) (cW (nw.1, nw.2.1, nw.2.2.1, (nw.2.2.2.1.1, nw.2.2.2.1.2.1, nw.2.2.2.1.2.2.1, q.2), nw.2.2.2.2.1, nw.2.2.2.2.2.1, nw.2.2.2.2.2.2) kp im ol sn sr tp (mW mk mg mt mc T))) : call 41 [.ref 3] (cW nw kp im ol sn sr tp (mW mk mg mt mc T)) Q := by
  refine ent hc rfl (fun cl hE hm => ?_)
  unfold P_shortened at hf
  obtain ⟨w1, hw1, hf⟩ := bnd hf
  refine stp hm 4 (?_ : sxWP sc cl Q 41 (4, [some (.ref 3), some (.int (0:Int32)), some (.int (0:Int32))], [], (cW nw kp im ol sn sr tp (mW mk mg mt mc T)), 0, 0))
  refine P_shortened_l4 hE hm _ _ _ hw1 ?_
  intro w1_z0 w1_z2
  show sxWP sc cl Q 41 (69, [w1_z0, some (.int w1.1), w1_z2], [], (cW (nw.1, nw.2.1, nw.2.2.1, (nw.2.2.2.1.1, nw.2.2.2.1.2.1, nw.2.2.2.1.2.2.1, w1.2), nw.2.2.2.2.1, nw.2.2.2.2.2.1, nw.2.2.2.2.2.2) kp im ol sn sr tp (mW mk mg mt mc T)), 0, 0)
  obtain rfl := Option.some.inj hf
  refine stp hm 2 ?_
  exact h

def P_isClosed  (nps : Int32) (npl : Int32) (npw : (Nat → Int32)) : Option Int32 := Option.bind (P_ends nps npl npw) (fun q1 => some (if q1 = nps then (1:Int32) else (0:Int32)))
set_option maxRecDepth 10000 in
theorem P_isClosed_ok  {q : Int32} (hc : call = sxE sc (d + 4)) (hf : P_isClosed nw.2.2.2.1.1 nw.2.2.2.1.2.1 nw.2.2.2.1.2.2.1 = some q) (h : Q (some (.int q)) (cW nw kp im ol sn sr tp (mW mk mg mt mc T))) : call 40 [.ref 3] (cW nw kp im ol sn sr tp (mW mk mg mt mc T)) Q := by
  refine ent hc rfl (fun cl hE hm => ?_)
  unfold P_isClosed at hf
  obtain ⟨q1, hq1, hf⟩ := bnd hf
  refine stp hm 2 (P_ends_ok hE hq1 ?_)
  show sxWP sc cl Q 40 (4, [some (.ref 3)], [.int q1], (cW nw kp im ol sn sr tp (mW mk mg mt mc T)), 0, 0)
  have m2 : ∀ (m2_0 : Int32), m2_0 = (if q1 = nw.2.2.2.1.1 then (1:Int32) else (0:Int32)) → sxWP sc cl Q 40 (16, [some (.ref 3)], [.int m2_0], (cW nw kp im ol sn sr tp (mW mk mg mt mc T)), 0, 0) := by
    intro m2_0 em2_0
    subst em2_0
    obtain rfl := Option.some.inj hf
    refine stp hm 1 (And.intro (by (repeat' split) <;> first | exact Or.inl rfl | exact Or.inr rfl) ?_)
    exact h
  refine stp hm 3 (bsn (c := q1 = nw.2.2.2.1.1) (fun c3 => ?_) (fun c3 => ?_))
  · have c3 : ¬ q1 = nw.2.2.2.1.1 := c3
    refine stp hm 1 (?_ : sxWP sc cl Q 40 (16, [some (.ref 3)], [.int (0:Int32)], (cW nw kp im ol sn sr tp (mW mk mg mt mc T)), 0, 0))
    exact m2 _ (by rw [if_neg c3])
  · have c3 : q1 = nw.2.2.2.1.1 := c3
    refine stp hm 2 (?_ : sxWP sc cl Q 40 (16, [some (.ref 3)], [.int (1:Int32)], (cW nw kp im ol sn sr tp (mW mk mg mt mc T)), 0, 0))
    exact m2 _ (by rw [if_pos c3])

def X_walked (v1 : Int32) (nps : Int32) (npl : Int32) (npw : (Nat → Int32)) (npr : (Nat → Int32)) : Option (Int32 × (Nat → Int32)) := if v1 = (0:Int32) then (some (npl, npr)) else (if v1 = (1:Int32) then (some (nps, npr)) else (if v1 = (2:Int32) then (Option.bind (P_ends nps npl npw) (fun q2 => some (q2, npr))) else (if v1 = (3:Int32) then (Option.bind (P_isClosed nps npl npw) (fun q3 => some (X_bit q3, npr))) else (if v1 = (4:Int32) then (Option.bind (P_shortened npl npw npr) (fun q4 => some (q4.1, q4.2))) else (if v1 = (5:Int32) then (Option.bind (P_rise nps npl npw) (fun q5 => some (q5 + (1000:Int32), npr))) else (some ((-1:Int32), npr)))))))
set_option maxRecDepth 10000 in
theorem X_walked_ok {v1 : Int32} {q : (Int32 × (Nat → Int32))} (hc : call = sxE sc (d + 5)) (hf : X_walked v1 nw.2.2.2.1.1 nw.2.2.2.1.2.1 nw.2.2.2.1.2.2.1 nw.2.2.2.1.2.2.2 = some q) (h : Q (some (.int q.1)) (cW (nw.1, nw.2.1, nw.2.2.1, (nw.2.2.2.1.1, nw.2.2.2.1.2.1, nw.2.2.2.1.2.2.1, q.2), nw.2.2.2.2.1, nw.2.2.2.2.2.1, nw.2.2.2.2.2.2) kp im ol sn sr tp (mW mk mg mt mc T))) : call 110 [.ref 0, .int v1] (cW nw kp im ol sn sr tp (mW mk mg mt mc T)) Q := by
  refine ent hc rfl (fun cl hE hm => ?_)
  unfold X_walked at hf
  refine stp hm 2 ?_
  show sxWP sc cl Q 110 ((swT (v1).toInt (0) [40, 51, 62, 73, 87, 98] 113), [some (.ref 0), some (.int v1)], [], (cW nw kp im ol sn sr tp (mW mk mg mt mc T)), 0, 0)
  rcases ite_or hf with ⟨c1_0, hf⟩ | ⟨c1_0, hf⟩
  · rw [show swT (v1).toInt (0) [40, 51, 62, 73, 87, 98] 113 = 40 by rw [c1_0]; rfl]
    obtain rfl := Option.some.inj hf
    refine stp hm 5 ?_
    exact h
  rcases ite_or hf with ⟨c1_1, hf⟩ | ⟨c1_1, hf⟩
  · rw [show swT (v1).toInt (0) [40, 51, 62, 73, 87, 98] 113 = 51 by rw [c1_1]; rfl]
    obtain rfl := Option.some.inj hf
    refine stp hm 5 ?_
    exact h
  rcases ite_or hf with ⟨c1_2, hf⟩ | ⟨c1_2, hf⟩
  · rw [show swT (v1).toInt (0) [40, 51, 62, 73, 87, 98] 113 = 62 by rw [c1_2]; rfl]
    obtain ⟨q2, hq2, hf⟩ := bnd hf
    refine stp hm 4 (P_ends_ok hE hq2 ?_)
    show sxWP sc cl Q 110 (72, [some (.ref 0), some (.int v1)], [.int q2], (cW nw kp im ol sn sr tp (mW mk mg mt mc T)), 0, 0)
    obtain rfl := Option.some.inj hf
    refine stp hm 1 ?_
    exact h
  rcases ite_or hf with ⟨c1_3, hf⟩ | ⟨c1_3, hf⟩
  · rw [show swT (v1).toInt (0) [40, 51, 62, 73, 87, 98] 113 = 73 by rw [c1_3]; rfl]
    obtain ⟨q3, hq3, hf⟩ := bnd hf
    refine stp hm 4 (P_isClosed_ok hE hq3 ?_)
    show sxWP sc cl Q 110 (83, [some (.ref 0), some (.int v1)], [.int q3], (cW nw kp im ol sn sr tp (mW mk mg mt mc T)), 0, 0)
    refine stp hm 1 (X_bit_ok hE rfl ?_)
    show sxWP sc cl Q 110 (86, [some (.ref 0), some (.int v1)], [.int (X_bit q3)], (cW nw kp im ol sn sr tp (mW mk mg mt mc T)), 0, 0)
    obtain rfl := Option.some.inj hf
    refine stp hm 1 ?_
    exact h
  rcases ite_or hf with ⟨c1_4, hf⟩ | ⟨c1_4, hf⟩
  · rw [show swT (v1).toInt (0) [40, 51, 62, 73, 87, 98] 113 = 87 by rw [c1_4]; rfl]
    obtain ⟨q4, hq4, hf⟩ := bnd hf
    refine stp hm 4 (P_shortened_ok hE hq4 ?_)
    show sxWP sc cl Q 110 (97, [some (.ref 0), some (.int v1)], [.int q4.1], (cW (nw.1, nw.2.1, nw.2.2.1, (nw.2.2.2.1.1, nw.2.2.2.1.2.1, nw.2.2.2.1.2.2.1, q4.2), nw.2.2.2.2.1, nw.2.2.2.2.2.1, nw.2.2.2.2.2.2) kp im ol sn sr tp (mW mk mg mt mc T)), 0, 0)
    obtain rfl := Option.some.inj hf
    refine stp hm 1 ?_
    exact h
  rcases ite_or hf with ⟨c1_5, hf⟩ | ⟨c1_5, hf⟩
  · rw [show swT (v1).toInt (0) [40, 51, 62, 73, 87, 98] 113 = 98 by rw [c1_5]; rfl]
    obtain ⟨q5, hq5, hf⟩ := bnd hf
    refine stp hm 4 (P_rise_ok hE hq5 ?_)
    show sxWP sc cl Q 110 (108, [some (.ref 0), some (.int v1)], [.int q5], (cW nw kp im ol sn sr tp (mW mk mg mt mc T)), 0, 0)
    obtain rfl := Option.some.inj hf
    refine stp hm 3 ?_
    exact h
  have tc1_0 : ¬ (v1).toInt = 0 := fun e => c1_0 (Int32.toInt_inj.mp e)
  have tc1_1 : ¬ (v1).toInt = 1 := fun e => c1_1 (Int32.toInt_inj.mp e)
  have tc1_2 : ¬ (v1).toInt = 2 := fun e => c1_2 (Int32.toInt_inj.mp e)
  have tc1_3 : ¬ (v1).toInt = 3 := fun e => c1_3 (Int32.toInt_inj.mp e)
  have tc1_4 : ¬ (v1).toInt = 4 := fun e => c1_4 (Int32.toInt_inj.mp e)
  have tc1_5 : ¬ (v1).toInt = 5 := fun e => c1_5 (Int32.toInt_inj.mp e)
  rw [show swT (v1).toInt (0) [40, 51, 62, 73, 87, 98] 113 = 113 by simp [swT, tc1_0, tc1_1, tc1_2, tc1_3, tc1_4, tc1_5]]
  obtain rfl := Option.some.inj hf
  refine stp hm 2 ?_
  exact h
end PT
