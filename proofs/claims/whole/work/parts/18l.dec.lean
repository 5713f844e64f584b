/-! methods as functions (printed by wip/whole/dec) -/
section PT
variable {sc : sxS} {d : Nat} {Q : sxR} {hp : sxH} {call cl : sxX} {nw kp : tSt} {im : Int32} {ol : tOl} {sn : tSn} {sr : tSc} {tp : Nat → tTp} {mk : tMk} {mg : tMg} {mt : tMt} {mc : tMc} {T : sxH}

def M_does_j248  (k0 : Int32) (mrg_j : Int64) (gle_j : Int32) (gsu_j : Int32) (ms_j : (Nat → Int32)) (gma_j : (Nat → Int32)) (gpi_j : (Nat → Int32)) (gst_j : (Nat → Int32)) (ghe_j : (Nat → Int32)) (gow_j : (Nat → Int32)) (gfa_j : (Nat → Int32)) (gqu_j : (Nat → Int32)) (glo_j : (Nat → Int32)) (ghi_j : (Nat → Int32)) (gby_j : (Nat → Int32)) (gib_j : (Nat → Int32)) : Option (Int32 × Int64 × Int32 × Int32 × (Nat → Int32) × (Nat → Int32) × (Nat → Int32) × (Nat → Int32) × (Nat → Int32) × (Nat → Int32) × (Nat → Int32) × (Nat → Int32) × (Nat → Int32) × (Nat → Int32) × (Nat → Int32) × (Nat → Int32)) := grd (zb k0) (some (k0, mrg_j, gle_j, gsu_j, ms_j, gma_j, gpi_j, gst_j, ghe_j, gow_j, gfa_j, gqu_j, glo_j, ghi_j, gby_j, gib_j))
def M_does_j247  (mrg_j : Int64) (gle_j : Int32) (gsu_j : Int32) (ms_j : (Nat → Int32)) (gma_j : (Nat → Int32)) (gpi_j : (Nat → Int32)) (gst_j : (Nat → Int32)) (ghe_j : (Nat → Int32)) (gow_j : (Nat → Int32)) (gfa_j : (Nat → Int32)) (gqu_j : (Nat → Int32)) (glo_j : (Nat → Int32)) (ghi_j : (Nat → Int32)) (gby_j : (Nat → Int32)) (gib_j : (Nat → Int32)) : Option (Int32 × Int64 × Int32 × Int32 × (Nat → Int32) × (Nat → Int32) × (Nat → Int32) × (Nat → Int32) × (Nat → Int32) × (Nat → Int32) × (Nat → Int32) × (Nat → Int32) × (Nat → Int32) × (Nat → Int32) × (Nat → Int32) × (Nat → Int32)) := M_does_j248 (0:Int32) mrg_j gle_j gsu_j ms_j gma_j gpi_j gst_j ghe_j gow_j gfa_j gqu_j glo_j ghi_j gby_j gib_j
def M_does_j143  (mrg_j : Int64) (gle_j : Int32) (gsu_j : Int32) (ms_j : (Nat → Int32)) (gma_j : (Nat → Int32)) (gpi_j : (Nat → Int32)) (gst_j : (Nat → Int32)) (ghe_j : (Nat → Int32)) (gow_j : (Nat → Int32)) (gfa_j : (Nat → Int32)) (gqu_j : (Nat → Int32)) (glo_j : (Nat → Int32)) (ghi_j : (Nat → Int32)) (gby_j : (Nat → Int32)) (gib_j : (Nat → Int32)) : Option (Int32 × Int64 × Int32 × Int32 × (Nat → Int32) × (Nat → Int32) × (Nat → Int32) × (Nat → Int32) × (Nat → Int32) × (Nat → Int32) × (Nat → Int32) × (Nat → Int32) × (Nat → Int32) × (Nat → Int32) × (Nat → Int32) × (Nat → Int32)) := some ((0:Int32), mrg_j, gle_j, gsu_j, ms_j, gma_j, gpi_j, gst_j, ghe_j, gow_j, gfa_j, gqu_j, glo_j, ghi_j, gby_j, gib_j)
def M_does_j113  (v1 : Int32) (v2 : Int32) (v3 : Int32) (mrg_j : Int64) (gle_j : Int32) (gsu_j : Int32) (ms_j : (Nat → Int32)) (gma_j : (Nat → Int32)) (gpi_j : (Nat → Int32)) (gst_j : (Nat → Int32)) (ghe_j : (Nat → Int32)) (gow_j : (Nat → Int32)) (gfa_j : (Nat → Int32)) (gqu_j : (Nat → Int32)) (glo_j : (Nat → Int32)) (ghi_j : (Nat → Int32)) (gby_j : (Nat → Int32)) (gib_j : (Nat → Int32)) (tto : (Nat → Int32)) : Option (Int32 × Int64 × Int32 × Int32 × (Nat → Int32) × (Nat → Int32) × (Nat → Int32) × (Nat → Int32) × (Nat → Int32) × (Nat → Int32) × (Nat → Int32) × (Nat → Int32) × (Nat → Int32) × (Nat → Int32) × (Nat → Int32) × (Nat → Int32)) := if (M_isOnGround v2 v3) = (0:Int32) then (M_does_j143 mrg_j gle_j gsu_j ms_j gma_j gpi_j gst_j ghe_j gow_j gfa_j gqu_j glo_j ghi_j gby_j gib_j) else (grd (gi (v1 + (3:Int32)) 312) (grd (gi (v1 + (4:Int32)) 312) (if (M_isOnGround (tto (v1 + (3:Int32)).toNatClampNeg) (tto (v1 + (4:Int32)).toNatClampNeg)) = (0:Int32) then (M_does_j143 mrg_j gle_j gsu_j ms_j gma_j gpi_j gst_j ghe_j gow_j gfa_j gqu_j glo_j ghi_j gby_j gib_j) else (grd (gi (v1 + (3:Int32)) 312) (grd (gi (v1 + (4:Int32)) 312) (grd (gi v1 312) (Option.bind (M_fill (((6:Int32) * v2) + v3) (((6:Int32) * (tto (v1 + (3:Int32)).toNatClampNeg)) + (tto (v1 + (4:Int32)).toNatClampNeg)) (if (tto v1.toNatClampNeg) = (102:Int32) then (1:Int32) else (0:Int32)) mrg_j ms_j) (fun q9 => some (if q9.1 < (0:Int32) then (0:Int32) else (1:Int32), q9.2.1, gle_j, gsu_j, q9.2.2, gma_j, gpi_j, gst_j, ghe_j, gow_j, gfa_j, gqu_j, glo_j, ghi_j, gby_j, gib_j)))))))))
def M_does (v1 : Int32) (mrg : Int64) (gle : Int32) (gsu : Int32) (ms : (Nat → Int32)) (gma : (Nat → Int32)) (gpi : (Nat → Int32)) (gst : (Nat → Int32)) (ghe : (Nat → Int32)) (gow : (Nat → Int32)) (gfa : (Nat → Int32)) (gqu : (Nat → Int32)) (glo : (Nat → Int32)) (ghi : (Nat → Int32)) (gby : (Nat → Int32)) (gib : (Nat → Int32)) (tto : (Nat → Int32)) : Option (Int32 × Int64 × Int32 × Int32 × (Nat → Int32) × (Nat → Int32) × (Nat → Int32) × (Nat → Int32) × (Nat → Int32) × (Nat → Int32) × (Nat → Int32) × (Nat → Int32) × (Nat → Int32) × (Nat → Int32) × (Nat → Int32) × (Nat → Int32)) := grd (gi (v1 + (1:Int32)) 312) (grd (gi (v1 + (2:Int32)) 312) (grd (gi v1 312) (if (tto v1.toNatClampNeg) = (99:Int32) then (if (M_isOnGround (tto (v1 + (1:Int32)).toNatClampNeg) (tto (v1 + (2:Int32)).toNatClampNeg)) = (0:Int32) then (some ((0:Int32), mrg, gle, gsu, ms, gma, gpi, gst, ghe, gow, gfa, gqu, glo, ghi, gby, gib)) else (Option.bind (M_becomes (mrg ^^^ ((1:Int64) <<< ((((6:Int32) * (tto (v1 + (1:Int32)).toNatClampNeg)) + (tto (v1 + (2:Int32)).toNatClampNeg)).toInt64 &&& 63))) mrg ms) (fun q18 => some ((1:Int32), q18.1, gle, gsu, q18.2, gma, gpi, gst, ghe, gow, gfa, gqu, glo, ghi, gby, gib)))) else (if (tto v1.toNatClampNeg) = (101:Int32) then (M_does_j113 v1 (tto (v1 + (1:Int32)).toNatClampNeg) (tto (v1 + (2:Int32)).toNatClampNeg) mrg gle gsu ms gma gpi gst ghe gow gfa gqu glo ghi gby gib tto) else (if (tto v1.toNatClampNeg) = (102:Int32) then (M_does_j113 v1 (tto (v1 + (1:Int32)).toNatClampNeg) (tto (v1 + (2:Int32)).toNatClampNeg) mrg gle gsu ms gma gpi gst ghe gow gfa gqu glo ghi gby gib tto) else (if (tto v1.toNatClampNeg) = (109:Int32) then (Option.bind (M_mirrored mrg) (fun q19 => Option.bind (M_becomes q19 mrg ms) (fun q20 => some ((1:Int32), q20.1, gle, gsu, q20.2, gma, gpi, gst, ghe, gow, gfa, gqu, glo, ghi, gby, gib)))) else (if (tto v1.toNatClampNeg) = (116:Int32) then (if (M_isIn (tto (v1 + (1:Int32)).toNatClampNeg) (0:Int32) (6:Int32)) = (0:Int32) then (M_does_j247 mrg gle gsu ms gma gpi gst ghe gow gfa gqu glo ghi gby gib) else (if (M_isIn (tto (v1 + (2:Int32)).toNatClampNeg) (0:Int32) (6:Int32)) = (0:Int32) then (M_does_j247 mrg gle gsu ms gma gpi gst ghe gow gfa gqu glo ghi gby gib) else (Option.bind (M_turn (((7:Int32) * (tto (v1 + (1:Int32)).toNatClampNeg)) + (tto (v1 + (2:Int32)).toNatClampNeg)) mrg gle gsu ms gma gpi gst ghe gow gfa gqu glo ghi gby gib) (fun q23 => some (if q23.1 < (0:Int32) then (0:Int32) else (1:Int32), mrg, q23.2.1, q23.2.2.1, q23.2.2.2.1, q23.2.2.2.2.1, q23.2.2.2.2.2.1, q23.2.2.2.2.2.2.1, q23.2.2.2.2.2.2.2.1, q23.2.2.2.2.2.2.2.2.1, q23.2.2.2.2.2.2.2.2.2.1, q23.2.2.2.2.2.2.2.2.2.2.1, q23.2.2.2.2.2.2.2.2.2.2.2.1, q23.2.2.2.2.2.2.2.2.2.2.2.2.1, q23.2.2.2.2.2.2.2.2.2.2.2.2.2.1, q23.2.2.2.2.2.2.2.2.2.2.2.2.2.2))))) else (if (tto v1.toNatClampNeg) = (119:Int32) then (Option.bind (M_walks v1 ms tto) (fun q26 => grd (zb q26.1) (some (q26.1, mrg, gle, gsu, q26.2, gma, gpi, gst, ghe, gow, gfa, gqu, glo, ghi, gby, gib)))) else (grd (gi v1 312) (Option.bind (M_lay (if (tto v1.toNatClampNeg) = (108:Int32) then (0:Int32) else (1:Int32)) mrg gle gsu ms gma gpi gst ghe gow gfa gqu glo ghi gby gib) (fun q29 => some (if q29.1 < (0:Int32) then (0:Int32) else (1:Int32), mrg, q29.2.1, q29.2.2.1, q29.2.2.2.1, q29.2.2.2.2.1, q29.2.2.2.2.2.1, q29.2.2.2.2.2.2.1, q29.2.2.2.2.2.2.2.1, q29.2.2.2.2.2.2.2.2.1, q29.2.2.2.2.2.2.2.2.2.1, q29.2.2.2.2.2.2.2.2.2.2.1, q29.2.2.2.2.2.2.2.2.2.2.2.1, q29.2.2.2.2.2.2.2.2.2.2.2.2.1, q29.2.2.2.2.2.2.2.2.2.2.2.2.2.1, q29.2.2.2.2.2.2.2.2.2.2.2.2.2.2))))))))))))
set_option maxRecDepth 10000 in
theorem M_does_ok {v1 : Int32} {q : (Int32 × Int64 × Int32 × Int32 × (Nat → Int32) × (Nat → Int32) × (Nat → Int32) × (Nat → Int32) × (Nat → Int32) × (Nat → Int32) × (Nat → Int32) × (Nat → Int32) × (Nat → Int32) × (Nat → Int32) × (Nat → Int32) × (Nat → Int32))} (hc : call = sxE sc (d + 9)) (hf : M_does v1 mk.1 mg.2.2.1 mg.2.2.2.1 mk.2.2.1 mg.1 mg.2.1 mg.2.2.2.2.1 mg.2.2.2.2.2.1 mg.2.2.2.2.2.2.1 mg.2.2.2.2.2.2.2.1 mg.2.2.2.2.2.2.2.2.1 mg.2.2.2.2.2.2.2.2.2.1 mg.2.2.2.2.2.2.2.2.2.2.1 mg.2.2.2.2.2.2.2.2.2.2.2.1 mg.2.2.2.2.2.2.2.2.2.2.2.2 mt.2.2 = some q) (h : Q (some (.int q.1)) (cW nw kp im ol sn sr tp (mW (q.2.1, mk.2.1, q.2.2.2.2.1, mk.2.2.2.1, mk.2.2.2.2.1, mk.2.2.2.2.2.1, mk.2.2.2.2.2.2.1, mk.2.2.2.2.2.2.2.1, mk.2.2.2.2.2.2.2.2.1, mk.2.2.2.2.2.2.2.2.2) (q.2.2.2.2.2.1, q.2.2.2.2.2.2.1, q.2.2.1, q.2.2.2.1, q.2.2.2.2.2.2.2.1, q.2.2.2.2.2.2.2.2.1, q.2.2.2.2.2.2.2.2.2.1, q.2.2.2.2.2.2.2.2.2.2.1, q.2.2.2.2.2.2.2.2.2.2.2.1, q.2.2.2.2.2.2.2.2.2.2.2.2.1, q.2.2.2.2.2.2.2.2.2.2.2.2.2.1, q.2.2.2.2.2.2.2.2.2.2.2.2.2.2.1, q.2.2.2.2.2.2.2.2.2.2.2.2.2.2.2) mt mc T))) : call 198 [.ref 59, .int v1] (cW nw kp im ol sn sr tp (mW mk mg mt mc T)) Q := by
  refine ent hc rfl (fun cl hE hm => ?_)
  have J248 : ∀ (k0 : Int32) (mrg_j : Int64) (gle_j : Int32) (gsu_j : Int32) (ms_j : (Nat → Int32)) (gma_j : (Nat → Int32)) (gpi_j : (Nat → Int32)) (gst_j : (Nat → Int32)) (ghe_j : (Nat → Int32)) (gow_j : (Nat → Int32)) (gfa_j : (Nat → Int32)) (gqu_j : (Nat → Int32)) (glo_j : (Nat → Int32)) (ghi_j : (Nat → Int32)) (gby_j : (Nat → Int32)) (gib_j : (Nat → Int32)) (z0 : Option Value) (z1 : Option Value) (z2 : Option Value) (z3 : Option Value), M_does_j248 k0 mrg_j gle_j gsu_j ms_j gma_j gpi_j gst_j ghe_j gow_j gfa_j gqu_j glo_j ghi_j gby_j gib_j = some q → sxWP sc cl Q 198 (248, [z0, z1, z2, z3], [.int k0], (cW nw kp im ol sn sr tp (mW (mrg_j, mk.2.1, ms_j, mk.2.2.2.1, mk.2.2.2.2.1, mk.2.2.2.2.2.1, mk.2.2.2.2.2.2.1, mk.2.2.2.2.2.2.2.1, mk.2.2.2.2.2.2.2.2.1, mk.2.2.2.2.2.2.2.2.2) (gma_j, gpi_j, gle_j, gsu_j, gst_j, ghe_j, gow_j, gfa_j, gqu_j, glo_j, ghi_j, gby_j, gib_j) mt mc T)), 0, 0) := by
    intro k0 mrg_j gle_j gsu_j ms_j gma_j gpi_j gst_j ghe_j gow_j gfa_j gqu_j glo_j ghi_j gby_j gib_j z0 z1 z2 z3 hf
    unfold M_does_j248 at hf
    obtain ⟨g0, hf⟩ := grd_e hf
    obtain rfl := Option.some.inj hf
    refine stp hm 1 (And.intro (zb_e g0) ?_)
    exact h
  have J247 : ∀ (mrg_j : Int64) (gle_j : Int32) (gsu_j : Int32) (ms_j : (Nat → Int32)) (gma_j : (Nat → Int32)) (gpi_j : (Nat → Int32)) (gst_j : (Nat → Int32)) (ghe_j : (Nat → Int32)) (gow_j : (Nat → Int32)) (gfa_j : (Nat → Int32)) (gqu_j : (Nat → Int32)) (glo_j : (Nat → Int32)) (ghi_j : (Nat → Int32)) (gby_j : (Nat → Int32)) (gib_j : (Nat → Int32)) (z0 : Option Value) (z1 : Option Value) (z2 : Option Value) (z3 : Option Value), M_does_j247 mrg_j gle_j gsu_j ms_j gma_j gpi_j gst_j ghe_j gow_j gfa_j gqu_j glo_j ghi_j gby_j gib_j = some q → sxWP sc cl Q 198 (247, [z0, z1, z2, z3], [], (cW nw kp im ol sn sr tp (mW (mrg_j, mk.2.1, ms_j, mk.2.2.2.1, mk.2.2.2.2.1, mk.2.2.2.2.2.1, mk.2.2.2.2.2.2.1, mk.2.2.2.2.2.2.2.1, mk.2.2.2.2.2.2.2.2.1, mk.2.2.2.2.2.2.2.2.2) (gma_j, gpi_j, gle_j, gsu_j, gst_j, ghe_j, gow_j, gfa_j, gqu_j, glo_j, ghi_j, gby_j, gib_j) mt mc T)), 0, 0) := by
    intro mrg_j gle_j gsu_j ms_j gma_j gpi_j gst_j ghe_j gow_j gfa_j gqu_j glo_j ghi_j gby_j gib_j z0 z1 z2 z3 hf
    unfold M_does_j247 at hf
    refine stp hm 1 (?_ : sxWP sc cl Q 198 (248, [z0, z1, z2, z3], [.int (0:Int32)], (cW nw kp im ol sn sr tp (mW (mrg_j, mk.2.1, ms_j, mk.2.2.2.1, mk.2.2.2.2.1, mk.2.2.2.2.2.1, mk.2.2.2.2.2.2.1, mk.2.2.2.2.2.2.2.1, mk.2.2.2.2.2.2.2.2.1, mk.2.2.2.2.2.2.2.2.2) (gma_j, gpi_j, gle_j, gsu_j, gst_j, ghe_j, gow_j, gfa_j, gqu_j, glo_j, ghi_j, gby_j, gib_j) mt mc T)), 0, 0))
    exact J248 _ _ _ _ _ _ _ _ _ _ _ _ _ _ _ _ _ _ _ _ hf
  have J143 : ∀ (mrg_j : Int64) (gle_j : Int32) (gsu_j : Int32) (ms_j : (Nat → Int32)) (gma_j : (Nat → Int32)) (gpi_j : (Nat → Int32)) (gst_j : (Nat → Int32)) (ghe_j : (Nat → Int32)) (gow_j : (Nat → Int32)) (gfa_j : (Nat → Int32)) (gqu_j : (Nat → Int32)) (glo_j : (Nat → Int32)) (ghi_j : (Nat → Int32)) (gby_j : (Nat → Int32)) (gib_j : (Nat → Int32)) (z0 : Option Value) (z1 : Option Value) (z2 : Option Value) (z3 : Option Value), M_does_j143 mrg_j gle_j gsu_j ms_j gma_j gpi_j gst_j ghe_j gow_j gfa_j gqu_j glo_j ghi_j gby_j gib_j = some q → sxWP sc cl Q 198 (143, [z0, z1, z2, z3], [], (cW nw kp im ol sn sr tp (mW (mrg_j, mk.2.1, ms_j, mk.2.2.2.1, mk.2.2.2.2.1, mk.2.2.2.2.2.1, mk.2.2.2.2.2.2.1, mk.2.2.2.2.2.2.2.1, mk.2.2.2.2.2.2.2.2.1, mk.2.2.2.2.2.2.2.2.2) (gma_j, gpi_j, gle_j, gsu_j, gst_j, ghe_j, gow_j, gfa_j, gqu_j, glo_j, ghi_j, gby_j, gib_j) mt mc T)), 0, 0) := by
    intro mrg_j gle_j gsu_j ms_j gma_j gpi_j gst_j ghe_j gow_j gfa_j gqu_j glo_j ghi_j gby_j gib_j z0 z1 z2 z3 hf
    unfold M_does_j143 at hf
    obtain rfl := Option.some.inj hf
    refine stp hm 2 (And.intro (Or.inl rfl) ?_)
    exact h
  have J113 : ∀ (v1 : Int32) (v2 : Int32) (v3 : Int32) (mrg_j : Int64) (gle_j : Int32) (gsu_j : Int32) (ms_j : (Nat → Int32)) (gma_j : (Nat → Int32)) (gpi_j : (Nat → Int32)) (gst_j : (Nat → Int32)) (ghe_j : (Nat → Int32)) (gow_j : (Nat → Int32)) (gfa_j : (Nat → Int32)) (gqu_j : (Nat → Int32)) (glo_j : (Nat → Int32)) (ghi_j : (Nat → Int32)) (gby_j : (Nat → Int32)) (gib_j : (Nat → Int32)), M_does_j113 v1 v2 v3 mrg_j gle_j gsu_j ms_j gma_j gpi_j gst_j ghe_j gow_j gfa_j gqu_j glo_j ghi_j gby_j gib_j mt.2.2 = some q → sxWP sc cl Q 198 (113, [some (.ref 59), some (.int v1), some (.int v2), some (.int v3)], [], (cW nw kp im ol sn sr tp (mW (mrg_j, mk.2.1, ms_j, mk.2.2.2.1, mk.2.2.2.2.1, mk.2.2.2.2.2.1, mk.2.2.2.2.2.2.1, mk.2.2.2.2.2.2.2.1, mk.2.2.2.2.2.2.2.2.1, mk.2.2.2.2.2.2.2.2.2) (gma_j, gpi_j, gle_j, gsu_j, gst_j, ghe_j, gow_j, gfa_j, gqu_j, glo_j, ghi_j, gby_j, gib_j) mt mc T)), 0, 0) := by
    intro v1 v2 v3 mrg_j gle_j gsu_j ms_j gma_j gpi_j gst_j ghe_j gow_j gfa_j gqu_j glo_j ghi_j gby_j gib_j hf
    unfold M_does_j113 at hf
    refine stp hm 3 (M_isOnGround_ok hE rfl ?_)
    show sxWP sc cl Q 198 (118, [some (.ref 59), some (.int v1), some (.int v2), some (.int v3)], [.int (M_isOnGround v2 v3)], (cW nw kp im ol sn sr tp (mW (mrg_j, mk.2.1, ms_j, mk.2.2.2.1, mk.2.2.2.2.1, mk.2.2.2.2.2.1, mk.2.2.2.2.2.2.1, mk.2.2.2.2.2.2.2.1, mk.2.2.2.2.2.2.2.2.1, mk.2.2.2.2.2.2.2.2.2) (gma_j, gpi_j, gle_j, gsu_j, gst_j, ghe_j, gow_j, gfa_j, gqu_j, glo_j, ghi_j, gby_j, gib_j) mt mc T)), 0, 0)
    refine stp hm 1 (br hf (fun c1 hf => ?_) (fun c1 hf => ?_))
    · show sxWP sc cl Q 198 (143, [some (.ref 59), some (.int v1), some (.int v2), some (.int v3)], [], (cW nw kp im ol sn sr tp (mW (mrg_j, mk.2.1, ms_j, mk.2.2.2.1, mk.2.2.2.2.1, mk.2.2.2.2.2.1, mk.2.2.2.2.2.2.1, mk.2.2.2.2.2.2.2.1, mk.2.2.2.2.2.2.2.2.1, mk.2.2.2.2.2.2.2.2.2) (gma_j, gpi_j, gle_j, gsu_j, gst_j, ghe_j, gow_j, gfa_j, gqu_j, glo_j, ghi_j, gby_j, gib_j) mt mc T)), 0, 0)
      exact J143 _ _ _ _ _ _ _ _ _ _ _ _ _ _ _ _ _ _ _ hf
    · show sxWP sc cl Q 198 (121, [some (.ref 59), some (.int v1), some (.int v2), some (.int v3)], [], (cW nw kp im ol sn sr tp (mW (mrg_j, mk.2.1, ms_j, mk.2.2.2.1, mk.2.2.2.2.1, mk.2.2.2.2.2.1, mk.2.2.2.2.2.2.1, mk.2.2.2.2.2.2.2.1, mk.2.2.2.2.2.2.2.2.1, mk.2.2.2.2.2.2.2.2.2) (gma_j, gpi_j, gle_j, gsu_j, gst_j, ghe_j, gow_j, gfa_j, gqu_j, glo_j, ghi_j, gby_j, gib_j) mt mc T)), 0, 0)
      obtain ⟨g2, hf⟩ := grd_e hf
      refine stp hm 6 (And.intro (gi_in g2) (?_ : sxWP sc cl Q 198 (129, [some (.ref 59), some (.int v1), some (.int v2), some (.int v3)], [.int (mt.2.2 (v1 + (3:Int32)).toNatClampNeg)], (cW nw kp im ol sn sr tp (mW (mrg_j, mk.2.1, ms_j, mk.2.2.2.1, mk.2.2.2.2.1, mk.2.2.2.2.2.1, mk.2.2.2.2.2.2.1, mk.2.2.2.2.2.2.2.1, mk.2.2.2.2.2.2.2.2.1, mk.2.2.2.2.2.2.2.2.2) (gma_j, gpi_j, gle_j, gsu_j, gst_j, ghe_j, gow_j, gfa_j, gqu_j, glo_j, ghi_j, gby_j, gib_j) mt mc T)), 0, 0)))
      obtain ⟨g3, hf⟩ := grd_e hf
      refine stp hm 6 (And.intro (gi_in g3) (?_ : sxWP sc cl Q 198 (137, [some (.ref 59), some (.int v1), some (.int v2), some (.int v3)], [.int (mt.2.2 (v1 + (4:Int32)).toNatClampNeg), .int (mt.2.2 (v1 + (3:Int32)).toNatClampNeg)], (cW nw kp im ol sn sr tp (mW (mrg_j, mk.2.1, ms_j, mk.2.2.2.1, mk.2.2.2.2.1, mk.2.2.2.2.2.1, mk.2.2.2.2.2.2.1, mk.2.2.2.2.2.2.2.1, mk.2.2.2.2.2.2.2.2.1, mk.2.2.2.2.2.2.2.2.2) (gma_j, gpi_j, gle_j, gsu_j, gst_j, ghe_j, gow_j, gfa_j, gqu_j, glo_j, ghi_j, gby_j, gib_j) mt mc T)), 0, 0)))
      refine stp hm 1 (M_isOnGround_ok hE rfl ?_)
      show sxWP sc cl Q 198 (140, [some (.ref 59), some (.int v1), some (.int v2), some (.int v3)], [.int (M_isOnGround (mt.2.2 (v1 + (3:Int32)).toNatClampNeg) (mt.2.2 (v1 + (4:Int32)).toNatClampNeg))], (cW nw kp im ol sn sr tp (mW (mrg_j, mk.2.1, ms_j, mk.2.2.2.1, mk.2.2.2.2.1, mk.2.2.2.2.2.1, mk.2.2.2.2.2.2.1, mk.2.2.2.2.2.2.2.1, mk.2.2.2.2.2.2.2.2.1, mk.2.2.2.2.2.2.2.2.2) (gma_j, gpi_j, gle_j, gsu_j, gst_j, ghe_j, gow_j, gfa_j, gqu_j, glo_j, ghi_j, gby_j, gib_j) mt mc T)), 0, 0)
      refine stp hm 1 (brn hf (fun c4 hf => ?_) (fun c4 hf => ?_))
      · show sxWP sc cl Q 198 (145, [some (.ref 59), some (.int v1), some (.int v2), some (.int v3)], [], (cW nw kp im ol sn sr tp (mW (mrg_j, mk.2.1, ms_j, mk.2.2.2.1, mk.2.2.2.2.1, mk.2.2.2.2.2.1, mk.2.2.2.2.2.2.1, mk.2.2.2.2.2.2.2.1, mk.2.2.2.2.2.2.2.2.1, mk.2.2.2.2.2.2.2.2.2) (gma_j, gpi_j, gle_j, gsu_j, gst_j, ghe_j, gow_j, gfa_j, gqu_j, glo_j, ghi_j, gby_j, gib_j) mt mc T)), 0, 0)
        obtain ⟨g5, hf⟩ := grd_e hf
        refine stp hm 13 (And.intro (gi_in g5) (?_ : sxWP sc cl Q 198 (162, [some (.ref 59), some (.int v1), some (.int v2), some (.int v3)], [.int (mt.2.2 (v1 + (3:Int32)).toNatClampNeg), .int (6:Int32), .int (((6:Int32) * v2) + v3), .ref 59], (cW nw kp im ol sn sr tp (mW (mrg_j, mk.2.1, ms_j, mk.2.2.2.1, mk.2.2.2.2.1, mk.2.2.2.2.2.1, mk.2.2.2.2.2.2.1, mk.2.2.2.2.2.2.2.1, mk.2.2.2.2.2.2.2.2.1, mk.2.2.2.2.2.2.2.2.2) (gma_j, gpi_j, gle_j, gsu_j, gst_j, ghe_j, gow_j, gfa_j, gqu_j, glo_j, ghi_j, gby_j, gib_j) mt mc T)), 0, 0)))
        obtain ⟨g6, hf⟩ := grd_e hf
        refine stp hm 7 (And.intro (gi_in g6) (?_ : sxWP sc cl Q 198 (171, [some (.ref 59), some (.int v1), some (.int v2), some (.int v3)], [.int (mt.2.2 (v1 + (4:Int32)).toNatClampNeg), .int ((6:Int32) * (mt.2.2 (v1 + (3:Int32)).toNatClampNeg)), .int (((6:Int32) * v2) + v3), .ref 59], (cW nw kp im ol sn sr tp (mW (mrg_j, mk.2.1, ms_j, mk.2.2.2.1, mk.2.2.2.2.1, mk.2.2.2.2.2.1, mk.2.2.2.2.2.2.1, mk.2.2.2.2.2.2.2.1, mk.2.2.2.2.2.2.2.2.1, mk.2.2.2.2.2.2.2.2.2) (gma_j, gpi_j, gle_j, gsu_j, gst_j, ghe_j, gow_j, gfa_j, gqu_j, glo_j, ghi_j, gby_j, gib_j) mt mc T)), 0, 0)))
        obtain ⟨g7, hf⟩ := grd_e hf
        refine stp hm 5 (And.intro (gi_in g7) (?_ : sxWP sc cl Q 198 (178, [some (.ref 59), some (.int v1), some (.int v2), some (.int v3)], [.int (mt.2.2 v1.toNatClampNeg), .int (((6:Int32) * (mt.2.2 (v1 + (3:Int32)).toNatClampNeg)) + (mt.2.2 (v1 + (4:Int32)).toNatClampNeg)), .int (((6:Int32) * v2) + v3), .ref 59], (cW nw kp im ol sn sr tp (mW (mrg_j, mk.2.1, ms_j, mk.2.2.2.1, mk.2.2.2.2.1, mk.2.2.2.2.2.1, mk.2.2.2.2.2.2.1, mk.2.2.2.2.2.2.2.1, mk.2.2.2.2.2.2.2.2.1, mk.2.2.2.2.2.2.2.2.2) (gma_j, gpi_j, gle_j, gsu_j, gst_j, ghe_j, gow_j, gfa_j, gqu_j, glo_j, ghi_j, gby_j, gib_j) mt mc T)), 0, 0)))
        have m8 : ∀ (m8_0 : Int32), m8_0 = (if (mt.2.2 v1.toNatClampNeg) = (102:Int32) then (1:Int32) else (0:Int32)) → sxWP sc cl Q 198 (188, [some (.ref 59), some (.int v1), some (.int v2), some (.int v3)], [.int m8_0, .int (((6:Int32) * (mt.2.2 (v1 + (3:Int32)).toNatClampNeg)) + (mt.2.2 (v1 + (4:Int32)).toNatClampNeg)), .int (((6:Int32) * v2) + v3), .ref 59], (cW nw kp im ol sn sr tp (mW (mrg_j, mk.2.1, ms_j, mk.2.2.2.1, mk.2.2.2.2.1, mk.2.2.2.2.2.1, mk.2.2.2.2.2.2.1, mk.2.2.2.2.2.2.2.1, mk.2.2.2.2.2.2.2.2.1, mk.2.2.2.2.2.2.2.2.2) (gma_j, gpi_j, gle_j, gsu_j, gst_j, ghe_j, gow_j, gfa_j, gqu_j, glo_j, ghi_j, gby_j, gib_j) mt mc T)), 0, 0) := by
          intro m8_0 em8_0
          subst em8_0
          obtain ⟨q9, hq9, hf⟩ := bnd hf
          refine stp hm 1 (M_fill_ok hE hq9 ?_)
          show sxWP sc cl Q 198 (191, [some (.ref 59), some (.int v1), some (.int v2), some (.int v3)], [.int q9.1], (cW nw kp im ol sn sr tp (mW (q9.2.1, mk.2.1, q9.2.2, mk.2.2.2.1, mk.2.2.2.2.1, mk.2.2.2.2.2.1, mk.2.2.2.2.2.2.1, mk.2.2.2.2.2.2.2.1, mk.2.2.2.2.2.2.2.2.1, mk.2.2.2.2.2.2.2.2.2) (gma_j, gpi_j, gle_j, gsu_j, gst_j, ghe_j, gow_j, gfa_j, gqu_j, glo_j, ghi_j, gby_j, gib_j) mt mc T)), 0, 0)
          have m10 : ∀ (m10_0 : Int32), m10_0 = (if q9.1 < (0:Int32) then (0:Int32) else (1:Int32)) → sxWP sc cl Q 198 (199, [some (.ref 59), some (.int v1), some (.int v2), some (.int v3)], [.int m10_0], (cW nw kp im ol sn sr tp (mW (q9.2.1, mk.2.1, q9.2.2, mk.2.2.2.1, mk.2.2.2.2.1, mk.2.2.2.2.2.1, mk.2.2.2.2.2.2.1, mk.2.2.2.2.2.2.2.1, mk.2.2.2.2.2.2.2.2.1, mk.2.2.2.2.2.2.2.2.2) (gma_j, gpi_j, gle_j, gsu_j, gst_j, ghe_j, gow_j, gfa_j, gqu_j, glo_j, ghi_j, gby_j, gib_j) mt mc T)), 0, 0) := by
            intro m10_0 em10_0
            subst em10_0
            obtain rfl := Option.some.inj hf
            refine stp hm 1 (And.intro (by (repeat' split) <;> first | exact Or.inl rfl | exact Or.inr rfl) ?_)
            exact h
          refine stp hm 1 (bs (c := q9.1 < (0:Int32)) (fun c11 => ?_) (fun c11 => ?_))
          · have c11 : q9.1 < (0:Int32) := c11
            refine stp hm 1 (?_ : sxWP sc cl Q 198 (199, [some (.ref 59), some (.int v1), some (.int v2), some (.int v3)], [.int (0:Int32)], (cW nw kp im ol sn sr tp (mW (q9.2.1, mk.2.1, q9.2.2, mk.2.2.2.1, mk.2.2.2.2.1, mk.2.2.2.2.2.1, mk.2.2.2.2.2.2.1, mk.2.2.2.2.2.2.2.1, mk.2.2.2.2.2.2.2.2.1, mk.2.2.2.2.2.2.2.2.2) (gma_j, gpi_j, gle_j, gsu_j, gst_j, ghe_j, gow_j, gfa_j, gqu_j, glo_j, ghi_j, gby_j, gib_j) mt mc T)), 0, 0))
            exact m10 _ (by rw [if_pos c11])
          · have c11 : ¬ q9.1 < (0:Int32) := c11
            refine stp hm 2 (?_ : sxWP sc cl Q 198 (199, [some (.ref 59), some (.int v1), some (.int v2), some (.int v3)], [.int (1:Int32)], (cW nw kp im ol sn sr tp (mW (q9.2.1, mk.2.1, q9.2.2, mk.2.2.2.1, mk.2.2.2.2.1, mk.2.2.2.2.2.1, mk.2.2.2.2.2.2.1, mk.2.2.2.2.2.2.2.1, mk.2.2.2.2.2.2.2.2.1, mk.2.2.2.2.2.2.2.2.2) (gma_j, gpi_j, gle_j, gsu_j, gst_j, ghe_j, gow_j, gfa_j, gqu_j, glo_j, ghi_j, gby_j, gib_j) mt mc T)), 0, 0))
            exact m10 _ (by rw [if_neg c11])
        refine stp hm 2 (bsn (c := (mt.2.2 v1.toNatClampNeg) = (102:Int32)) (fun c12 => ?_) (fun c12 => ?_))
        · have c12 : ¬ (mt.2.2 v1.toNatClampNeg) = (102:Int32) := c12
          refine stp hm 1 (?_ : sxWP sc cl Q 198 (188, [some (.ref 59), some (.int v1), some (.int v2), some (.int v3)], [.int (0:Int32), .int (((6:Int32) * (mt.2.2 (v1 + (3:Int32)).toNatClampNeg)) + (mt.2.2 (v1 + (4:Int32)).toNatClampNeg)), .int (((6:Int32) * v2) + v3), .ref 59], (cW nw kp im ol sn sr tp (mW (mrg_j, mk.2.1, ms_j, mk.2.2.2.1, mk.2.2.2.2.1, mk.2.2.2.2.2.1, mk.2.2.2.2.2.2.1, mk.2.2.2.2.2.2.2.1, mk.2.2.2.2.2.2.2.2.1, mk.2.2.2.2.2.2.2.2.2) (gma_j, gpi_j, gle_j, gsu_j, gst_j, ghe_j, gow_j, gfa_j, gqu_j, glo_j, ghi_j, gby_j, gib_j) mt mc T)), 0, 0))
          exact m8 _ (by rw [if_neg c12])
        · have c12 : (mt.2.2 v1.toNatClampNeg) = (102:Int32) := c12
          refine stp hm 2 (?_ : sxWP sc cl Q 198 (188, [some (.ref 59), some (.int v1), some (.int v2), some (.int v3)], [.int (1:Int32), .int (((6:Int32) * (mt.2.2 (v1 + (3:Int32)).toNatClampNeg)) + (mt.2.2 (v1 + (4:Int32)).toNatClampNeg)), .int (((6:Int32) * v2) + v3), .ref 59], (cW nw kp im ol sn sr tp (mW (mrg_j, mk.2.1, ms_j, mk.2.2.2.1, mk.2.2.2.2.1, mk.2.2.2.2.2.1, mk.2.2.2.2.2.2.1, mk.2.2.2.2.2.2.2.1, mk.2.2.2.2.2.2.2.2.1, mk.2.2.2.2.2.2.2.2.2) (gma_j, gpi_j, gle_j, gsu_j, gst_j, ghe_j, gow_j, gfa_j, gqu_j, glo_j, ghi_j, gby_j, gib_j) mt mc T)), 0, 0))
          exact m8 _ (by rw [if_pos c12])
      · show sxWP sc cl Q 198 (143, [some (.ref 59), some (.int v1), some (.int v2), some (.int v3)], [], (cW nw kp im ol sn sr tp (mW (mrg_j, mk.2.1, ms_j, mk.2.2.2.1, mk.2.2.2.2.1, mk.2.2.2.2.2.1, mk.2.2.2.2.2.2.1, mk.2.2.2.2.2.2.2.1, mk.2.2.2.2.2.2.2.2.1, mk.2.2.2.2.2.2.2.2.2) (gma_j, gpi_j, gle_j, gsu_j, gst_j, ghe_j, gow_j, gfa_j, gqu_j, glo_j, ghi_j, gby_j, gib_j) mt mc T)), 0, 0)
        exact J143 _ _ _ _ _ _ _ _ _ _ _ _ _ _ _ _ _ _ _ hf
  unfold M_does at hf
  obtain ⟨g13, hf⟩ := grd_e hf
  refine stp hm 6 (And.intro (gi_in g13) (?_ : sxWP sc cl Q 198 (8, [some (.ref 59), some (.int v1), none, none], [.int (mt.2.2 (v1 + (1:Int32)).toNatClampNeg)], (cW nw kp im ol sn sr tp (mW mk mg mt mc T)), 0, 0)))
  obtain ⟨g14, hf⟩ := grd_e hf
  refine stp hm 7 (And.intro (gi_in g14) (?_ : sxWP sc cl Q 198 (17, [some (.ref 59), some (.int v1), some (.int (mt.2.2 (v1 + (1:Int32)).toNatClampNeg)), none], [.int (mt.2.2 (v1 + (2:Int32)).toNatClampNeg)], (cW nw kp im ol sn sr tp (mW mk mg mt mc T)), 0, 0)))
  obtain ⟨g15, hf⟩ := grd_e hf
  refine stp hm 5 (And.intro (gi_in g15) (?_ : sxWP sc cl Q 198 (24, [some (.ref 59), some (.int v1), some (.int (mt.2.2 (v1 + (1:Int32)).toNatClampNeg)), some (.int (mt.2.2 (v1 + (2:Int32)).toNatClampNeg))], [.int (mt.2.2 v1.toNatClampNeg)], (cW nw kp im ol sn sr tp (mW mk mg mt mc T)), 0, 0)))
  refine stp hm 1 ?_
  show sxWP sc cl Q 198 ((swL (mt.2.2 v1.toNatClampNeg).toInt [(99, 60), (101, 89), (102, 89), (109, 176), (116, 186), (119, 225)] [84, 113, 113, 200, 210, 249] 255), [some (.ref 59), some (.int v1), some (.int (mt.2.2 (v1 + (1:Int32)).toNatClampNeg)), some (.int (mt.2.2 (v1 + (2:Int32)).toNatClampNeg))], [], (cW nw kp im ol sn sr tp (mW mk mg mt mc T)), 0, 0)
  rcases ite_or hf with ⟨c16_0, hf⟩ | ⟨c16_0, hf⟩
  · rw [show swL (mt.2.2 v1.toNatClampNeg).toInt [(99, 60), (101, 89), (102, 89), (109, 176), (116, 186), (119, 225)] [84, 113, 113, 200, 210, 249] 255 = 84 by rw [c16_0]; rfl]
    refine stp hm 3 (M_isOnGround_ok hE rfl ?_)
    show sxWP sc cl Q 198 (89, [some (.ref 59), some (.int v1), some (.int (mt.2.2 (v1 + (1:Int32)).toNatClampNeg)), some (.int (mt.2.2 (v1 + (2:Int32)).toNatClampNeg))], [.int (M_isOnGround (mt.2.2 (v1 + (1:Int32)).toNatClampNeg) (mt.2.2 (v1 + (2:Int32)).toNatClampNeg))], (cW nw kp im ol sn sr tp (mW mk mg mt mc T)), 0, 0)
    refine stp hm 1 (brn hf (fun c17 hf => ?_) (fun c17 hf => ?_))
    · show sxWP sc cl Q 198 (94, [some (.ref 59), some (.int v1), some (.int (mt.2.2 (v1 + (1:Int32)).toNatClampNeg)), some (.int (mt.2.2 (v1 + (2:Int32)).toNatClampNeg))], [], (cW nw kp im ol sn sr tp (mW mk mg mt mc T)), 0, 0)
      obtain ⟨q18, hq18, hf⟩ := bnd hf
      refine stp hm 12 (M_becomes_ok hE hq18 ?_)
      show sxWP sc cl Q 198 (111, [some (.ref 59), some (.int v1), some (.int (mt.2.2 (v1 + (1:Int32)).toNatClampNeg)), some (.int (mt.2.2 (v1 + (2:Int32)).toNatClampNeg))], [], (cW nw kp im ol sn sr tp (mW (q18.1, mk.2.1, q18.2, mk.2.2.2.1, mk.2.2.2.2.1, mk.2.2.2.2.2.1, mk.2.2.2.2.2.2.1, mk.2.2.2.2.2.2.2.1, mk.2.2.2.2.2.2.2.2.1, mk.2.2.2.2.2.2.2.2.2) mg mt mc T)), 0, 0)
      obtain rfl := Option.some.inj hf
      refine stp hm 2 (And.intro (Or.inr rfl) ?_)
      exact h
    · show sxWP sc cl Q 198 (92, [some (.ref 59), some (.int v1), some (.int (mt.2.2 (v1 + (1:Int32)).toNatClampNeg)), some (.int (mt.2.2 (v1 + (2:Int32)).toNatClampNeg))], [], (cW nw kp im ol sn sr tp (mW mk mg mt mc T)), 0, 0)
      obtain rfl := Option.some.inj hf
      refine stp hm 2 (And.intro (Or.inl rfl) ?_)
      exact h
  rcases ite_or hf with ⟨c16_1, hf⟩ | ⟨c16_1, hf⟩
  · rw [show swL (mt.2.2 v1.toNatClampNeg).toInt [(99, 60), (101, 89), (102, 89), (109, 176), (116, 186), (119, 225)] [84, 113, 113, 200, 210, 249] 255 = 113 by rw [c16_1]; rfl]
    exact J113 _ _ _ _ _ _ _ _ _ _ _ _ _ _ _ _ _ _ hf
  rcases ite_or hf with ⟨c16_2, hf⟩ | ⟨c16_2, hf⟩
  · rw [show swL (mt.2.2 v1.toNatClampNeg).toInt [(99, 60), (101, 89), (102, 89), (109, 176), (116, 186), (119, 225)] [84, 113, 113, 200, 210, 249] 255 = 113 by rw [c16_2]; rfl]
    exact J113 _ _ _ _ _ _ _ _ _ _ _ _ _ _ _ _ _ _ hf
  rcases ite_or hf with ⟨c16_3, hf⟩ | ⟨c16_3, hf⟩
  · rw [show swL (mt.2.2 v1.toNatClampNeg).toInt [(99, 60), (101, 89), (102, 89), (109, 176), (116, 186), (119, 225)] [84, 113, 113, 200, 210, 249] 255 = 200 by rw [c16_3]; rfl]
    obtain ⟨q19, hq19, hf⟩ := bnd hf
    refine stp hm 3 (M_mirrored_ok hE hq19 ?_)
    show sxWP sc cl Q 198 (205, [some (.ref 59), some (.int v1), some (.int (mt.2.2 (v1 + (1:Int32)).toNatClampNeg)), some (.int (mt.2.2 (v1 + (2:Int32)).toNatClampNeg))], [.long q19, .ref 59], (cW nw kp im ol sn sr tp (mW mk mg mt mc T)), 0, 0)
    obtain ⟨q20, hq20, hf⟩ := bnd hf
    refine stp hm 1 (M_becomes_ok hE hq20 ?_)
    show sxWP sc cl Q 198 (208, [some (.ref 59), some (.int v1), some (.int (mt.2.2 (v1 + (1:Int32)).toNatClampNeg)), some (.int (mt.2.2 (v1 + (2:Int32)).toNatClampNeg))], [], (cW nw kp im ol sn sr tp (mW (q20.1, mk.2.1, q20.2, mk.2.2.2.1, mk.2.2.2.2.1, mk.2.2.2.2.2.1, mk.2.2.2.2.2.2.1, mk.2.2.2.2.2.2.2.1, mk.2.2.2.2.2.2.2.2.1, mk.2.2.2.2.2.2.2.2.2) mg mt mc T)), 0, 0)
    obtain rfl := Option.some.inj hf
    refine stp hm 2 (And.intro (Or.inr rfl) ?_)
    exact h
  rcases ite_or hf with ⟨c16_4, hf⟩ | ⟨c16_4, hf⟩
  · rw [show swL (mt.2.2 v1.toNatClampNeg).toInt [(99, 60), (101, 89), (102, 89), (109, 176), (116, 186), (119, 225)] [84, 113, 113, 200, 210, 249] 255 = 210 by rw [c16_4]; rfl]
    refine stp hm 4 (M_isIn_ok hE rfl ?_)
    show sxWP sc cl Q 198 (217, [some (.ref 59), some (.int v1), some (.int (mt.2.2 (v1 + (1:Int32)).toNatClampNeg)), some (.int (mt.2.2 (v1 + (2:Int32)).toNatClampNeg))], [.int (M_isIn (mt.2.2 (v1 + (1:Int32)).toNatClampNeg) (0:Int32) (6:Int32))], (cW nw kp im ol sn sr tp (mW mk mg mt mc T)), 0, 0)
    refine stp hm 1 (br hf (fun c21 hf => ?_) (fun c21 hf => ?_))
    · show sxWP sc cl Q 198 (247, [some (.ref 59), some (.int v1), some (.int (mt.2.2 (v1 + (1:Int32)).toNatClampNeg)), some (.int (mt.2.2 (v1 + (2:Int32)).toNatClampNeg))], [], (cW nw kp im ol sn sr tp (mW mk mg mt mc T)), 0, 0)
      exact J247 _ _ _ _ _ _ _ _ _ _ _ _ _ _ _ _ _ _ _ hf
    · show sxWP sc cl Q 198 (220, [some (.ref 59), some (.int v1), some (.int (mt.2.2 (v1 + (1:Int32)).toNatClampNeg)), some (.int (mt.2.2 (v1 + (2:Int32)).toNatClampNeg))], [], (cW nw kp im ol sn sr tp (mW mk mg mt mc T)), 0, 0)
      refine stp hm 4 (M_isIn_ok hE rfl ?_)
      show sxWP sc cl Q 198 (227, [some (.ref 59), some (.int v1), some (.int (mt.2.2 (v1 + (1:Int32)).toNatClampNeg)), some (.int (mt.2.2 (v1 + (2:Int32)).toNatClampNeg))], [.int (M_isIn (mt.2.2 (v1 + (2:Int32)).toNatClampNeg) (0:Int32) (6:Int32))], (cW nw kp im ol sn sr tp (mW mk mg mt mc T)), 0, 0)
      refine stp hm 1 (br hf (fun c22 hf => ?_) (fun c22 hf => ?_))
      · show sxWP sc cl Q 198 (247, [some (.ref 59), some (.int v1), some (.int (mt.2.2 (v1 + (1:Int32)).toNatClampNeg)), some (.int (mt.2.2 (v1 + (2:Int32)).toNatClampNeg))], [], (cW nw kp im ol sn sr tp (mW mk mg mt mc T)), 0, 0)
        exact J247 _ _ _ _ _ _ _ _ _ _ _ _ _ _ _ _ _ _ _ hf
      · show sxWP sc cl Q 198 (230, [some (.ref 59), some (.int v1), some (.int (mt.2.2 (v1 + (1:Int32)).toNatClampNeg)), some (.int (mt.2.2 (v1 + (2:Int32)).toNatClampNeg))], [], (cW nw kp im ol sn sr tp (mW mk mg mt mc T)), 0, 0)
        obtain ⟨q23, hq23, hf⟩ := bnd hf
        refine stp hm 7 (M_turn_ok hE hq23 ?_)
        show sxWP sc cl Q 198 (240, [some (.ref 59), some (.int v1), some (.int (mt.2.2 (v1 + (1:Int32)).toNatClampNeg)), some (.int (mt.2.2 (v1 + (2:Int32)).toNatClampNeg))], [.int q23.1], (cW nw kp im ol sn sr tp (mW (mk.1, mk.2.1, q23.2.2.2.1, mk.2.2.2.1, mk.2.2.2.2.1, mk.2.2.2.2.2.1, mk.2.2.2.2.2.2.1, mk.2.2.2.2.2.2.2.1, mk.2.2.2.2.2.2.2.2.1, mk.2.2.2.2.2.2.2.2.2) (q23.2.2.2.2.1, q23.2.2.2.2.2.1, q23.2.1, q23.2.2.1, q23.2.2.2.2.2.2.1, q23.2.2.2.2.2.2.2.1, q23.2.2.2.2.2.2.2.2.1, q23.2.2.2.2.2.2.2.2.2.1, q23.2.2.2.2.2.2.2.2.2.2.1, q23.2.2.2.2.2.2.2.2.2.2.2.1, q23.2.2.2.2.2.2.2.2.2.2.2.2.1, q23.2.2.2.2.2.2.2.2.2.2.2.2.2.1, q23.2.2.2.2.2.2.2.2.2.2.2.2.2.2) mt mc T)), 0, 0)
        have m24 : ∀ (m24_0 : Int32), m24_0 = (if q23.1 < (0:Int32) then (0:Int32) else (1:Int32)) → sxWP sc cl Q 198 (248, [some (.ref 59), some (.int v1), some (.int (mt.2.2 (v1 + (1:Int32)).toNatClampNeg)), some (.int (mt.2.2 (v1 + (2:Int32)).toNatClampNeg))], [.int m24_0], (cW nw kp im ol sn sr tp (mW (mk.1, mk.2.1, q23.2.2.2.1, mk.2.2.2.1, mk.2.2.2.2.1, mk.2.2.2.2.2.1, mk.2.2.2.2.2.2.1, mk.2.2.2.2.2.2.2.1, mk.2.2.2.2.2.2.2.2.1, mk.2.2.2.2.2.2.2.2.2) (q23.2.2.2.2.1, q23.2.2.2.2.2.1, q23.2.1, q23.2.2.1, q23.2.2.2.2.2.2.1, q23.2.2.2.2.2.2.2.1, q23.2.2.2.2.2.2.2.2.1, q23.2.2.2.2.2.2.2.2.2.1, q23.2.2.2.2.2.2.2.2.2.2.1, q23.2.2.2.2.2.2.2.2.2.2.2.1, q23.2.2.2.2.2.2.2.2.2.2.2.2.1, q23.2.2.2.2.2.2.2.2.2.2.2.2.2.1, q23.2.2.2.2.2.2.2.2.2.2.2.2.2.2) mt mc T)), 0, 0) := by
          intro m24_0 em24_0
          subst em24_0
          obtain rfl := Option.some.inj hf
          refine stp hm 1 (And.intro (by (repeat' split) <;> first | exact Or.inl rfl | exact Or.inr rfl) ?_)
          exact h
        refine stp hm 1 (bs (c := q23.1 < (0:Int32)) (fun c25 => ?_) (fun c25 => ?_))
        · have c25 : q23.1 < (0:Int32) := c25
          refine stp hm 1 (?_ : sxWP sc cl Q 198 (248, [some (.ref 59), some (.int v1), some (.int (mt.2.2 (v1 + (1:Int32)).toNatClampNeg)), some (.int (mt.2.2 (v1 + (2:Int32)).toNatClampNeg))], [.int (0:Int32)], (cW nw kp im ol sn sr tp (mW (mk.1, mk.2.1, q23.2.2.2.1, mk.2.2.2.1, mk.2.2.2.2.1, mk.2.2.2.2.2.1, mk.2.2.2.2.2.2.1, mk.2.2.2.2.2.2.2.1, mk.2.2.2.2.2.2.2.2.1, mk.2.2.2.2.2.2.2.2.2) (q23.2.2.2.2.1, q23.2.2.2.2.2.1, q23.2.1, q23.2.2.1, q23.2.2.2.2.2.2.1, q23.2.2.2.2.2.2.2.1, q23.2.2.2.2.2.2.2.2.1, q23.2.2.2.2.2.2.2.2.2.1, q23.2.2.2.2.2.2.2.2.2.2.1, q23.2.2.2.2.2.2.2.2.2.2.2.1, q23.2.2.2.2.2.2.2.2.2.2.2.2.1, q23.2.2.2.2.2.2.2.2.2.2.2.2.2.1, q23.2.2.2.2.2.2.2.2.2.2.2.2.2.2) mt mc T)), 0, 0))
          exact m24 _ (by rw [if_pos c25])
        · have c25 : ¬ q23.1 < (0:Int32) := c25
          refine stp hm 2 (?_ : sxWP sc cl Q 198 (248, [some (.ref 59), some (.int v1), some (.int (mt.2.2 (v1 + (1:Int32)).toNatClampNeg)), some (.int (mt.2.2 (v1 + (2:Int32)).toNatClampNeg))], [.int (1:Int32)], (cW nw kp im ol sn sr tp (mW (mk.1, mk.2.1, q23.2.2.2.1, mk.2.2.2.1, mk.2.2.2.2.1, mk.2.2.2.2.2.1, mk.2.2.2.2.2.2.1, mk.2.2.2.2.2.2.2.1, mk.2.2.2.2.2.2.2.2.1, mk.2.2.2.2.2.2.2.2.2) (q23.2.2.2.2.1, q23.2.2.2.2.2.1, q23.2.1, q23.2.2.1, q23.2.2.2.2.2.2.1, q23.2.2.2.2.2.2.2.1, q23.2.2.2.2.2.2.2.2.1, q23.2.2.2.2.2.2.2.2.2.1, q23.2.2.2.2.2.2.2.2.2.2.1, q23.2.2.2.2.2.2.2.2.2.2.2.1, q23.2.2.2.2.2.2.2.2.2.2.2.2.1, q23.2.2.2.2.2.2.2.2.2.2.2.2.2.1, q23.2.2.2.2.2.2.2.2.2.2.2.2.2.2) mt mc T)), 0, 0))
          exact m24 _ (by rw [if_neg c25])
  rcases ite_or hf with ⟨c16_5, hf⟩ | ⟨c16_5, hf⟩
  · rw [show swL (mt.2.2 v1.toNatClampNeg).toInt [(99, 60), (101, 89), (102, 89), (109, 176), (116, 186), (119, 225)] [84, 113, 113, 200, 210, 249] 255 = 249 by rw [c16_5]; rfl]
    obtain ⟨q26, hq26, hf⟩ := bnd hf
    refine stp hm 3 (M_walks_ok hE hq26 ?_)
    show sxWP sc cl Q 198 (254, [some (.ref 59), some (.int v1), some (.int (mt.2.2 (v1 + (1:Int32)).toNatClampNeg)), some (.int (mt.2.2 (v1 + (2:Int32)).toNatClampNeg))], [.int q26.1], (cW nw kp im ol sn sr tp (mW (mk.1, mk.2.1, q26.2, mk.2.2.2.1, mk.2.2.2.2.1, mk.2.2.2.2.2.1, mk.2.2.2.2.2.2.1, mk.2.2.2.2.2.2.2.1, mk.2.2.2.2.2.2.2.2.1, mk.2.2.2.2.2.2.2.2.2) mg mt mc T)), 0, 0)
    obtain ⟨g0, hf⟩ := grd_e hf
    obtain rfl := Option.some.inj hf
    refine stp hm 1 (And.intro (zb_e g0) ?_)
    exact h
  have tc16_0 : ¬ (mt.2.2 v1.toNatClampNeg).toInt = 99 := fun e => c16_0 (Int32.toInt_inj.mp e)
  have tc16_1 : ¬ (mt.2.2 v1.toNatClampNeg).toInt = 101 := fun e => c16_1 (Int32.toInt_inj.mp e)
  have tc16_2 : ¬ (mt.2.2 v1.toNatClampNeg).toInt = 102 := fun e => c16_2 (Int32.toInt_inj.mp e)
  have tc16_3 : ¬ (mt.2.2 v1.toNatClampNeg).toInt = 109 := fun e => c16_3 (Int32.toInt_inj.mp e)
  have tc16_4 : ¬ (mt.2.2 v1.toNatClampNeg).toInt = 116 := fun e => c16_4 (Int32.toInt_inj.mp e)
  have tc16_5 : ¬ (mt.2.2 v1.toNatClampNeg).toInt = 119 := fun e => c16_5 (Int32.toInt_inj.mp e)
  rw [show swL (mt.2.2 v1.toNatClampNeg).toInt [(99, 60), (101, 89), (102, 89), (109, 176), (116, 186), (119, 225)] [84, 113, 113, 200, 210, 249] 255 = 255 by simp [swL, tc16_0, tc16_1, tc16_2, tc16_3, tc16_4, tc16_5]]
  obtain ⟨g27, hf⟩ := grd_e hf
  refine stp hm 5 (And.intro (gi_in g27) (?_ : sxWP sc cl Q 198 (262, [some (.ref 59), some (.int v1), some (.int (mt.2.2 (v1 + (1:Int32)).toNatClampNeg)), some (.int (mt.2.2 (v1 + (2:Int32)).toNatClampNeg))], [.int (mt.2.2 v1.toNatClampNeg), .ref 59], (cW nw kp im ol sn sr tp (mW mk mg mt mc T)), 0, 0)))
  have m28 : ∀ (m28_0 : Int32), m28_0 = (if (mt.2.2 v1.toNatClampNeg) = (108:Int32) then (0:Int32) else (1:Int32)) → sxWP sc cl Q 198 (272, [some (.ref 59), some (.int v1), some (.int (mt.2.2 (v1 + (1:Int32)).toNatClampNeg)), some (.int (mt.2.2 (v1 + (2:Int32)).toNatClampNeg))], [.int m28_0, .ref 59], (cW nw kp im ol sn sr tp (mW mk mg mt mc T)), 0, 0) := by
    intro m28_0 em28_0
    subst em28_0
    obtain ⟨q29, hq29, hf⟩ := bnd hf
    refine stp hm 1 (M_lay_ok hE hq29 ?_)
    show sxWP sc cl Q 198 (275, [some (.ref 59), some (.int v1), some (.int (mt.2.2 (v1 + (1:Int32)).toNatClampNeg)), some (.int (mt.2.2 (v1 + (2:Int32)).toNatClampNeg))], [.int q29.1], (cW nw kp im ol sn sr tp (mW (mk.1, mk.2.1, q29.2.2.2.1, mk.2.2.2.1, mk.2.2.2.2.1, mk.2.2.2.2.2.1, mk.2.2.2.2.2.2.1, mk.2.2.2.2.2.2.2.1, mk.2.2.2.2.2.2.2.2.1, mk.2.2.2.2.2.2.2.2.2) (q29.2.2.2.2.1, q29.2.2.2.2.2.1, q29.2.1, q29.2.2.1, q29.2.2.2.2.2.2.1, q29.2.2.2.2.2.2.2.1, q29.2.2.2.2.2.2.2.2.1, q29.2.2.2.2.2.2.2.2.2.1, q29.2.2.2.2.2.2.2.2.2.2.1, q29.2.2.2.2.2.2.2.2.2.2.2.1, q29.2.2.2.2.2.2.2.2.2.2.2.2.1, q29.2.2.2.2.2.2.2.2.2.2.2.2.2.1, q29.2.2.2.2.2.2.2.2.2.2.2.2.2.2) mt mc T)), 0, 0)
    have m30 : ∀ (m30_0 : Int32), m30_0 = (if q29.1 < (0:Int32) then (0:Int32) else (1:Int32)) → sxWP sc cl Q 198 (283, [some (.ref 59), some (.int v1), some (.int (mt.2.2 (v1 + (1:Int32)).toNatClampNeg)), some (.int (mt.2.2 (v1 + (2:Int32)).toNatClampNeg))], [.int m30_0], (cW nw kp im ol sn sr tp (mW (mk.1, mk.2.1, q29.2.2.2.1, mk.2.2.2.1, mk.2.2.2.2.1, mk.2.2.2.2.2.1, mk.2.2.2.2.2.2.1, mk.2.2.2.2.2.2.2.1, mk.2.2.2.2.2.2.2.2.1, mk.2.2.2.2.2.2.2.2.2) (q29.2.2.2.2.1, q29.2.2.2.2.2.1, q29.2.1, q29.2.2.1, q29.2.2.2.2.2.2.1, q29.2.2.2.2.2.2.2.1, q29.2.2.2.2.2.2.2.2.1, q29.2.2.2.2.2.2.2.2.2.1, q29.2.2.2.2.2.2.2.2.2.2.1, q29.2.2.2.2.2.2.2.2.2.2.2.1, q29.2.2.2.2.2.2.2.2.2.2.2.2.1, q29.2.2.2.2.2.2.2.2.2.2.2.2.2.1, q29.2.2.2.2.2.2.2.2.2.2.2.2.2.2) mt mc T)), 0, 0) := by
      intro m30_0 em30_0
      subst em30_0
      obtain rfl := Option.some.inj hf
      refine stp hm 1 (And.intro (by (repeat' split) <;> first | exact Or.inl rfl | exact Or.inr rfl) ?_)
      exact h
    refine stp hm 1 (bs (c := q29.1 < (0:Int32)) (fun c31 => ?_) (fun c31 => ?_))
    · have c31 : q29.1 < (0:Int32) := c31
      refine stp hm 1 (?_ : sxWP sc cl Q 198 (283, [some (.ref 59), some (.int v1), some (.int (mt.2.2 (v1 + (1:Int32)).toNatClampNeg)), some (.int (mt.2.2 (v1 + (2:Int32)).toNatClampNeg))], [.int (0:Int32)], (cW nw kp im ol sn sr tp (mW (mk.1, mk.2.1, q29.2.2.2.1, mk.2.2.2.1, mk.2.2.2.2.1, mk.2.2.2.2.2.1, mk.2.2.2.2.2.2.1, mk.2.2.2.2.2.2.2.1, mk.2.2.2.2.2.2.2.2.1, mk.2.2.2.2.2.2.2.2.2) (q29.2.2.2.2.1, q29.2.2.2.2.2.1, q29.2.1, q29.2.2.1, q29.2.2.2.2.2.2.1, q29.2.2.2.2.2.2.2.1, q29.2.2.2.2.2.2.2.2.1, q29.2.2.2.2.2.2.2.2.2.1, q29.2.2.2.2.2.2.2.2.2.2.1, q29.2.2.2.2.2.2.2.2.2.2.2.1, q29.2.2.2.2.2.2.2.2.2.2.2.2.1, q29.2.2.2.2.2.2.2.2.2.2.2.2.2.1, q29.2.2.2.2.2.2.2.2.2.2.2.2.2.2) mt mc T)), 0, 0))
      exact m30 _ (by rw [if_pos c31])
    · have c31 : ¬ q29.1 < (0:Int32) := c31
      refine stp hm 2 (?_ : sxWP sc cl Q 198 (283, [some (.ref 59), some (.int v1), some (.int (mt.2.2 (v1 + (1:Int32)).toNatClampNeg)), some (.int (mt.2.2 (v1 + (2:Int32)).toNatClampNeg))], [.int (1:Int32)], (cW nw kp im ol sn sr tp (mW (mk.1, mk.2.1, q29.2.2.2.1, mk.2.2.2.1, mk.2.2.2.2.1, mk.2.2.2.2.2.1, mk.2.2.2.2.2.2.1, mk.2.2.2.2.2.2.2.1, mk.2.2.2.2.2.2.2.2.1, mk.2.2.2.2.2.2.2.2.2) (q29.2.2.2.2.1, q29.2.2.2.2.2.1, q29.2.1, q29.2.2.1, q29.2.2.2.2.2.2.1, q29.2.2.2.2.2.2.2.1, q29.2.2.2.2.2.2.2.2.1, q29.2.2.2.2.2.2.2.2.2.1, q29.2.2.2.2.2.2.2.2.2.2.1, q29.2.2.2.2.2.2.2.2.2.2.2.1, q29.2.2.2.2.2.2.2.2.2.2.2.2.1, q29.2.2.2.2.2.2.2.2.2.2.2.2.2.1, q29.2.2.2.2.2.2.2.2.2.2.2.2.2.2) mt mc T)), 0, 0))
      exact m30 _ (by rw [if_neg c31])
  refine stp hm 2 (bsn (c := (mt.2.2 v1.toNatClampNeg) = (108:Int32)) (fun c32 => ?_) (fun c32 => ?_))
  · have c32 : ¬ (mt.2.2 v1.toNatClampNeg) = (108:Int32) := c32
    refine stp hm 1 (?_ : sxWP sc cl Q 198 (272, [some (.ref 59), some (.int v1), some (.int (mt.2.2 (v1 + (1:Int32)).toNatClampNeg)), some (.int (mt.2.2 (v1 + (2:Int32)).toNatClampNeg))], [.int (1:Int32), .ref 59], (cW nw kp im ol sn sr tp (mW mk mg mt mc T)), 0, 0))
    exact m28 _ (by rw [if_neg c32])
  · have c32 : (mt.2.2 v1.toNatClampNeg) = (108:Int32) := c32
    refine stp hm 2 (?_ : sxWP sc cl Q 198 (272, [some (.ref 59), some (.int v1), some (.int (mt.2.2 (v1 + (1:Int32)).toNatClampNeg)), some (.int (mt.2.2 (v1 + (2:Int32)).toNatClampNeg))], [.int (0:Int32), .ref 59], (cW nw kp im ol sn sr tp (mW mk mg mt mc T)), 0, 0))
    exact m28 _ (by rw [if_pos c32])

def M_read_s40  (v1 : Int32) (tto : (Nat → Int32)) (s : (Int32 × Int32 × Int64 × Int32 × Int32 × (Nat → Int32) × (Nat → Int32) × (Nat → Int32) × (Nat → Int32) × (Nat → Int32) × (Nat → Int32) × (Nat → Int32) × (Nat → Int32) × (Nat → Int32) × (Nat → Int32) × (Nat → Int32) × (Nat → Int32))) : Option ((Int32 × Int32 × Int64 × Int32 × Int32 × (Nat → Int32) × (Nat → Int32) × (Nat → Int32) × (Nat → Int32) × (Nat → Int32) × (Nat → Int32) × (Nat → Int32) × (Nat → Int32) × (Nat → Int32) × (Nat → Int32) × (Nat → Int32) × (Nat → Int32)) ⊕ (Int32 × Int64 × Int32 × Int32 × (Nat → Int32) × (Nat → Int32) × (Nat → Int32) × (Nat → Int32) × (Nat → Int32) × (Nat → Int32) × (Nat → Int32) × (Nat → Int32) × (Nat → Int32) × (Nat → Int32) × (Nat → Int32) × (Nat → Int32))) := if v1 ≤ s.2.1 then (some (Sum.inr (s.1, s.2.2.1, s.2.2.2.1, s.2.2.2.2.1, s.2.2.2.2.2.1, s.2.2.2.2.2.2.1, s.2.2.2.2.2.2.2.1, s.2.2.2.2.2.2.2.2.1, s.2.2.2.2.2.2.2.2.2.1, s.2.2.2.2.2.2.2.2.2.2.1, s.2.2.2.2.2.2.2.2.2.2.2.1, s.2.2.2.2.2.2.2.2.2.2.2.2.1, s.2.2.2.2.2.2.2.2.2.2.2.2.2.1, s.2.2.2.2.2.2.2.2.2.2.2.2.2.2.1, s.2.2.2.2.2.2.2.2.2.2.2.2.2.2.2.1, s.2.2.2.2.2.2.2.2.2.2.2.2.2.2.2.2))) else (Option.bind (M_does ((26:Int32) * s.2.1) s.2.2.1 s.2.2.2.1 s.2.2.2.2.1 s.2.2.2.2.2.1 s.2.2.2.2.2.2.1 s.2.2.2.2.2.2.2.1 s.2.2.2.2.2.2.2.2.1 s.2.2.2.2.2.2.2.2.2.1 s.2.2.2.2.2.2.2.2.2.2.1 s.2.2.2.2.2.2.2.2.2.2.2.1 s.2.2.2.2.2.2.2.2.2.2.2.2.1 s.2.2.2.2.2.2.2.2.2.2.2.2.2.1 s.2.2.2.2.2.2.2.2.2.2.2.2.2.2.1 s.2.2.2.2.2.2.2.2.2.2.2.2.2.2.2.1 s.2.2.2.2.2.2.2.2.2.2.2.2.2.2.2.2 tto) (fun q2 => some (Sum.inl (s.1 + (if q2.1 = (0:Int32) then (0:Int32) else (1:Int32)), s.2.1 + (1:Int32), q2.2.1, q2.2.2.1, q2.2.2.2.1, q2.2.2.2.2.1, q2.2.2.2.2.2.1, q2.2.2.2.2.2.2.1, q2.2.2.2.2.2.2.2.1, q2.2.2.2.2.2.2.2.2.1, q2.2.2.2.2.2.2.2.2.2.1, q2.2.2.2.2.2.2.2.2.2.2.1, q2.2.2.2.2.2.2.2.2.2.2.2.1, q2.2.2.2.2.2.2.2.2.2.2.2.2.1, q2.2.2.2.2.2.2.2.2.2.2.2.2.2.1, q2.2.2.2.2.2.2.2.2.2.2.2.2.2.2.1, q2.2.2.2.2.2.2.2.2.2.2.2.2.2.2.2))))
def M_read  (mrg : Int64) (msz : Int32) (gle : Int32) (gsu : Int32) (ms : (Nat → Int32)) (mtx : (Nat → Int32)) (gma : (Nat → Int32)) (gpi : (Nat → Int32)) (gst : (Nat → Int32)) (ghe : (Nat → Int32)) (gow : (Nat → Int32)) (gfa : (Nat → Int32)) (gqu : (Nat → Int32)) (glo : (Nat → Int32)) (ghi : (Nat → Int32)) (gby : (Nat → Int32)) (gib : (Nat → Int32)) (tto : (Nat → Int32)) : Option (Int32 × Int64 × Int32 × Int32 × Int32 × Int32 × Int32 × (Nat → Int32) × (Nat → Int32) × (Nat → Int32) × (Nat → Int32) × (Nat → Int32) × (Nat → Int32) × (Nat → Int32) × (Nat → Int32) × (Nat → Int32) × (Nat → Int32) × (Nat → Int32) × (Nat → Int32) × (Nat → Int32)) := Option.bind (M_clauses msz (0:Int32) (-1:Int32) mtx tto) (fun q1 => if q1.2.2.1 = (-1:Int32) then (Option.bind (wh (M_read_s40 q1.1 q1.2.2.2) FU ((0:Int32), (0:Int32), mrg, gle, gsu, ms, gma, gpi, gst, ghe, gow, gfa, gqu, glo, ghi, gby, gib)) (fun w3 => some (w3.1, w3.2.1, (0:Int32), w3.2.2.1, w3.2.2.2.1, q1.2.1, q1.2.2.1, w3.2.2.2.2.1, w3.2.2.2.2.2.1, w3.2.2.2.2.2.2.1, w3.2.2.2.2.2.2.2.1, w3.2.2.2.2.2.2.2.2.1, w3.2.2.2.2.2.2.2.2.2.1, w3.2.2.2.2.2.2.2.2.2.2.1, w3.2.2.2.2.2.2.2.2.2.2.2.1, w3.2.2.2.2.2.2.2.2.2.2.2.2.1, w3.2.2.2.2.2.2.2.2.2.2.2.2.2.1, w3.2.2.2.2.2.2.2.2.2.2.2.2.2.2.1, w3.2.2.2.2.2.2.2.2.2.2.2.2.2.2.2, q1.2.2.2))) else (some ((-10:Int32) - q1.2.2.1, mrg, (0:Int32), gle, gsu, q1.2.1, q1.2.2.1, ms, gma, gpi, gst, ghe, gow, gfa, gqu, glo, ghi, gby, gib, q1.2.2.2)))
set_option maxRecDepth 10000 in
theorem M_read_l40 {v1 : Int32}   (hE : cl = sxE sc (d + 9)) (hm : CallMono cl) : ∀ (n : Nat) (s : (Int32 × Int32 × Int64 × Int32 × Int32 × (Nat → Int32) × (Nat → Int32) × (Nat → Int32) × (Nat → Int32) × (Nat → Int32) × (Nat → Int32) × (Nat → Int32) × (Nat → Int32) × (Nat → Int32) × (Nat → Int32) × (Nat → Int32) × (Nat → Int32))) (r : (Int32 × Int64 × Int32 × Int32 × (Nat → Int32) × (Nat → Int32) × (Nat → Int32) × (Nat → Int32) × (Nat → Int32) × (Nat → Int32) × (Nat → Int32) × (Nat → Int32) × (Nat → Int32) × (Nat → Int32) × (Nat → Int32) × (Nat → Int32))), wh (M_read_s40 v1 mt.2.2) n s = some r → (∀ (z0 z1 z3 : Option Value), sxWP sc cl Q 199 (70, [z0, z1, some (.int r.1), z3], [], (cW nw kp im ol sn sr tp (mW (r.2.1, mk.2.1, r.2.2.2.2.1, mk.2.2.2.1, mk.2.2.2.2.1, mk.2.2.2.2.2.1, mk.2.2.2.2.2.2.1, mk.2.2.2.2.2.2.2.1, mk.2.2.2.2.2.2.2.2.1, mk.2.2.2.2.2.2.2.2.2) (r.2.2.2.2.2.1, r.2.2.2.2.2.2.1, r.2.2.1, r.2.2.2.1, r.2.2.2.2.2.2.2.1, r.2.2.2.2.2.2.2.2.1, r.2.2.2.2.2.2.2.2.2.1, r.2.2.2.2.2.2.2.2.2.2.1, r.2.2.2.2.2.2.2.2.2.2.2.1, r.2.2.2.2.2.2.2.2.2.2.2.2.1, r.2.2.2.2.2.2.2.2.2.2.2.2.2.1, r.2.2.2.2.2.2.2.2.2.2.2.2.2.2.1, r.2.2.2.2.2.2.2.2.2.2.2.2.2.2.2) mt mc T)), 0, 0)) → sxWP sc cl Q 199 (40, [some (.ref 59), some (.int v1), some (.int s.1), some (.int s.2.1)], [], (cW nw kp im ol sn sr tp (mW (s.2.2.1, mk.2.1, s.2.2.2.2.2.1, mk.2.2.2.1, mk.2.2.2.2.1, mk.2.2.2.2.2.1, mk.2.2.2.2.2.2.1, mk.2.2.2.2.2.2.2.1, mk.2.2.2.2.2.2.2.2.1, mk.2.2.2.2.2.2.2.2.2) (s.2.2.2.2.2.2.1, s.2.2.2.2.2.2.2.1, s.2.2.2.1, s.2.2.2.2.1, s.2.2.2.2.2.2.2.2.1, s.2.2.2.2.2.2.2.2.2.1, s.2.2.2.2.2.2.2.2.2.2.1, s.2.2.2.2.2.2.2.2.2.2.2.1, s.2.2.2.2.2.2.2.2.2.2.2.2.1, s.2.2.2.2.2.2.2.2.2.2.2.2.2.1, s.2.2.2.2.2.2.2.2.2.2.2.2.2.2.1, s.2.2.2.2.2.2.2.2.2.2.2.2.2.2.2.1, s.2.2.2.2.2.2.2.2.2.2.2.2.2.2.2.2) mt mc T)), 0, 0) := by
  refine wh_run (A := fun (s : (Int32 × Int32 × Int64 × Int32 × Int32 × (Nat → Int32) × (Nat → Int32) × (Nat → Int32) × (Nat → Int32) × (Nat → Int32) × (Nat → Int32) × (Nat → Int32) × (Nat → Int32) × (Nat → Int32) × (Nat → Int32) × (Nat → Int32) × (Nat → Int32))) => sxWP sc cl Q 199 (40, [some (.ref 59), some (.int v1), some (.int s.1), some (.int s.2.1)], [], (cW nw kp im ol sn sr tp (mW (s.2.2.1, mk.2.1, s.2.2.2.2.2.1, mk.2.2.2.1, mk.2.2.2.2.1, mk.2.2.2.2.2.1, mk.2.2.2.2.2.2.1, mk.2.2.2.2.2.2.2.1, mk.2.2.2.2.2.2.2.2.1, mk.2.2.2.2.2.2.2.2.2) (s.2.2.2.2.2.2.1, s.2.2.2.2.2.2.2.1, s.2.2.2.1, s.2.2.2.2.1, s.2.2.2.2.2.2.2.2.1, s.2.2.2.2.2.2.2.2.2.1, s.2.2.2.2.2.2.2.2.2.2.1, s.2.2.2.2.2.2.2.2.2.2.2.1, s.2.2.2.2.2.2.2.2.2.2.2.2.1, s.2.2.2.2.2.2.2.2.2.2.2.2.2.1, s.2.2.2.2.2.2.2.2.2.2.2.2.2.2.1, s.2.2.2.2.2.2.2.2.2.2.2.2.2.2.2.1, s.2.2.2.2.2.2.2.2.2.2.2.2.2.2.2.2) mt mc T)), 0, 0)) (B := fun (r : (Int32 × Int64 × Int32 × Int32 × (Nat → Int32) × (Nat → Int32) × (Nat → Int32) × (Nat → Int32) × (Nat → Int32) × (Nat → Int32) × (Nat → Int32) × (Nat → Int32) × (Nat → Int32) × (Nat → Int32) × (Nat → Int32) × (Nat → Int32))) => ∀ (z0 z1 z3 : Option Value), sxWP sc cl Q 199 (70, [z0, z1, some (.int r.1), z3], [], (cW nw kp im ol sn sr tp (mW (r.2.1, mk.2.1, r.2.2.2.2.1, mk.2.2.2.1, mk.2.2.2.2.1, mk.2.2.2.2.2.1, mk.2.2.2.2.2.2.1, mk.2.2.2.2.2.2.2.1, mk.2.2.2.2.2.2.2.2.1, mk.2.2.2.2.2.2.2.2.2) (r.2.2.2.2.2.1, r.2.2.2.2.2.2.1, r.2.2.1, r.2.2.2.1, r.2.2.2.2.2.2.2.1, r.2.2.2.2.2.2.2.2.1, r.2.2.2.2.2.2.2.2.2.1, r.2.2.2.2.2.2.2.2.2.2.1, r.2.2.2.2.2.2.2.2.2.2.2.1, r.2.2.2.2.2.2.2.2.2.2.2.2.1, r.2.2.2.2.2.2.2.2.2.2.2.2.2.1, r.2.2.2.2.2.2.2.2.2.2.2.2.2.2.1, r.2.2.2.2.2.2.2.2.2.2.2.2.2.2.2) mt mc T)), 0, 0)) (fun s x hf hA hB => ?_)
  unfold M_read_s40 at hf
  refine stp hm 3 (br hf (fun c1 hf => ?_) (fun c1 hf => ?_))
  · show sxWP sc cl Q 199 (70, [some (.ref 59), some (.int v1), some (.int s.1), some (.int s.2.1)], [], (cW nw kp im ol sn sr tp (mW (s.2.2.1, mk.2.1, s.2.2.2.2.2.1, mk.2.2.2.1, mk.2.2.2.2.1, mk.2.2.2.2.2.1, mk.2.2.2.2.2.2.1, mk.2.2.2.2.2.2.2.1, mk.2.2.2.2.2.2.2.2.1, mk.2.2.2.2.2.2.2.2.2) (s.2.2.2.2.2.2.1, s.2.2.2.2.2.2.2.1, s.2.2.2.1, s.2.2.2.2.1, s.2.2.2.2.2.2.2.2.1, s.2.2.2.2.2.2.2.2.2.1, s.2.2.2.2.2.2.2.2.2.2.1, s.2.2.2.2.2.2.2.2.2.2.2.1, s.2.2.2.2.2.2.2.2.2.2.2.2.1, s.2.2.2.2.2.2.2.2.2.2.2.2.2.1, s.2.2.2.2.2.2.2.2.2.2.2.2.2.2.1, s.2.2.2.2.2.2.2.2.2.2.2.2.2.2.2.1, s.2.2.2.2.2.2.2.2.2.2.2.2.2.2.2.2) mt mc T)), 0, 0)
    obtain rfl := Option.some.inj hf
    exact hB _ rfl _ _ _
  · show sxWP sc cl Q 199 (45, [some (.ref 59), some (.int v1), some (.int s.1), some (.int s.2.1)], [], (cW nw kp im ol sn sr tp (mW (s.2.2.1, mk.2.1, s.2.2.2.2.2.1, mk.2.2.2.1, mk.2.2.2.2.1, mk.2.2.2.2.2.1, mk.2.2.2.2.2.2.1, mk.2.2.2.2.2.2.2.1, mk.2.2.2.2.2.2.2.2.1, mk.2.2.2.2.2.2.2.2.2) (s.2.2.2.2.2.2.1, s.2.2.2.2.2.2.2.1, s.2.2.2.1, s.2.2.2.2.1, s.2.2.2.2.2.2.2.2.1, s.2.2.2.2.2.2.2.2.2.1, s.2.2.2.2.2.2.2.2.2.2.1, s.2.2.2.2.2.2.2.2.2.2.2.1, s.2.2.2.2.2.2.2.2.2.2.2.2.1, s.2.2.2.2.2.2.2.2.2.2.2.2.2.1, s.2.2.2.2.2.2.2.2.2.2.2.2.2.2.1, s.2.2.2.2.2.2.2.2.2.2.2.2.2.2.2.1, s.2.2.2.2.2.2.2.2.2.2.2.2.2.2.2.2) mt mc T)), 0, 0)
    obtain ⟨q2, hq2, hf⟩ := bnd hf
    refine stp hm 6 (M_does_ok hE hq2 ?_)
    show sxWP sc cl Q 199 (54, [some (.ref 59), some (.int v1), some (.int s.1), some (.int s.2.1)], [.int q2.1, .int s.1], (cW nw kp im ol sn sr tp (mW (q2.2.1, mk.2.1, q2.2.2.2.2.1, mk.2.2.2.1, mk.2.2.2.2.1, mk.2.2.2.2.2.1, mk.2.2.2.2.2.2.1, mk.2.2.2.2.2.2.2.1, mk.2.2.2.2.2.2.2.2.1, mk.2.2.2.2.2.2.2.2.2) (q2.2.2.2.2.2.1, q2.2.2.2.2.2.2.1, q2.2.2.1, q2.2.2.2.1, q2.2.2.2.2.2.2.2.1, q2.2.2.2.2.2.2.2.2.1, q2.2.2.2.2.2.2.2.2.2.1, q2.2.2.2.2.2.2.2.2.2.2.1, q2.2.2.2.2.2.2.2.2.2.2.2.1, q2.2.2.2.2.2.2.2.2.2.2.2.2.1, q2.2.2.2.2.2.2.2.2.2.2.2.2.2.1, q2.2.2.2.2.2.2.2.2.2.2.2.2.2.2.1, q2.2.2.2.2.2.2.2.2.2.2.2.2.2.2.2) mt mc T)), 0, 0)
    have m3 : ∀ (m3_0 : Int32), m3_0 = (if q2.1 = (0:Int32) then (0:Int32) else (1:Int32)) → sxWP sc cl Q 199 (62, [some (.ref 59), some (.int v1), some (.int s.1), some (.int s.2.1)], [.int m3_0, .int s.1], (cW nw kp im ol sn sr tp (mW (q2.2.1, mk.2.1, q2.2.2.2.2.1, mk.2.2.2.1, mk.2.2.2.2.1, mk.2.2.2.2.2.1, mk.2.2.2.2.2.2.1, mk.2.2.2.2.2.2.2.1, mk.2.2.2.2.2.2.2.2.1, mk.2.2.2.2.2.2.2.2.2) (q2.2.2.2.2.2.1, q2.2.2.2.2.2.2.1, q2.2.2.1, q2.2.2.2.1, q2.2.2.2.2.2.2.2.1, q2.2.2.2.2.2.2.2.2.1, q2.2.2.2.2.2.2.2.2.2.1, q2.2.2.2.2.2.2.2.2.2.2.1, q2.2.2.2.2.2.2.2.2.2.2.2.1, q2.2.2.2.2.2.2.2.2.2.2.2.2.1, q2.2.2.2.2.2.2.2.2.2.2.2.2.2.1, q2.2.2.2.2.2.2.2.2.2.2.2.2.2.2.1, q2.2.2.2.2.2.2.2.2.2.2.2.2.2.2.2) mt mc T)), 0, 0) := by
      intro m3_0 em3_0
      subst em3_0
      obtain rfl := Option.some.inj hf
      refine stp hm 4 (?_ : sxWP sc cl Q 199 (40, [some (.ref 59), some (.int v1), some (.int (s.1 + (if q2.1 = (0:Int32) then (0:Int32) else (1:Int32)))), some (.int (s.2.1 + (1:Int32)))], [], (cW nw kp im ol sn sr tp (mW (q2.2.1, mk.2.1, q2.2.2.2.2.1, mk.2.2.2.1, mk.2.2.2.2.1, mk.2.2.2.2.2.1, mk.2.2.2.2.2.2.1, mk.2.2.2.2.2.2.2.1, mk.2.2.2.2.2.2.2.2.1, mk.2.2.2.2.2.2.2.2.2) (q2.2.2.2.2.2.1, q2.2.2.2.2.2.2.1, q2.2.2.1, q2.2.2.2.1, q2.2.2.2.2.2.2.2.1, q2.2.2.2.2.2.2.2.2.1, q2.2.2.2.2.2.2.2.2.2.1, q2.2.2.2.2.2.2.2.2.2.2.1, q2.2.2.2.2.2.2.2.2.2.2.2.1, q2.2.2.2.2.2.2.2.2.2.2.2.2.1, q2.2.2.2.2.2.2.2.2.2.2.2.2.2.1, q2.2.2.2.2.2.2.2.2.2.2.2.2.2.2.1, q2.2.2.2.2.2.2.2.2.2.2.2.2.2.2.2) mt mc T)), 0, 0))
      exact hA _ rfl
    refine stp hm 1 (bs (c := q2.1 = (0:Int32)) (fun c4 => ?_) (fun c4 => ?_))
    · have c4 : q2.1 = (0:Int32) := c4
      refine stp hm 1 (?_ : sxWP sc cl Q 199 (62, [some (.ref 59), some (.int v1), some (.int s.1), some (.int s.2.1)], [.int (0:Int32), .int s.1], (cW nw kp im ol sn sr tp (mW (q2.2.1, mk.2.1, q2.2.2.2.2.1, mk.2.2.2.1, mk.2.2.2.2.1, mk.2.2.2.2.2.1, mk.2.2.2.2.2.2.1, mk.2.2.2.2.2.2.2.1, mk.2.2.2.2.2.2.2.2.1, mk.2.2.2.2.2.2.2.2.2) (q2.2.2.2.2.2.1, q2.2.2.2.2.2.2.1, q2.2.2.1, q2.2.2.2.1, q2.2.2.2.2.2.2.2.1, q2.2.2.2.2.2.2.2.2.1, q2.2.2.2.2.2.2.2.2.2.1, q2.2.2.2.2.2.2.2.2.2.2.1, q2.2.2.2.2.2.2.2.2.2.2.2.1, q2.2.2.2.2.2.2.2.2.2.2.2.2.1, q2.2.2.2.2.2.2.2.2.2.2.2.2.2.1, q2.2.2.2.2.2.2.2.2.2.2.2.2.2.2.1, q2.2.2.2.2.2.2.2.2.2.2.2.2.2.2.2) mt mc T)), 0, 0))
      exact m3 _ (by rw [if_pos c4])
    · have c4 : ¬ q2.1 = (0:Int32) := c4
      refine stp hm 2 (?_ : sxWP sc cl Q 199 (62, [some (.ref 59), some (.int v1), some (.int s.1), some (.int s.2.1)], [.int (1:Int32), .int s.1], (cW nw kp im ol sn sr tp (mW (q2.2.1, mk.2.1, q2.2.2.2.2.1, mk.2.2.2.1, mk.2.2.2.2.1, mk.2.2.2.2.2.1, mk.2.2.2.2.2.2.1, mk.2.2.2.2.2.2.2.1, mk.2.2.2.2.2.2.2.2.1, mk.2.2.2.2.2.2.2.2.2) (q2.2.2.2.2.2.1, q2.2.2.2.2.2.2.1, q2.2.2.1, q2.2.2.2.1, q2.2.2.2.2.2.2.2.1, q2.2.2.2.2.2.2.2.2.1, q2.2.2.2.2.2.2.2.2.2.1, q2.2.2.2.2.2.2.2.2.2.2.1, q2.2.2.2.2.2.2.2.2.2.2.2.1, q2.2.2.2.2.2.2.2.2.2.2.2.2.1, q2.2.2.2.2.2.2.2.2.2.2.2.2.2.1, q2.2.2.2.2.2.2.2.2.2.2.2.2.2.2.1, q2.2.2.2.2.2.2.2.2.2.2.2.2.2.2.2) mt mc T)), 0, 0))
      exact m3 _ (by rw [if_neg c4])
set_option maxRecDepth 10000 in
theorem M_read_ok  {q : (Int32 × Int64 × Int32 × Int32 × Int32 × Int32 × Int32 × (Nat → Int32) × (Nat → Int32) × (Nat → Int32) × (Nat → Int32) × (Nat → Int32) × (Nat → Int32) × (Nat → Int32) × (Nat → Int32) × (Nat → Int32) × (Nat → Int32) × (Nat → Int32) × (Nat → Int32) × (Nat → Int32))} (hc : call = sxE sc (d + 10)) (hf : M_read mk.1 mk.2.2.2.2.2.2.1 mg.2.2.1 mg.2.2.2.1 mk.2.2.1 mk.2.2.2.2.2.1 mg.1 mg.2.1 mg.2.2.2.2.1 mg.2.2.2.2.2.1 mg.2.2.2.2.2.2.1 mg.2.2.2.2.2.2.2.1 mg.2.2.2.2.2.2.2.2.1 mg.2.2.2.2.2.2.2.2.2.1 mg.2.2.2.2.2.2.2.2.2.2.1 mg.2.2.2.2.2.2.2.2.2.2.2.1 mg.2.2.2.2.2.2.2.2.2.2.2.2 mt.2.2 = some q) (h : Q (some (.int q.1)) (cW nw kp im ol sn sr tp (mW (q.2.1, mk.2.1, q.2.2.2.2.2.2.2.1, mk.2.2.2.1, mk.2.2.2.2.1, mk.2.2.2.2.2.1, q.2.2.1, mk.2.2.2.2.2.2.2.1, mk.2.2.2.2.2.2.2.2.1, mk.2.2.2.2.2.2.2.2.2) (q.2.2.2.2.2.2.2.2.1, q.2.2.2.2.2.2.2.2.2.1, q.2.2.2.1, q.2.2.2.2.1, q.2.2.2.2.2.2.2.2.2.2.1, q.2.2.2.2.2.2.2.2.2.2.2.1, q.2.2.2.2.2.2.2.2.2.2.2.2.1, q.2.2.2.2.2.2.2.2.2.2.2.2.2.1, q.2.2.2.2.2.2.2.2.2.2.2.2.2.2.1, q.2.2.2.2.2.2.2.2.2.2.2.2.2.2.2.1, q.2.2.2.2.2.2.2.2.2.2.2.2.2.2.2.2.1, q.2.2.2.2.2.2.2.2.2.2.2.2.2.2.2.2.2.1, q.2.2.2.2.2.2.2.2.2.2.2.2.2.2.2.2.2.2.1) (q.2.2.2.2.2.1, q.2.2.2.2.2.2.1, q.2.2.2.2.2.2.2.2.2.2.2.2.2.2.2.2.2.2.2) mc T))) : call 199 [.ref 59] (cW nw kp im ol sn sr tp (mW mk mg mt mc T)) Q := by
  refine ent hc rfl (fun cl hE hm => ?_)
  unfold M_read at hf
  obtain ⟨q1, hq1, hf⟩ := bnd hf
  refine stp hm 8 (M_clauses_ok hE hq1 ?_)
  show sxWP sc cl Q 199 (14, [some (.ref 59), none, none, none], [.int q1.1], (cW nw kp im ol sn sr tp (mW mk mg (q1.2.1, q1.2.2.1, q1.2.2.2) mc T)), 0, 0)
  refine stp hm 8 (br hf (fun c2 hf => ?_) (fun c2 hf => ?_))
  · show sxWP sc cl Q 199 (36, [some (.ref 59), some (.int q1.1), none, none], [], (cW nw kp im ol sn sr tp (mW (mk.1, mk.2.1, mk.2.2.1, mk.2.2.2.1, mk.2.2.2.2.1, mk.2.2.2.2.2.1, (0:Int32), mk.2.2.2.2.2.2.2.1, mk.2.2.2.2.2.2.2.2.1, mk.2.2.2.2.2.2.2.2.2) mg (q1.2.1, q1.2.2.1, q1.2.2.2) mc T)), 0, 0)
    obtain ⟨w3, hw3, hf⟩ := bnd hf
    refine stp hm 4 (?_ : sxWP sc cl Q 199 (40, [some (.ref 59), some (.int q1.1), some (.int (0:Int32)), some (.int (0:Int32))], [], (cW nw kp im ol sn sr tp (mW (mk.1, mk.2.1, mk.2.2.1, mk.2.2.2.1, mk.2.2.2.2.1, mk.2.2.2.2.2.1, (0:Int32), mk.2.2.2.2.2.2.2.1, mk.2.2.2.2.2.2.2.2.1, mk.2.2.2.2.2.2.2.2.2) mg (q1.2.1, q1.2.2.1, q1.2.2.2) mc T)), 0, 0))
    refine M_read_l40 hE hm _ _ _ hw3 ?_
    intro w3_z0 w3_z1 w3_z3
    show sxWP sc cl Q 199 (70, [w3_z0, w3_z1, some (.int w3.1), w3_z3], [], (cW nw kp im ol sn sr tp (mW (w3.2.1, mk.2.1, w3.2.2.2.2.1, mk.2.2.2.1, mk.2.2.2.2.1, mk.2.2.2.2.2.1, (0:Int32), mk.2.2.2.2.2.2.2.1, mk.2.2.2.2.2.2.2.2.1, mk.2.2.2.2.2.2.2.2.2) (w3.2.2.2.2.2.1, w3.2.2.2.2.2.2.1, w3.2.2.1, w3.2.2.2.1, w3.2.2.2.2.2.2.2.1, w3.2.2.2.2.2.2.2.2.1, w3.2.2.2.2.2.2.2.2.2.1, w3.2.2.2.2.2.2.2.2.2.2.1, w3.2.2.2.2.2.2.2.2.2.2.2.1, w3.2.2.2.2.2.2.2.2.2.2.2.2.1, w3.2.2.2.2.2.2.2.2.2.2.2.2.2.1, w3.2.2.2.2.2.2.2.2.2.2.2.2.2.2.1, w3.2.2.2.2.2.2.2.2.2.2.2.2.2.2.2) (q1.2.1, q1.2.2.1, q1.2.2.2) mc T)), 0, 0)
    obtain rfl := Option.some.inj hf
    refine stp hm 2 ?_
    exact h
  · show sxWP sc cl Q 199 (28, [some (.ref 59), some (.int q1.1), none, none], [], (cW nw kp im ol sn sr tp (mW (mk.1, mk.2.1, mk.2.2.1, mk.2.2.2.1, mk.2.2.2.2.1, mk.2.2.2.2.2.1, (0:Int32), mk.2.2.2.2.2.2.2.1, mk.2.2.2.2.2.2.2.2.1, mk.2.2.2.2.2.2.2.2.2) mg (q1.2.1, q1.2.2.1, q1.2.2.2) mc T)), 0, 0)
    obtain rfl := Option.some.inj hf
    refine stp hm 5 ?_
    exact h

def S_mate_j18  (k0 : Int32) : Option Int32 := some k0
def S_mate (v1 : Int32) (nmt : (Nat → Int32)) : Option Int32 := if (G_isCell v1) = (0:Int32) then (S_mate_j18 (-5:Int32)) else (grd (gi v1 36) (S_mate_j18 (nmt v1.toNatClampNeg)))
set_option maxRecDepth 10000 in
theorem S_mate_ok {v1 : Int32} {q : Int32} (hc : call = sxE sc (d + 2)) (hf : S_mate v1 nw.2.2.1 = some q) (h : Q (some (.int q)) (cW nw kp im ol sn sr tp (mW mk mg mt mc T))) : call 64 [.ref 1, .int v1] (cW nw kp im ol sn sr tp (mW mk mg mt mc T)) Q := by
  refine ent hc rfl (fun cl hE hm => ?_)
  have J18 : ∀ (k0 : Int32) (z0 : Option Value) (z1 : Option Value), S_mate_j18 k0 = some q → sxWP sc cl Q 64 (18, [z0, z1], [.int k0], (cW nw kp im ol sn sr tp (mW mk mg mt mc T)), 0, 0) := by
    intro k0 z0 z1 hf
    unfold S_mate_j18 at hf
    obtain rfl := Option.some.inj hf
    refine stp hm 1 ?_
    exact h
  unfold S_mate at hf
  refine stp hm 2 (G_isCell_ok hE rfl ?_)
  show sxWP sc cl Q 64 (4, [some (.ref 1), some (.int v1)], [.int (G_isCell v1)], (cW nw kp im ol sn sr tp (mW mk mg mt mc T)), 0, 0)
  refine stp hm 1 (br hf (fun c1 hf => ?_) (fun c1 hf => ?_))
  · show sxWP sc cl Q 64 (16, [some (.ref 1), some (.int v1)], [], (cW nw kp im ol sn sr tp (mW mk mg mt mc T)), 0, 0)
    refine stp hm 1 (?_ : sxWP sc cl Q 64 (18, [some (.ref 1), some (.int v1)], [.int (-5:Int32)], (cW nw kp im ol sn sr tp (mW mk mg mt mc T)), 0, 0))
    exact J18 _ _ _ hf
  · show sxWP sc cl Q 64 (7, [some (.ref 1), some (.int v1)], [], (cW nw kp im ol sn sr tp (mW mk mg mt mc T)), 0, 0)
    obtain ⟨g2, hf⟩ := grd_e hf
    refine stp hm 4 (And.intro (gi_in g2) (?_ : sxWP sc cl Q 64 (13, [some (.ref 1), some (.int v1)], [.int (nw.2.2.1 v1.toNatClampNeg)], (cW nw kp im ol sn sr tp (mW mk mg mt mc T)), 0, 0)))
    refine stp hm 1 (?_ : sxWP sc cl Q 64 (18, [some (.ref 1), some (.int v1)], [.int (nw.2.2.1 v1.toNatClampNeg)], (cW nw kp im ol sn sr tp (mW mk mg mt mc T)), 0, 0))
    exact J18 _ _ _ hf

def X_ofs_j85  (k0 : Int32) : Option Int32 := some k0
def X_ofs (v1 : Int32) (v2 : Int32) (nrg : Int64) (nld : Int32) (nmt : (Nat → Int32)) : Option Int32 := if (G_isCell v1) = (0:Int32) then (some (-1:Int32)) else (if v2 = (0:Int32) then (some (X_bit (G_holds nrg v1))) else (if v2 = (1:Int32) then (some (X_bit (G_holds (45460576917:Int64) v1))) else (if v2 = (2:Int32) then (if nld = (0:Int32) then (X_ofs_j85 (-5:Int32)) else (Option.bind (S_mate v1 nmt) (fun q4 => X_ofs_j85 q4))) else (some (-1:Int32)))))
set_option maxRecDepth 10000 in
theorem X_ofs_ok {v1 : Int32} {v2 : Int32} {q : Int32} (hc : call = sxE sc (d + 3)) (hf : X_ofs v1 v2 nw.1 nw.2.1 nw.2.2.1 = some q) (h : Q (some (.int q)) (cW nw kp im ol sn sr tp (mW mk mg mt mc T))) : call 103 [.ref 0, .int v1, .int v2] (cW nw kp im ol sn sr tp (mW mk mg mt mc T)) Q := by
  refine ent hc rfl (fun cl hE hm => ?_)
  have J85 : ∀ (k0 : Int32) (z0 : Option Value) (z1 : Option Value) (z2 : Option Value), X_ofs_j85 k0 = some q → sxWP sc cl Q 103 (85, [z0, z1, z2], [.int k0], (cW nw kp im ol sn sr tp (mW mk mg mt mc T)), 0, 0) := by
    intro k0 z0 z1 z2 hf
    unfold X_ofs_j85 at hf
    obtain rfl := Option.some.inj hf
    refine stp hm 1 ?_
    exact h
  unfold X_ofs at hf
  refine stp hm 2 (G_isCell_ok hE rfl ?_)
  show sxWP sc cl Q 103 (4, [some (.ref 0), some (.int v1), some (.int v2)], [.int (G_isCell v1)], (cW nw kp im ol sn sr tp (mW mk mg mt mc T)), 0, 0)
  refine stp hm 1 (brn hf (fun c1 hf => ?_) (fun c1 hf => ?_))
  · show sxWP sc cl Q 103 (9, [some (.ref 0), some (.int v1), some (.int v2)], [], (cW nw kp im ol sn sr tp (mW mk mg mt mc T)), 0, 0)
    refine stp hm 2 ?_
    show sxWP sc cl Q 103 ((swT (v2).toInt (0) [36, 51, 62] 86), [some (.ref 0), some (.int v1), some (.int v2)], [], (cW nw kp im ol sn sr tp (mW mk mg mt mc T)), 0, 0)
    rcases ite_or hf with ⟨c2_0, hf⟩ | ⟨c2_0, hf⟩
    · rw [show swT (v2).toInt (0) [36, 51, 62] 86 = 36 by rw [c2_0]; rfl]
      refine stp hm 5 (G_holds_ok hE rfl ?_)
      show sxWP sc cl Q 103 (47, [some (.ref 0), some (.int v1), some (.int v2)], [.int (G_holds nw.1 v1)], (cW nw kp im ol sn sr tp (mW mk mg mt mc T)), 0, 0)
      refine stp hm 1 (X_bit_ok hE rfl ?_)
      show sxWP sc cl Q 103 (50, [some (.ref 0), some (.int v1), some (.int v2)], [.int (X_bit (G_holds nw.1 v1))], (cW nw kp im ol sn sr tp (mW mk mg mt mc T)), 0, 0)
      obtain rfl := Option.some.inj hf
      refine stp hm 1 ?_
      exact h
    rcases ite_or hf with ⟨c2_1, hf⟩ | ⟨c2_1, hf⟩
    · rw [show swT (v2).toInt (0) [36, 51, 62] 86 = 51 by rw [c2_1]; rfl]
      refine stp hm 3 (G_holds_ok hE rfl ?_)
      show sxWP sc cl Q 103 (58, [some (.ref 0), some (.int v1), some (.int v2)], [.int (G_holds (45460576917:Int64) v1)], (cW nw kp im ol sn sr tp (mW mk mg mt mc T)), 0, 0)
      refine stp hm 1 (X_bit_ok hE rfl ?_)
      show sxWP sc cl Q 103 (61, [some (.ref 0), some (.int v1), some (.int v2)], [.int (X_bit (G_holds (45460576917:Int64) v1))], (cW nw kp im ol sn sr tp (mW mk mg mt mc T)), 0, 0)
      obtain rfl := Option.some.inj hf
      refine stp hm 1 ?_
      exact h
    rcases ite_or hf with ⟨c2_2, hf⟩ | ⟨c2_2, hf⟩
    · rw [show swT (v2).toInt (0) [36, 51, 62] 86 = 62 by rw [c2_2]; rfl]
      refine stp hm 4 (br hf (fun c3 hf => ?_) (fun c3 hf => ?_))
      · show sxWP sc cl Q 103 (83, [some (.ref 0), some (.int v1), some (.int v2)], [], (cW nw kp im ol sn sr tp (mW mk mg mt mc T)), 0, 0)
        refine stp hm 1 (?_ : sxWP sc cl Q 103 (85, [some (.ref 0), some (.int v1), some (.int v2)], [.int (-5:Int32)], (cW nw kp im ol sn sr tp (mW mk mg mt mc T)), 0, 0))
        exact J85 _ _ _ _ hf
      · show sxWP sc cl Q 103 (72, [some (.ref 0), some (.int v1), some (.int v2)], [], (cW nw kp im ol sn sr tp (mW mk mg mt mc T)), 0, 0)
        obtain ⟨q4, hq4, hf⟩ := bnd hf
        refine stp hm 4 (S_mate_ok hE hq4 ?_)
        show sxWP sc cl Q 103 (80, [some (.ref 0), some (.int v1), some (.int v2)], [.int q4], (cW nw kp im ol sn sr tp (mW mk mg mt mc T)), 0, 0)
        refine stp hm 1 (?_ : sxWP sc cl Q 103 (85, [some (.ref 0), some (.int v1), some (.int v2)], [.int q4], (cW nw kp im ol sn sr tp (mW mk mg mt mc T)), 0, 0))
        exact J85 _ _ _ _ hf
    have tc2_0 : ¬ (v2).toInt = 0 := fun e => c2_0 (Int32.toInt_inj.mp e)
    have tc2_1 : ¬ (v2).toInt = 1 := fun e => c2_1 (Int32.toInt_inj.mp e)
    have tc2_2 : ¬ (v2).toInt = 2 := fun e => c2_2 (Int32.toInt_inj.mp e)
    rw [show swT (v2).toInt (0) [36, 51, 62] 86 = 86 by simp [swT, tc2_0, tc2_1, tc2_2]]
    obtain rfl := Option.some.inj hf
    refine stp hm 2 ?_
    exact h
  · show sxWP sc cl Q 103 (7, [some (.ref 0), some (.int v1), some (.int v2)], [], (cW nw kp im ol sn sr tp (mW mk mg mt mc T)), 0, 0)
    obtain rfl := Option.some.inj hf
    refine stp hm 2 ?_
    exact h

def M_isBlack (v0 : Int32)  : Int32 := M_isBlackAt (v0 / (6:Int32)) (v0 - v0 / (6:Int32) * (6:Int32))
set_option maxRecDepth 10000 in
theorem M_isBlack_ok {v0 : Int32} {r : Int32} (hc : call = sxE sc (d + 2)) (hf : M_isBlack v0 = r) (h : Q (some (.int r)) hp) : call 145 [.int v0] hp Q := by
  refine ent hc rfl (fun cl hE hm => ?_)
  unfold M_isBlack at hf
  refine stp hm 3 (And.intro (by decide) (?_ : sxWP sc cl Q 145 (4, [some (.int v0)], [.int (v0 / (6:Int32))], hp, 0, 0)))
  refine stp hm 3 (And.intro (by decide) (?_ : sxWP sc cl Q 145 (8, [some (.int v0)], [.int (v0 - v0 / (6:Int32) * (6:Int32)), .int (v0 / (6:Int32))], hp, 0, 0)))
  refine stp hm 1 (M_isBlackAt_ok hE rfl ?_)
  show sxWP sc cl Q 145 (11, [some (.int v0)], [.int (M_isBlackAt (v0 / (6:Int32)) (v0 - v0 / (6:Int32) * (6:Int32)))], hp, 0, 0)
  subst hf
  refine stp hm 1 (And.intro (M_isBlackAt_z) ?_)
  exact h
theorem M_isBlack_z {v0 : Int32}  : M_isBlack v0 = 0 ∨ M_isBlack v0 = 1 := by
  unfold M_isBlack
  (repeat' split) <;> first | exact Or.inl rfl | exact Or.inr rfl | exact M_isBlackAt_z

def M_ofs (v1 : Int32) (v2 : Int32) (mrg : Int64) (ms : (Nat → Int32)) : Option Int32 := if (M_isCell v1) = (0:Int32) then (some (-1:Int32)) else (if v2 = (0:Int32) then (some (if (M_has v1 mrg) = (0:Int32) then (0:Int32) else (1:Int32))) else (if v2 = (1:Int32) then (some (if (M_isBlack v1) = (0:Int32) then (0:Int32) else (1:Int32))) else (if v2 = (2:Int32) then (grd (gi ((6:Int32) + v1) 122) (some (ms ((6:Int32) + v1).toNatClampNeg))) else (some (-1:Int32)))))
set_option maxRecDepth 10000 in
theorem M_ofs_ok {v1 : Int32} {v2 : Int32} {q : Int32} (hc : call = sxE sc (d + 3)) (hf : M_ofs v1 v2 mk.1 mk.2.2.1 = some q) (h : Q (some (.int q)) (cW nw kp im ol sn sr tp (mW mk mg mt mc T))) : call 200 [.ref 59, .int v1, .int v2] (cW nw kp im ol sn sr tp (mW mk mg mt mc T)) Q := by
  refine ent hc rfl (fun cl hE hm => ?_)
  unfold M_ofs at hf
  refine stp hm 2 (M_isCell_ok hE rfl ?_)
  show sxWP sc cl Q 200 (4, [some (.ref 59), some (.int v1), some (.int v2)], [.int (M_isCell v1)], (cW nw kp im ol sn sr tp (mW mk mg mt mc T)), 0, 0)
  refine stp hm 1 (brn hf (fun c1 hf => ?_) (fun c1 hf => ?_))
  · show sxWP sc cl Q 200 (9, [some (.ref 59), some (.int v1), some (.int v2)], [], (cW nw kp im ol sn sr tp (mW mk mg mt mc T)), 0, 0)
    refine stp hm 2 ?_
    show sxWP sc cl Q 200 ((swT (v2).toInt (0) [36, 50, 63] 73), [some (.ref 59), some (.int v1), some (.int v2)], [], (cW nw kp im ol sn sr tp (mW mk mg mt mc T)), 0, 0)
    rcases ite_or hf with ⟨c2_0, hf⟩ | ⟨c2_0, hf⟩
    · rw [show swT (v2).toInt (0) [36, 50, 63] 73 = 36 by rw [c2_0]; rfl]
      refine stp hm 3 (M_has_ok hE rfl ?_)
      show sxWP sc cl Q 200 (41, [some (.ref 59), some (.int v1), some (.int v2)], [.int (M_has v1 mk.1)], (cW nw kp im ol sn sr tp (mW mk mg mt mc T)), 0, 0)
      have m3 : ∀ (m3_0 : Int32), m3_0 = (if (M_has v1 mk.1) = (0:Int32) then (0:Int32) else (1:Int32)) → sxWP sc cl Q 200 (49, [some (.ref 59), some (.int v1), some (.int v2)], [.int m3_0], (cW nw kp im ol sn sr tp (mW mk mg mt mc T)), 0, 0) := by
        intro m3_0 em3_0
        subst em3_0
        obtain rfl := Option.some.inj hf
        refine stp hm 1 ?_
        exact h
      refine stp hm 1 (bs (c := (M_has v1 mk.1) = (0:Int32)) (fun c4 => ?_) (fun c4 => ?_))
      · have c4 : (M_has v1 mk.1) = (0:Int32) := c4
        refine stp hm 1 (?_ : sxWP sc cl Q 200 (49, [some (.ref 59), some (.int v1), some (.int v2)], [.int (0:Int32)], (cW nw kp im ol sn sr tp (mW mk mg mt mc T)), 0, 0))
        exact m3 _ (by rw [if_pos c4])
      · have c4 : ¬ (M_has v1 mk.1) = (0:Int32) := c4
        refine stp hm 2 (?_ : sxWP sc cl Q 200 (49, [some (.ref 59), some (.int v1), some (.int v2)], [.int (1:Int32)], (cW nw kp im ol sn sr tp (mW mk mg mt mc T)), 0, 0))
        exact m3 _ (by rw [if_neg c4])
    rcases ite_or hf with ⟨c2_1, hf⟩ | ⟨c2_1, hf⟩
    · rw [show swT (v2).toInt (0) [36, 50, 63] 73 = 50 by rw [c2_1]; rfl]
      refine stp hm 2 (M_isBlack_ok hE rfl ?_)
      show sxWP sc cl Q 200 (54, [some (.ref 59), some (.int v1), some (.int v2)], [.int (M_isBlack v1)], (cW nw kp im ol sn sr tp (mW mk mg mt mc T)), 0, 0)
      have m5 : ∀ (m5_0 : Int32), m5_0 = (if (M_isBlack v1) = (0:Int32) then (0:Int32) else (1:Int32)) → sxWP sc cl Q 200 (62, [some (.ref 59), some (.int v1), some (.int v2)], [.int m5_0], (cW nw kp im ol sn sr tp (mW mk mg mt mc T)), 0, 0) := by
        intro m5_0 em5_0
        subst em5_0
        obtain rfl := Option.some.inj hf
        refine stp hm 1 ?_
        exact h
      refine stp hm 1 (bs (c := (M_isBlack v1) = (0:Int32)) (fun c6 => ?_) (fun c6 => ?_))
      · have c6 : (M_isBlack v1) = (0:Int32) := c6
        refine stp hm 1 (?_ : sxWP sc cl Q 200 (62, [some (.ref 59), some (.int v1), some (.int v2)], [.int (0:Int32)], (cW nw kp im ol sn sr tp (mW mk mg mt mc T)), 0, 0))
        exact m5 _ (by rw [if_pos c6])
      · have c6 : ¬ (M_isBlack v1) = (0:Int32) := c6
        refine stp hm 2 (?_ : sxWP sc cl Q 200 (62, [some (.ref 59), some (.int v1), some (.int v2)], [.int (1:Int32)], (cW nw kp im ol sn sr tp (mW mk mg mt mc T)), 0, 0))
        exact m5 _ (by rw [if_neg c6])
    rcases ite_or hf with ⟨c2_2, hf⟩ | ⟨c2_2, hf⟩
    · rw [show swT (v2).toInt (0) [36, 50, 63] 73 = 63 by rw [c2_2]; rfl]
      obtain ⟨g7, hf⟩ := grd_e hf
      refine stp hm 6 (And.intro (gi_in g7) (?_ : sxWP sc cl Q 200 (72, [some (.ref 59), some (.int v1), some (.int v2)], [.int (mk.2.2.1 ((6:Int32) + v1).toNatClampNeg)], (cW nw kp im ol sn sr tp (mW mk mg mt mc T)), 0, 0)))
      obtain rfl := Option.some.inj hf
      refine stp hm 1 ?_
      exact h
    have tc2_0 : ¬ (v2).toInt = 0 := fun e => c2_0 (Int32.toInt_inj.mp e)
    have tc2_1 : ¬ (v2).toInt = 1 := fun e => c2_1 (Int32.toInt_inj.mp e)
    have tc2_2 : ¬ (v2).toInt = 2 := fun e => c2_2 (Int32.toInt_inj.mp e)
    rw [show swT (v2).toInt (0) [36, 50, 63] 73 = 73 by simp [swT, tc2_0, tc2_1, tc2_2]]
    obtain rfl := Option.some.inj hf
    refine stp hm 2 ?_
    exact h
  · show sxWP sc cl Q 200 (7, [some (.ref 59), some (.int v1), some (.int v2)], [], (cW nw kp im ol sn sr tp (mW mk mg mt mc T)), 0, 0)
    obtain rfl := Option.some.inj hf
    refine stp hm 2 ?_
    exact h

def G_amount (v0 : Int64) (v2 : Int32)  : Int32 := if v2 = (0:Int32) then (J_Long_bitCount v0) else (if v2 = (1:Int32) then (J_Long_bitCount (v0 &&& (45460576917:Int64))) else (((4:Int32) * (J_Long_bitCount v0)) - ((2:Int32) * ((J_Long_bitCount ((v0 &&& ((v0.toUInt64 >>> ((1:Int32).toInt64.toUInt64 &&& Int64.toUInt64 63)).toInt64)) &&& (33814345695:Int64))) + (J_Long_bitCount (v0 &&& ((v0.toUInt64 >>> ((6:Int32).toInt64.toUInt64 &&& Int64.toUInt64 63)).toInt64)))))))
set_option maxRecDepth 10000 in
theorem G_amount_ok {v0 : Int64} {v2 : Int32} {r : Int32} (hc : call = sxE sc (d + 2)) (hf : G_amount v0 v2 = r) (h : Q (some (.int r)) hp) : call 10 [.long v0, .int v2] hp Q := by
  refine ent hc rfl (fun cl hE hm => ?_)
  unfold G_amount at hf
  refine stp hm 2 (brn hf (fun c1 hf => ?_) (fun c1 hf => ?_))
  · show sxWP sc cl Q 10 (9, [some (.long v0), none, some (.int v2), none, none], [], hp, 0, 0)
    refine stp hm 3 (brn hf (fun c2 hf => ?_) (fun c2 hf => ?_))
    · show sxWP sc cl Q 10 (23, [some (.long v0), none, some (.int v2), none, none], [], hp, 0, 0)
      refine stp hm 8 (J_Long_bitCount_ok hE rfl ?_)
      show sxWP sc cl Q 10 (35, [some (.long v0), none, some (.int v2), none, none], [.int (J_Long_bitCount ((v0 &&& ((v0.toUInt64 >>> ((1:Int32).toInt64.toUInt64 &&& Int64.toUInt64 63)).toInt64)) &&& (33814345695:Int64)))], hp, 0, 0)
      refine stp hm 7 (J_Long_bitCount_ok hE rfl ?_)
      show sxWP sc cl Q 10 (45, [some (.long v0), none, some (.int v2), some (.int (J_Long_bitCount ((v0 &&& ((v0.toUInt64 >>> ((1:Int32).toInt64.toUInt64 &&& Int64.toUInt64 63)).toInt64)) &&& (33814345695:Int64)))), none], [.int (J_Long_bitCount (v0 &&& ((v0.toUInt64 >>> ((6:Int32).toInt64.toUInt64 &&& Int64.toUInt64 63)).toInt64)))], hp, 0, 0)
      refine stp hm 4 (J_Long_bitCount_ok hE rfl ?_)
      show sxWP sc cl Q 10 (52, [some (.long v0), none, some (.int v2), some (.int (J_Long_bitCount ((v0 &&& ((v0.toUInt64 >>> ((1:Int32).toInt64.toUInt64 &&& Int64.toUInt64 63)).toInt64)) &&& (33814345695:Int64)))), some (.int (J_Long_bitCount (v0 &&& ((v0.toUInt64 >>> ((6:Int32).toInt64.toUInt64 &&& Int64.toUInt64 63)).toInt64))))], [.int (J_Long_bitCount v0), .int (4:Int32)], hp, 0, 0)
      subst hf
      refine stp hm 8 ?_
      exact h
    · show sxWP sc cl Q 10 (14, [some (.long v0), none, some (.int v2), none, none], [], hp, 0, 0)
      refine stp hm 4 (J_Long_bitCount_ok hE rfl ?_)
      show sxWP sc cl Q 10 (22, [some (.long v0), none, some (.int v2), none, none], [.int (J_Long_bitCount (v0 &&& (45460576917:Int64)))], hp, 0, 0)
      subst hf
      refine stp hm 1 ?_
      exact h
  · show sxWP sc cl Q 10 (4, [some (.long v0), none, some (.int v2), none, none], [], hp, 0, 0)
    refine stp hm 2 (J_Long_bitCount_ok hE rfl ?_)
    show sxWP sc cl Q 10 (8, [some (.long v0), none, some (.int v2), none, none], [.int (J_Long_bitCount v0)], hp, 0, 0)
    subst hf
    refine stp hm 1 ?_
    exact h

def X_told_j198  (k0 : Int32) (okn_j : Int32) (org_j : Int64) (osi_j : Int32) (oti_j : Int32) (ole_j : Int32) (oto_j : Int32) (oow_j : Int64) (oco_j : Int64) (ost_j : (Nat → Int32)) (owa_j : (Nat → Int32)) (owv_j : (Nat → Int32)) (owh_j : (Nat → Int32)) (olo_j : (Nat → Int32)) (ohi_j : (Nat → Int32)) (ora_j : (Nat → Int32)) (odi_j : (Nat → Int32)) (oqu_j : (Nat → Int32)) : Option (Int32 × Int32 × Int64 × Int32 × Int32 × Int32 × Int32 × Int64 × Int64 × (Nat → Int32) × (Nat → Int32) × (Nat → Int32) × (Nat → Int32) × (Nat → Int32) × (Nat → Int32) × (Nat → Int32) × (Nat → Int32) × (Nat → Int32)) := some (k0, okn_j, org_j, osi_j, oti_j, ole_j, oto_j, oow_j, oco_j, ost_j, owa_j, owv_j, owh_j, olo_j, ohi_j, ora_j, odi_j, oqu_j)
def X_told_j174  (k0 : Int32) (okn_j : Int32) (org_j : Int64) (osi_j : Int32) (oti_j : Int32) (ole_j : Int32) (oto_j : Int32) (oow_j : Int64) (oco_j : Int64) (ost_j : (Nat → Int32)) (owa_j : (Nat → Int32)) (owv_j : (Nat → Int32)) (owh_j : (Nat → Int32)) (olo_j : (Nat → Int32)) (ohi_j : (Nat → Int32)) (ora_j : (Nat → Int32)) (odi_j : (Nat → Int32)) (oqu_j : (Nat → Int32)) : Option (Int32 × Int32 × Int64 × Int32 × Int32 × Int32 × Int32 × Int64 × Int64 × (Nat → Int32) × (Nat → Int32) × (Nat → Int32) × (Nat → Int32) × (Nat → Int32) × (Nat → Int32) × (Nat → Int32) × (Nat → Int32) × (Nat → Int32)) := some (k0, okn_j, org_j, osi_j, oti_j, ole_j, oto_j, oow_j, oco_j, ost_j, owa_j, owv_j, owh_j, olo_j, ohi_j, ora_j, odi_j, oqu_j)
def X_told_j21  (v1 : Int32) (okn_j : Int32) (org_j : Int64) (osi_j : Int32) (oti_j : Int32) (ole_j : Int32) (oto_j : Int32) (oow_j : Int64) (oco_j : Int64) (ost_j : (Nat → Int32)) (owa_j : (Nat → Int32)) (owv_j : (Nat → Int32)) (owh_j : (Nat → Int32)) (olo_j : (Nat → Int32)) (ohi_j : (Nat → Int32)) (ora_j : (Nat → Int32)) (odi_j : (Nat → Int32)) (oqu_j : (Nat → Int32)) (nrg : Int64) (nld : Int32) (nmt : (Nat → Int32)) : Option (Int32 × Int32 × Int64 × Int32 × Int32 × Int32 × Int32 × Int64 × Int64 × (Nat → Int32) × (Nat → Int32) × (Nat → Int32) × (Nat → Int32) × (Nat → Int32) × (Nat → Int32) × (Nat → Int32) × (Nat → Int32) × (Nat → Int32)) := Option.bind (O_look nrg okn_j org_j osi_j oti_j ole_j oto_j oow_j oco_j ost_j owa_j owv_j owh_j olo_j ohi_j ora_j odi_j oqu_j) (fun q1 => if v1 = (3:Int32) then (some (X_bit q1.2.2.1, q1.1, q1.2.1, q1.2.2.1, q1.2.2.2.1, q1.2.2.2.2.1, q1.2.2.2.2.2.1, q1.2.2.2.2.2.2.1, q1.2.2.2.2.2.2.2.1, q1.2.2.2.2.2.2.2.2.1, q1.2.2.2.2.2.2.2.2.2.1, q1.2.2.2.2.2.2.2.2.2.2.1, q1.2.2.2.2.2.2.2.2.2.2.2.1, q1.2.2.2.2.2.2.2.2.2.2.2.2.1, q1.2.2.2.2.2.2.2.2.2.2.2.2.2.1, ora_j, q1.2.2.2.2.2.2.2.2.2.2.2.2.2.2.1, q1.2.2.2.2.2.2.2.2.2.2.2.2.2.2.2)) else (if v1 = (4:Int32) then (some (X_bit q1.2.2.2.1, q1.1, q1.2.1, q1.2.2.1, q1.2.2.2.1, q1.2.2.2.2.1, q1.2.2.2.2.2.1, q1.2.2.2.2.2.2.1, q1.2.2.2.2.2.2.2.1, q1.2.2.2.2.2.2.2.2.1, q1.2.2.2.2.2.2.2.2.2.1, q1.2.2.2.2.2.2.2.2.2.2.1, q1.2.2.2.2.2.2.2.2.2.2.2.1, q1.2.2.2.2.2.2.2.2.2.2.2.2.1, q1.2.2.2.2.2.2.2.2.2.2.2.2.2.1, ora_j, q1.2.2.2.2.2.2.2.2.2.2.2.2.2.2.1, q1.2.2.2.2.2.2.2.2.2.2.2.2.2.2.2)) else (if v1 = (5:Int32) then (some (if q1.2.2.1 = (0:Int32) then (-5:Int32) else q1.2.2.2.2.1, q1.1, q1.2.1, q1.2.2.1, q1.2.2.2.1, q1.2.2.2.2.1, q1.2.2.2.2.2.1, q1.2.2.2.2.2.2.1, q1.2.2.2.2.2.2.2.1, q1.2.2.2.2.2.2.2.2.1, q1.2.2.2.2.2.2.2.2.2.1, q1.2.2.2.2.2.2.2.2.2.2.1, q1.2.2.2.2.2.2.2.2.2.2.2.1, q1.2.2.2.2.2.2.2.2.2.2.2.2.1, q1.2.2.2.2.2.2.2.2.2.2.2.2.2.1, ora_j, q1.2.2.2.2.2.2.2.2.2.2.2.2.2.2.1, q1.2.2.2.2.2.2.2.2.2.2.2.2.2.2.2)) else (if v1 = (6:Int32) then (some (if q1.2.2.1 = (0:Int32) then (-5:Int32) else (q1.2.2.2.2.2.1 + (1000:Int32)), q1.1, q1.2.1, q1.2.2.1, q1.2.2.2.1, q1.2.2.2.2.1, q1.2.2.2.2.2.1, q1.2.2.2.2.2.2.1, q1.2.2.2.2.2.2.2.1, q1.2.2.2.2.2.2.2.2.1, q1.2.2.2.2.2.2.2.2.2.1, q1.2.2.2.2.2.2.2.2.2.2.1, q1.2.2.2.2.2.2.2.2.2.2.2.1, q1.2.2.2.2.2.2.2.2.2.2.2.2.1, q1.2.2.2.2.2.2.2.2.2.2.2.2.2.1, ora_j, q1.2.2.2.2.2.2.2.2.2.2.2.2.2.2.1, q1.2.2.2.2.2.2.2.2.2.2.2.2.2.2.2)) else (if v1 = (7:Int32) then (if nld = (0:Int32) then (X_told_j174 (-5:Int32) q1.1 q1.2.1 q1.2.2.1 q1.2.2.2.1 q1.2.2.2.2.1 q1.2.2.2.2.2.1 q1.2.2.2.2.2.2.1 q1.2.2.2.2.2.2.2.1 q1.2.2.2.2.2.2.2.2.1 q1.2.2.2.2.2.2.2.2.2.1 q1.2.2.2.2.2.2.2.2.2.2.1 q1.2.2.2.2.2.2.2.2.2.2.2.1 q1.2.2.2.2.2.2.2.2.2.2.2.2.1 q1.2.2.2.2.2.2.2.2.2.2.2.2.2.1 ora_j q1.2.2.2.2.2.2.2.2.2.2.2.2.2.2.1 q1.2.2.2.2.2.2.2.2.2.2.2.2.2.2.2) else (Option.bind (S_rank nrg nld nmt q1.1 q1.2.1 q1.2.2.1 q1.2.2.2.1 q1.2.2.2.2.1 q1.2.2.2.2.2.1 q1.2.2.2.2.2.2.1 q1.2.2.2.2.2.2.2.1 q1.2.2.2.2.2.2.2.2.1 q1.2.2.2.2.2.2.2.2.2.1 q1.2.2.2.2.2.2.2.2.2.2.1 q1.2.2.2.2.2.2.2.2.2.2.2.1 q1.2.2.2.2.2.2.2.2.2.2.2.2.1 q1.2.2.2.2.2.2.2.2.2.2.2.2.2.1 ora_j q1.2.2.2.2.2.2.2.2.2.2.2.2.2.2.1 q1.2.2.2.2.2.2.2.2.2.2.2.2.2.2.2) (fun q8 => X_told_j174 q8.1 q8.2.1 q8.2.2.1 q8.2.2.2.1 q8.2.2.2.2.1 q8.2.2.2.2.2.1 q8.2.2.2.2.2.2.1 q8.2.2.2.2.2.2.2.1 q8.2.2.2.2.2.2.2.2.1 q8.2.2.2.2.2.2.2.2.2.1 q8.2.2.2.2.2.2.2.2.2.2.1 q8.2.2.2.2.2.2.2.2.2.2.2.1 q8.2.2.2.2.2.2.2.2.2.2.2.2.1 q8.2.2.2.2.2.2.2.2.2.2.2.2.2.1 q8.2.2.2.2.2.2.2.2.2.2.2.2.2.2.1 q8.2.2.2.2.2.2.2.2.2.2.2.2.2.2.2.1 q8.2.2.2.2.2.2.2.2.2.2.2.2.2.2.2.2.1 q8.2.2.2.2.2.2.2.2.2.2.2.2.2.2.2.2.2))) else (if v1 = (8:Int32) then (if q1.2.2.2.1 = (0:Int32) then (X_told_j198 (-5:Int32) q1.1 q1.2.1 q1.2.2.1 q1.2.2.2.1 q1.2.2.2.2.1 q1.2.2.2.2.2.1 q1.2.2.2.2.2.2.1 q1.2.2.2.2.2.2.2.1 q1.2.2.2.2.2.2.2.2.1 q1.2.2.2.2.2.2.2.2.2.1 q1.2.2.2.2.2.2.2.2.2.2.1 q1.2.2.2.2.2.2.2.2.2.2.2.1 q1.2.2.2.2.2.2.2.2.2.2.2.2.1 q1.2.2.2.2.2.2.2.2.2.2.2.2.2.1 ora_j q1.2.2.2.2.2.2.2.2.2.2.2.2.2.2.1 q1.2.2.2.2.2.2.2.2.2.2.2.2.2.2.2) else (Option.bind (O_above (2:Int32) q1.2.2.2.2.2.2.2.1 q1.2.2.2.2.2.2.2.2.2.2.2.1 q1.2.2.2.2.2.2.2.2.2.2.2.2.1 q1.2.2.2.2.2.2.2.2.2.2.2.2.2.1 ora_j) (fun q10 => X_told_j198 q10 q1.1 q1.2.1 q1.2.2.1 q1.2.2.2.1 q1.2.2.2.2.1 q1.2.2.2.2.2.1 q1.2.2.2.2.2.2.1 q1.2.2.2.2.2.2.2.1 q1.2.2.2.2.2.2.2.2.1 q1.2.2.2.2.2.2.2.2.2.1 q1.2.2.2.2.2.2.2.2.2.2.1 q1.2.2.2.2.2.2.2.2.2.2.2.1 q1.2.2.2.2.2.2.2.2.2.2.2.2.1 q1.2.2.2.2.2.2.2.2.2.2.2.2.2.1 ora_j q1.2.2.2.2.2.2.2.2.2.2.2.2.2.2.1 q1.2.2.2.2.2.2.2.2.2.2.2.2.2.2.2))) else (some ((-1:Int32), q1.1, q1.2.1, q1.2.2.1, q1.2.2.2.1, q1.2.2.2.2.1, q1.2.2.2.2.2.1, q1.2.2.2.2.2.2.1, q1.2.2.2.2.2.2.2.1, q1.2.2.2.2.2.2.2.2.1, q1.2.2.2.2.2.2.2.2.2.1, q1.2.2.2.2.2.2.2.2.2.2.1, q1.2.2.2.2.2.2.2.2.2.2.2.1, q1.2.2.2.2.2.2.2.2.2.2.2.2.1, q1.2.2.2.2.2.2.2.2.2.2.2.2.2.1, ora_j, q1.2.2.2.2.2.2.2.2.2.2.2.2.2.2.1, q1.2.2.2.2.2.2.2.2.2.2.2.2.2.2.2))))))))
def X_told (v1 : Int32) (nrg : Int64) (nld : Int32) (nmt : (Nat → Int32)) (okn : Int32) (org : Int64) (osi : Int32) (oti : Int32) (ole : Int32) (oto : Int32) (oow : Int64) (oco : Int64) (ost : (Nat → Int32)) (owa : (Nat → Int32)) (owv : (Nat → Int32)) (owh : (Nat → Int32)) (olo : (Nat → Int32)) (ohi : (Nat → Int32)) (ora : (Nat → Int32)) (odi : (Nat → Int32)) (oqu : (Nat → Int32)) : Option (Int32 × Int32 × Int64 × Int32 × Int32 × Int32 × Int32 × Int64 × Int64 × (Nat → Int32) × (Nat → Int32) × (Nat → Int32) × (Nat → Int32) × (Nat → Int32) × (Nat → Int32) × (Nat → Int32) × (Nat → Int32) × (Nat → Int32)) := if v1 < (0:Int32) then (X_told_j21 v1 okn org osi oti ole oto oow oco ost owa owv owh olo ohi ora odi oqu nrg nld nmt) else (if (2:Int32) < v1 then (X_told_j21 v1 okn org osi oti ole oto oow oco ost owa owv owh olo ohi ora odi oqu nrg nld nmt) else (some (G_amount nrg v1, okn, org, osi, oti, ole, oto, oow, oco, ost, owa, owv, owh, olo, ohi, ora, odi, oqu)))
set_option maxRecDepth 10000 in
theorem X_told_ok {v1 : Int32} {q : (Int32 × Int32 × Int64 × Int32 × Int32 × Int32 × Int32 × Int64 × Int64 × (Nat → Int32) × (Nat → Int32) × (Nat → Int32) × (Nat → Int32) × (Nat → Int32) × (Nat → Int32) × (Nat → Int32) × (Nat → Int32) × (Nat → Int32))} (hc : call = sxE sc (d + 6)) (hf : X_told v1 nw.1 nw.2.1 nw.2.2.1 ol.1 ol.2.1 ol.2.2.1 ol.2.2.2.1 ol.2.2.2.2.1 ol.2.2.2.2.2.1 ol.2.2.2.2.2.2.1 ol.2.2.2.2.2.2.2.1 ol.2.2.2.2.2.2.2.2.1 ol.2.2.2.2.2.2.2.2.2.1 ol.2.2.2.2.2.2.2.2.2.2.1 ol.2.2.2.2.2.2.2.2.2.2.2.1 ol.2.2.2.2.2.2.2.2.2.2.2.2.1 ol.2.2.2.2.2.2.2.2.2.2.2.2.2.1 ol.2.2.2.2.2.2.2.2.2.2.2.2.2.2.1 ol.2.2.2.2.2.2.2.2.2.2.2.2.2.2.2.1 ol.2.2.2.2.2.2.2.2.2.2.2.2.2.2.2.2 = some q) (h : Q (some (.int q.1)) (cW nw kp im (q.2.1, q.2.2.1, q.2.2.2.1, q.2.2.2.2.1, q.2.2.2.2.2.1, q.2.2.2.2.2.2.1, q.2.2.2.2.2.2.2.1, q.2.2.2.2.2.2.2.2.1, q.2.2.2.2.2.2.2.2.2.1, q.2.2.2.2.2.2.2.2.2.2.1, q.2.2.2.2.2.2.2.2.2.2.2.1, q.2.2.2.2.2.2.2.2.2.2.2.2.1, q.2.2.2.2.2.2.2.2.2.2.2.2.2.1, q.2.2.2.2.2.2.2.2.2.2.2.2.2.2.1, q.2.2.2.2.2.2.2.2.2.2.2.2.2.2.2.1, q.2.2.2.2.2.2.2.2.2.2.2.2.2.2.2.2.1, q.2.2.2.2.2.2.2.2.2.2.2.2.2.2.2.2.2) sn sr tp (mW mk mg mt mc T))) : call 104 [.ref 0, .int v1] (cW nw kp im ol sn sr tp (mW mk mg mt mc T)) Q := by
  refine ent hc rfl (fun cl hE hm => ?_)
  have J198 : ∀ (k0 : Int32) (okn_j : Int32) (org_j : Int64) (osi_j : Int32) (oti_j : Int32) (ole_j : Int32) (oto_j : Int32) (oow_j : Int64) (oco_j : Int64) (ost_j : (Nat → Int32)) (owa_j : (Nat → Int32)) (owv_j : (Nat → Int32)) (owh_j : (Nat → Int32)) (olo_j : (Nat → Int32)) (ohi_j : (Nat → Int32)) (ora_j : (Nat → Int32)) (odi_j : (Nat → Int32)) (oqu_j : (Nat → Int32)) (z0 : Option Value) (z1 : Option Value), X_told_j198 k0 okn_j org_j osi_j oti_j ole_j oto_j oow_j oco_j ost_j owa_j owv_j owh_j olo_j ohi_j ora_j odi_j oqu_j = some q → sxWP sc cl Q 104 (198, [z0, z1], [.int k0], (cW nw kp im (okn_j, org_j, osi_j, oti_j, ole_j, oto_j, oow_j, oco_j, ost_j, owa_j, owv_j, owh_j, olo_j, ohi_j, ora_j, odi_j, oqu_j) sn sr tp (mW mk mg mt mc T)), 0, 0) := by
    intro k0 okn_j org_j osi_j oti_j ole_j oto_j oow_j oco_j ost_j owa_j owv_j owh_j olo_j ohi_j ora_j odi_j oqu_j z0 z1 hf
    unfold X_told_j198 at hf
    obtain rfl := Option.some.inj hf
    refine stp hm 1 ?_
    exact h
  have J174 : ∀ (k0 : Int32) (okn_j : Int32) (org_j : Int64) (osi_j : Int32) (oti_j : Int32) (ole_j : Int32) (oto_j : Int32) (oow_j : Int64) (oco_j : Int64) (ost_j : (Nat → Int32)) (owa_j : (Nat → Int32)) (owv_j : (Nat → Int32)) (owh_j : (Nat → Int32)) (olo_j : (Nat → Int32)) (ohi_j : (Nat → Int32)) (ora_j : (Nat → Int32)) (odi_j : (Nat → Int32)) (oqu_j : (Nat → Int32)) (z0 : Option Value) (z1 : Option Value), X_told_j174 k0 okn_j org_j osi_j oti_j ole_j oto_j oow_j oco_j ost_j owa_j owv_j owh_j olo_j ohi_j ora_j odi_j oqu_j = some q → sxWP sc cl Q 104 (174, [z0, z1], [.int k0], (cW nw kp im (okn_j, org_j, osi_j, oti_j, ole_j, oto_j, oow_j, oco_j, ost_j, owa_j, owv_j, owh_j, olo_j, ohi_j, ora_j, odi_j, oqu_j) sn sr tp (mW mk mg mt mc T)), 0, 0) := by
    intro k0 okn_j org_j osi_j oti_j ole_j oto_j oow_j oco_j ost_j owa_j owv_j owh_j olo_j ohi_j ora_j odi_j oqu_j z0 z1 hf
    unfold X_told_j174 at hf
    obtain rfl := Option.some.inj hf
    refine stp hm 1 ?_
    exact h
  have J21 : ∀ (v1 : Int32) (okn_j : Int32) (org_j : Int64) (osi_j : Int32) (oti_j : Int32) (ole_j : Int32) (oto_j : Int32) (oow_j : Int64) (oco_j : Int64) (ost_j : (Nat → Int32)) (owa_j : (Nat → Int32)) (owv_j : (Nat → Int32)) (owh_j : (Nat → Int32)) (olo_j : (Nat → Int32)) (ohi_j : (Nat → Int32)) (ora_j : (Nat → Int32)) (odi_j : (Nat → Int32)) (oqu_j : (Nat → Int32)), X_told_j21 v1 okn_j org_j osi_j oti_j ole_j oto_j oow_j oco_j ost_j owa_j owv_j owh_j olo_j ohi_j ora_j odi_j oqu_j nw.1 nw.2.1 nw.2.2.1 = some q → sxWP sc cl Q 104 (21, [some (.ref 0), some (.int v1)], [], (cW nw kp im (okn_j, org_j, osi_j, oti_j, ole_j, oto_j, oow_j, oco_j, ost_j, owa_j, owv_j, owh_j, olo_j, ohi_j, ora_j, odi_j, oqu_j) sn sr tp (mW mk mg mt mc T)), 0, 0) := by
    intro v1 okn_j org_j osi_j oti_j ole_j oto_j oow_j oco_j ost_j owa_j owv_j owh_j olo_j ohi_j ora_j odi_j oqu_j hf
    unfold X_told_j21 at hf
    obtain ⟨q1, hq1, hf⟩ := bnd hf
    refine stp hm 6 (O_look_ok hE hq1 ?_)
    show sxWP sc cl Q 104 (35, [some (.ref 0), some (.int v1)], [], (cW nw kp im (q1.1, q1.2.1, q1.2.2.1, q1.2.2.2.1, q1.2.2.2.2.1, q1.2.2.2.2.2.1, q1.2.2.2.2.2.2.1, q1.2.2.2.2.2.2.2.1, q1.2.2.2.2.2.2.2.2.1, q1.2.2.2.2.2.2.2.2.2.1, q1.2.2.2.2.2.2.2.2.2.2.1, q1.2.2.2.2.2.2.2.2.2.2.2.1, q1.2.2.2.2.2.2.2.2.2.2.2.2.1, q1.2.2.2.2.2.2.2.2.2.2.2.2.2.1, ora_j, q1.2.2.2.2.2.2.2.2.2.2.2.2.2.2.1, q1.2.2.2.2.2.2.2.2.2.2.2.2.2.2.2) sn sr tp (mW mk mg mt mc T)), 0, 0)
    refine stp hm 2 ?_
    show sxWP sc cl Q 104 ((swT (v1).toInt (3) [76, 87, 98, 121, 148, 175] 199), [some (.ref 0), some (.int v1)], [], (cW nw kp im (q1.1, q1.2.1, q1.2.2.1, q1.2.2.2.1, q1.2.2.2.2.1, q1.2.2.2.2.2.1, q1.2.2.2.2.2.2.1, q1.2.2.2.2.2.2.2.1, q1.2.2.2.2.2.2.2.2.1, q1.2.2.2.2.2.2.2.2.2.1, q1.2.2.2.2.2.2.2.2.2.2.1, q1.2.2.2.2.2.2.2.2.2.2.2.1, q1.2.2.2.2.2.2.2.2.2.2.2.2.1, q1.2.2.2.2.2.2.2.2.2.2.2.2.2.1, ora_j, q1.2.2.2.2.2.2.2.2.2.2.2.2.2.2.1, q1.2.2.2.2.2.2.2.2.2.2.2.2.2.2.2) sn sr tp (mW mk mg mt mc T)), 0, 0)
    rcases ite_or hf with ⟨c2_0, hf⟩ | ⟨c2_0, hf⟩
    · rw [show swT (v1).toInt (3) [76, 87, 98, 121, 148, 175] 199 = 76 by rw [c2_0]; rfl]
      refine stp hm 4 (X_bit_ok hE rfl ?_)
      show sxWP sc cl Q 104 (86, [some (.ref 0), some (.int v1)], [.int (X_bit q1.2.2.1)], (cW nw kp im (q1.1, q1.2.1, q1.2.2.1, q1.2.2.2.1, q1.2.2.2.2.1, q1.2.2.2.2.2.1, q1.2.2.2.2.2.2.1, q1.2.2.2.2.2.2.2.1, q1.2.2.2.2.2.2.2.2.1, q1.2.2.2.2.2.2.2.2.2.1, q1.2.2.2.2.2.2.2.2.2.2.1, q1.2.2.2.2.2.2.2.2.2.2.2.1, q1.2.2.2.2.2.2.2.2.2.2.2.2.1, q1.2.2.2.2.2.2.2.2.2.2.2.2.2.1, ora_j, q1.2.2.2.2.2.2.2.2.2.2.2.2.2.2.1, q1.2.2.2.2.2.2.2.2.2.2.2.2.2.2.2) sn sr tp (mW mk mg mt mc T)), 0, 0)
      obtain rfl := Option.some.inj hf
      refine stp hm 1 ?_
      exact h
    rcases ite_or hf with ⟨c2_1, hf⟩ | ⟨c2_1, hf⟩
    · rw [show swT (v1).toInt (3) [76, 87, 98, 121, 148, 175] 199 = 87 by rw [c2_1]; rfl]
      refine stp hm 4 (X_bit_ok hE rfl ?_)
      show sxWP sc cl Q 104 (97, [some (.ref 0), some (.int v1)], [.int (X_bit q1.2.2.2.1)], (cW nw kp im (q1.1, q1.2.1, q1.2.2.1, q1.2.2.2.1, q1.2.2.2.2.1, q1.2.2.2.2.2.1, q1.2.2.2.2.2.2.1, q1.2.2.2.2.2.2.2.1, q1.2.2.2.2.2.2.2.2.1, q1.2.2.2.2.2.2.2.2.2.1, q1.2.2.2.2.2.2.2.2.2.2.1, q1.2.2.2.2.2.2.2.2.2.2.2.1, q1.2.2.2.2.2.2.2.2.2.2.2.2.1, q1.2.2.2.2.2.2.2.2.2.2.2.2.2.1, ora_j, q1.2.2.2.2.2.2.2.2.2.2.2.2.2.2.1, q1.2.2.2.2.2.2.2.2.2.2.2.2.2.2.2) sn sr tp (mW mk mg mt mc T)), 0, 0)
      obtain rfl := Option.some.inj hf
      refine stp hm 1 ?_
      exact h
    rcases ite_or hf with ⟨c2_2, hf⟩ | ⟨c2_2, hf⟩
    · rw [show swT (v1).toInt (3) [76, 87, 98, 121, 148, 175] 199 = 98 by rw [c2_2]; rfl]
      have m3 : ∀ (m3_0 : Int32), m3_0 = (if q1.2.2.1 = (0:Int32) then (-5:Int32) else q1.2.2.2.2.1) → sxWP sc cl Q 104 (120, [some (.ref 0), some (.int v1)], [.int m3_0], (cW nw kp im (q1.1, q1.2.1, q1.2.2.1, q1.2.2.2.1, q1.2.2.2.2.1, q1.2.2.2.2.2.1, q1.2.2.2.2.2.2.1, q1.2.2.2.2.2.2.2.1, q1.2.2.2.2.2.2.2.2.1, q1.2.2.2.2.2.2.2.2.2.1, q1.2.2.2.2.2.2.2.2.2.2.1, q1.2.2.2.2.2.2.2.2.2.2.2.1, q1.2.2.2.2.2.2.2.2.2.2.2.2.1, q1.2.2.2.2.2.2.2.2.2.2.2.2.2.1, ora_j, q1.2.2.2.2.2.2.2.2.2.2.2.2.2.2.1, q1.2.2.2.2.2.2.2.2.2.2.2.2.2.2.2) sn sr tp (mW mk mg mt mc T)), 0, 0) := by
        intro m3_0 em3_0
        subst em3_0
        obtain rfl := Option.some.inj hf
        refine stp hm 1 ?_
        exact h
      refine stp hm 4 (bs (c := q1.2.2.1 = (0:Int32)) (fun c4 => ?_) (fun c4 => ?_))
      · have c4 : q1.2.2.1 = (0:Int32) := c4
        refine stp hm 1 (?_ : sxWP sc cl Q 104 (120, [some (.ref 0), some (.int v1)], [.int (-5:Int32)], (cW nw kp im (q1.1, q1.2.1, q1.2.2.1, q1.2.2.2.1, q1.2.2.2.2.1, q1.2.2.2.2.2.1, q1.2.2.2.2.2.2.1, q1.2.2.2.2.2.2.2.1, q1.2.2.2.2.2.2.2.2.1, q1.2.2.2.2.2.2.2.2.2.1, q1.2.2.2.2.2.2.2.2.2.2.1, q1.2.2.2.2.2.2.2.2.2.2.2.1, q1.2.2.2.2.2.2.2.2.2.2.2.2.1, q1.2.2.2.2.2.2.2.2.2.2.2.2.2.1, ora_j, q1.2.2.2.2.2.2.2.2.2.2.2.2.2.2.1, q1.2.2.2.2.2.2.2.2.2.2.2.2.2.2.2) sn sr tp (mW mk mg mt mc T)), 0, 0))
        exact m3 _ (by rw [if_pos c4])
      · have c4 : ¬ q1.2.2.1 = (0:Int32) := c4
        refine stp hm 4 (?_ : sxWP sc cl Q 104 (120, [some (.ref 0), some (.int v1)], [.int q1.2.2.2.2.1], (cW nw kp im (q1.1, q1.2.1, q1.2.2.1, q1.2.2.2.1, q1.2.2.2.2.1, q1.2.2.2.2.2.1, q1.2.2.2.2.2.2.1, q1.2.2.2.2.2.2.2.1, q1.2.2.2.2.2.2.2.2.1, q1.2.2.2.2.2.2.2.2.2.1, q1.2.2.2.2.2.2.2.2.2.2.1, q1.2.2.2.2.2.2.2.2.2.2.2.1, q1.2.2.2.2.2.2.2.2.2.2.2.2.1, q1.2.2.2.2.2.2.2.2.2.2.2.2.2.1, ora_j, q1.2.2.2.2.2.2.2.2.2.2.2.2.2.2.1, q1.2.2.2.2.2.2.2.2.2.2.2.2.2.2.2) sn sr tp (mW mk mg mt mc T)), 0, 0))
        exact m3 _ (by rw [if_neg c4])
    rcases ite_or hf with ⟨c2_3, hf⟩ | ⟨c2_3, hf⟩
    · rw [show swT (v1).toInt (3) [76, 87, 98, 121, 148, 175] 199 = 121 by rw [c2_3]; rfl]
      have m5 : ∀ (m5_0 : Int32), m5_0 = (if q1.2.2.1 = (0:Int32) then (-5:Int32) else (q1.2.2.2.2.2.1 + (1000:Int32))) → sxWP sc cl Q 104 (147, [some (.ref 0), some (.int v1)], [.int m5_0], (cW nw kp im (q1.1, q1.2.1, q1.2.2.1, q1.2.2.2.1, q1.2.2.2.2.1, q1.2.2.2.2.2.1, q1.2.2.2.2.2.2.1, q1.2.2.2.2.2.2.2.1, q1.2.2.2.2.2.2.2.2.1, q1.2.2.2.2.2.2.2.2.2.1, q1.2.2.2.2.2.2.2.2.2.2.1, q1.2.2.2.2.2.2.2.2.2.2.2.1, q1.2.2.2.2.2.2.2.2.2.2.2.2.1, q1.2.2.2.2.2.2.2.2.2.2.2.2.2.1, ora_j, q1.2.2.2.2.2.2.2.2.2.2.2.2.2.2.1, q1.2.2.2.2.2.2.2.2.2.2.2.2.2.2.2) sn sr tp (mW mk mg mt mc T)), 0, 0) := by
        intro m5_0 em5_0
        subst em5_0
        obtain rfl := Option.some.inj hf
        refine stp hm 1 ?_
        exact h
      refine stp hm 4 (bs (c := q1.2.2.1 = (0:Int32)) (fun c6 => ?_) (fun c6 => ?_))
      · have c6 : q1.2.2.1 = (0:Int32) := c6
        refine stp hm 1 (?_ : sxWP sc cl Q 104 (147, [some (.ref 0), some (.int v1)], [.int (-5:Int32)], (cW nw kp im (q1.1, q1.2.1, q1.2.2.1, q1.2.2.2.1, q1.2.2.2.2.1, q1.2.2.2.2.2.1, q1.2.2.2.2.2.2.1, q1.2.2.2.2.2.2.2.1, q1.2.2.2.2.2.2.2.2.1, q1.2.2.2.2.2.2.2.2.2.1, q1.2.2.2.2.2.2.2.2.2.2.1, q1.2.2.2.2.2.2.2.2.2.2.2.1, q1.2.2.2.2.2.2.2.2.2.2.2.2.1, q1.2.2.2.2.2.2.2.2.2.2.2.2.2.1, ora_j, q1.2.2.2.2.2.2.2.2.2.2.2.2.2.2.1, q1.2.2.2.2.2.2.2.2.2.2.2.2.2.2.2) sn sr tp (mW mk mg mt mc T)), 0, 0))
        exact m5 _ (by rw [if_pos c6])
      · have c6 : ¬ q1.2.2.1 = (0:Int32) := c6
        refine stp hm 6 (?_ : sxWP sc cl Q 104 (147, [some (.ref 0), some (.int v1)], [.int (q1.2.2.2.2.2.1 + (1000:Int32))], (cW nw kp im (q1.1, q1.2.1, q1.2.2.1, q1.2.2.2.1, q1.2.2.2.2.1, q1.2.2.2.2.2.1, q1.2.2.2.2.2.2.1, q1.2.2.2.2.2.2.2.1, q1.2.2.2.2.2.2.2.2.1, q1.2.2.2.2.2.2.2.2.2.1, q1.2.2.2.2.2.2.2.2.2.2.1, q1.2.2.2.2.2.2.2.2.2.2.2.1, q1.2.2.2.2.2.2.2.2.2.2.2.2.1, q1.2.2.2.2.2.2.2.2.2.2.2.2.2.1, ora_j, q1.2.2.2.2.2.2.2.2.2.2.2.2.2.2.1, q1.2.2.2.2.2.2.2.2.2.2.2.2.2.2.2) sn sr tp (mW mk mg mt mc T)), 0, 0))
        exact m5 _ (by rw [if_neg c6])
    rcases ite_or hf with ⟨c2_4, hf⟩ | ⟨c2_4, hf⟩
    · rw [show swT (v1).toInt (3) [76, 87, 98, 121, 148, 175] 199 = 148 by rw [c2_4]; rfl]
      refine stp hm 4 (br hf (fun c7 hf => ?_) (fun c7 hf => ?_))
      · show sxWP sc cl Q 104 (172, [some (.ref 0), some (.int v1)], [], (cW nw kp im (q1.1, q1.2.1, q1.2.2.1, q1.2.2.2.1, q1.2.2.2.2.1, q1.2.2.2.2.2.1, q1.2.2.2.2.2.2.1, q1.2.2.2.2.2.2.2.1, q1.2.2.2.2.2.2.2.2.1, q1.2.2.2.2.2.2.2.2.2.1, q1.2.2.2.2.2.2.2.2.2.2.1, q1.2.2.2.2.2.2.2.2.2.2.2.1, q1.2.2.2.2.2.2.2.2.2.2.2.2.1, q1.2.2.2.2.2.2.2.2.2.2.2.2.2.1, ora_j, q1.2.2.2.2.2.2.2.2.2.2.2.2.2.2.1, q1.2.2.2.2.2.2.2.2.2.2.2.2.2.2.2) sn sr tp (mW mk mg mt mc T)), 0, 0)
        refine stp hm 1 (?_ : sxWP sc cl Q 104 (174, [some (.ref 0), some (.int v1)], [.int (-5:Int32)], (cW nw kp im (q1.1, q1.2.1, q1.2.2.1, q1.2.2.2.1, q1.2.2.2.2.1, q1.2.2.2.2.2.1, q1.2.2.2.2.2.2.1, q1.2.2.2.2.2.2.2.1, q1.2.2.2.2.2.2.2.2.1, q1.2.2.2.2.2.2.2.2.2.1, q1.2.2.2.2.2.2.2.2.2.2.1, q1.2.2.2.2.2.2.2.2.2.2.2.1, q1.2.2.2.2.2.2.2.2.2.2.2.2.1, q1.2.2.2.2.2.2.2.2.2.2.2.2.2.1, ora_j, q1.2.2.2.2.2.2.2.2.2.2.2.2.2.2.1, q1.2.2.2.2.2.2.2.2.2.2.2.2.2.2.2) sn sr tp (mW mk mg mt mc T)), 0, 0))
        exact J174 _ _ _ _ _ _ _ _ _ _ _ _ _ _ _ _ _ _ _ _ hf
      · show sxWP sc cl Q 104 (158, [some (.ref 0), some (.int v1)], [], (cW nw kp im (q1.1, q1.2.1, q1.2.2.1, q1.2.2.2.1, q1.2.2.2.2.1, q1.2.2.2.2.2.1, q1.2.2.2.2.2.2.1, q1.2.2.2.2.2.2.2.1, q1.2.2.2.2.2.2.2.2.1, q1.2.2.2.2.2.2.2.2.2.1, q1.2.2.2.2.2.2.2.2.2.2.1, q1.2.2.2.2.2.2.2.2.2.2.2.1, q1.2.2.2.2.2.2.2.2.2.2.2.2.1, q1.2.2.2.2.2.2.2.2.2.2.2.2.2.1, ora_j, q1.2.2.2.2.2.2.2.2.2.2.2.2.2.2.1, q1.2.2.2.2.2.2.2.2.2.2.2.2.2.2.2) sn sr tp (mW mk mg mt mc T)), 0, 0)
        obtain ⟨q8, hq8, hf⟩ := bnd hf
        refine stp hm 5 (S_rank_ok hE hq8 ?_)
        show sxWP sc cl Q 104 (169, [some (.ref 0), some (.int v1)], [.int q8.1], (cW nw kp im (q8.2.1, q8.2.2.1, q8.2.2.2.1, q8.2.2.2.2.1, q8.2.2.2.2.2.1, q8.2.2.2.2.2.2.1, q8.2.2.2.2.2.2.2.1, q8.2.2.2.2.2.2.2.2.1, q8.2.2.2.2.2.2.2.2.2.1, q8.2.2.2.2.2.2.2.2.2.2.1, q8.2.2.2.2.2.2.2.2.2.2.2.1, q8.2.2.2.2.2.2.2.2.2.2.2.2.1, q8.2.2.2.2.2.2.2.2.2.2.2.2.2.1, q8.2.2.2.2.2.2.2.2.2.2.2.2.2.2.1, q8.2.2.2.2.2.2.2.2.2.2.2.2.2.2.2.1, q8.2.2.2.2.2.2.2.2.2.2.2.2.2.2.2.2.1, q8.2.2.2.2.2.2.2.2.2.2.2.2.2.2.2.2.2) sn sr tp (mW mk mg mt mc T)), 0, 0)
        refine stp hm 1 (?_ : sxWP sc cl Q 104 (174, [some (.ref 0), some (.int v1)], [.int q8.1], (cW nw kp im (q8.2.1, q8.2.2.1, q8.2.2.2.1, q8.2.2.2.2.1, q8.2.2.2.2.2.1, q8.2.2.2.2.2.2.1, q8.2.2.2.2.2.2.2.1, q8.2.2.2.2.2.2.2.2.1, q8.2.2.2.2.2.2.2.2.2.1, q8.2.2.2.2.2.2.2.2.2.2.1, q8.2.2.2.2.2.2.2.2.2.2.2.1, q8.2.2.2.2.2.2.2.2.2.2.2.2.1, q8.2.2.2.2.2.2.2.2.2.2.2.2.2.1, q8.2.2.2.2.2.2.2.2.2.2.2.2.2.2.1, q8.2.2.2.2.2.2.2.2.2.2.2.2.2.2.2.1, q8.2.2.2.2.2.2.2.2.2.2.2.2.2.2.2.2.1, q8.2.2.2.2.2.2.2.2.2.2.2.2.2.2.2.2.2) sn sr tp (mW mk mg mt mc T)), 0, 0))
        exact J174 _ _ _ _ _ _ _ _ _ _ _ _ _ _ _ _ _ _ _ _ hf
    rcases ite_or hf with ⟨c2_5, hf⟩ | ⟨c2_5, hf⟩
    · rw [show swT (v1).toInt (3) [76, 87, 98, 121, 148, 175] 199 = 175 by rw [c2_5]; rfl]
      refine stp hm 4 (br hf (fun c9 hf => ?_) (fun c9 hf => ?_))
      · show sxWP sc cl Q 104 (196, [some (.ref 0), some (.int v1)], [], (cW nw kp im (q1.1, q1.2.1, q1.2.2.1, q1.2.2.2.1, q1.2.2.2.2.1, q1.2.2.2.2.2.1, q1.2.2.2.2.2.2.1, q1.2.2.2.2.2.2.2.1, q1.2.2.2.2.2.2.2.2.1, q1.2.2.2.2.2.2.2.2.2.1, q1.2.2.2.2.2.2.2.2.2.2.1, q1.2.2.2.2.2.2.2.2.2.2.2.1, q1.2.2.2.2.2.2.2.2.2.2.2.2.1, q1.2.2.2.2.2.2.2.2.2.2.2.2.2.1, ora_j, q1.2.2.2.2.2.2.2.2.2.2.2.2.2.2.1, q1.2.2.2.2.2.2.2.2.2.2.2.2.2.2.2) sn sr tp (mW mk mg mt mc T)), 0, 0)
        refine stp hm 1 (?_ : sxWP sc cl Q 104 (198, [some (.ref 0), some (.int v1)], [.int (-5:Int32)], (cW nw kp im (q1.1, q1.2.1, q1.2.2.1, q1.2.2.2.1, q1.2.2.2.2.1, q1.2.2.2.2.2.1, q1.2.2.2.2.2.2.1, q1.2.2.2.2.2.2.2.1, q1.2.2.2.2.2.2.2.2.1, q1.2.2.2.2.2.2.2.2.2.1, q1.2.2.2.2.2.2.2.2.2.2.1, q1.2.2.2.2.2.2.2.2.2.2.2.1, q1.2.2.2.2.2.2.2.2.2.2.2.2.1, q1.2.2.2.2.2.2.2.2.2.2.2.2.2.1, ora_j, q1.2.2.2.2.2.2.2.2.2.2.2.2.2.2.1, q1.2.2.2.2.2.2.2.2.2.2.2.2.2.2.2) sn sr tp (mW mk mg mt mc T)), 0, 0))
        exact J198 _ _ _ _ _ _ _ _ _ _ _ _ _ _ _ _ _ _ _ _ hf
      · show sxWP sc cl Q 104 (185, [some (.ref 0), some (.int v1)], [], (cW nw kp im (q1.1, q1.2.1, q1.2.2.1, q1.2.2.2.1, q1.2.2.2.2.1, q1.2.2.2.2.2.1, q1.2.2.2.2.2.2.1, q1.2.2.2.2.2.2.2.1, q1.2.2.2.2.2.2.2.2.1, q1.2.2.2.2.2.2.2.2.2.1, q1.2.2.2.2.2.2.2.2.2.2.1, q1.2.2.2.2.2.2.2.2.2.2.2.1, q1.2.2.2.2.2.2.2.2.2.2.2.2.1, q1.2.2.2.2.2.2.2.2.2.2.2.2.2.1, ora_j, q1.2.2.2.2.2.2.2.2.2.2.2.2.2.2.1, q1.2.2.2.2.2.2.2.2.2.2.2.2.2.2.2) sn sr tp (mW mk mg mt mc T)), 0, 0)
        obtain ⟨q10, hq10, hf⟩ := bnd hf
        refine stp hm 4 (O_above_ok hE hq10 ?_)
        show sxWP sc cl Q 104 (193, [some (.ref 0), some (.int v1)], [.int q10], (cW nw kp im (q1.1, q1.2.1, q1.2.2.1, q1.2.2.2.1, q1.2.2.2.2.1, q1.2.2.2.2.2.1, q1.2.2.2.2.2.2.1, q1.2.2.2.2.2.2.2.1, q1.2.2.2.2.2.2.2.2.1, q1.2.2.2.2.2.2.2.2.2.1, q1.2.2.2.2.2.2.2.2.2.2.1, q1.2.2.2.2.2.2.2.2.2.2.2.1, q1.2.2.2.2.2.2.2.2.2.2.2.2.1, q1.2.2.2.2.2.2.2.2.2.2.2.2.2.1, ora_j, q1.2.2.2.2.2.2.2.2.2.2.2.2.2.2.1, q1.2.2.2.2.2.2.2.2.2.2.2.2.2.2.2) sn sr tp (mW mk mg mt mc T)), 0, 0)
        refine stp hm 1 (?_ : sxWP sc cl Q 104 (198, [some (.ref 0), some (.int v1)], [.int q10], (cW nw kp im (q1.1, q1.2.1, q1.2.2.1, q1.2.2.2.1, q1.2.2.2.2.1, q1.2.2.2.2.2.1, q1.2.2.2.2.2.2.1, q1.2.2.2.2.2.2.2.1, q1.2.2.2.2.2.2.2.2.1, q1.2.2.2.2.2.2.2.2.2.1, q1.2.2.2.2.2.2.2.2.2.2.1, q1.2.2.2.2.2.2.2.2.2.2.2.1, q1.2.2.2.2.2.2.2.2.2.2.2.2.1, q1.2.2.2.2.2.2.2.2.2.2.2.2.2.1, ora_j, q1.2.2.2.2.2.2.2.2.2.2.2.2.2.2.1, q1.2.2.2.2.2.2.2.2.2.2.2.2.2.2.2) sn sr tp (mW mk mg mt mc T)), 0, 0))
        exact J198 _ _ _ _ _ _ _ _ _ _ _ _ _ _ _ _ _ _ _ _ hf
    have tc2_0 : ¬ (v1).toInt = 3 := fun e => c2_0 (Int32.toInt_inj.mp e)
    have tc2_1 : ¬ (v1).toInt = 4 := fun e => c2_1 (Int32.toInt_inj.mp e)
    have tc2_2 : ¬ (v1).toInt = 5 := fun e => c2_2 (Int32.toInt_inj.mp e)
    have tc2_3 : ¬ (v1).toInt = 6 := fun e => c2_3 (Int32.toInt_inj.mp e)
    have tc2_4 : ¬ (v1).toInt = 7 := fun e => c2_4 (Int32.toInt_inj.mp e)
    have tc2_5 : ¬ (v1).toInt = 8 := fun e => c2_5 (Int32.toInt_inj.mp e)
    rw [show swT (v1).toInt (3) [76, 87, 98, 121, 148, 175] 199 = 199 by simp [swT, tc2_0, tc2_1, tc2_2, tc2_3, tc2_4, tc2_5]]
    obtain rfl := Option.some.inj hf
    refine stp hm 2 ?_
    exact h
  unfold X_told at hf
  refine stp hm 2 (br hf (fun c11 hf => ?_) (fun c11 hf => ?_))
  · show sxWP sc cl Q 104 (21, [some (.ref 0), some (.int v1)], [], (cW nw kp im ol sn sr tp (mW mk mg mt mc T)), 0, 0)
    exact J21 _ _ _ _ _ _ _ _ _ _ _ _ _ _ _ _ _ _ hf
  · show sxWP sc cl Q 104 (4, [some (.ref 0), some (.int v1)], [], (cW nw kp im ol sn sr tp (mW mk mg mt mc T)), 0, 0)
    refine stp hm 3 (br hf (fun c12 hf => ?_) (fun c12 hf => ?_))
    · show sxWP sc cl Q 104 (21, [some (.ref 0), some (.int v1)], [], (cW nw kp im ol sn sr tp (mW mk mg mt mc T)), 0, 0)
      exact J21 _ _ _ _ _ _ _ _ _ _ _ _ _ _ _ _ _ _ hf
    · show sxWP sc cl Q 104 (9, [some (.ref 0), some (.int v1)], [], (cW nw kp im ol sn sr tp (mW mk mg mt mc T)), 0, 0)
      refine stp hm 5 (G_amount_ok hE rfl ?_)
      show sxWP sc cl Q 104 (20, [some (.ref 0), some (.int v1)], [.int (G_amount nw.1 v1)], (cW nw kp im ol sn sr tp (mW mk mg mt mc T)), 0, 0)
      obtain rfl := Option.some.inj hf
      refine stp hm 1 ?_
      exact h

def M_rankOfGreatest_j46  (v2 : Int32) (k0 : Int32) (k1 : Int32) : Option ((Int32 × Int32) ⊕ Int32) := some (Sum.inl (k0 + k1, v2 + (1:Int32)))
def M_rankOfGreatest_s14   (mrg : Int64) (glo : (Nat → Int32)) (ghi : (Nat → Int32)) (s : (Int32 × Int32)) : Option ((Int32 × Int32) ⊕ Int32) := if (49:Int32) ≤ s.2 then (some (Sum.inr s.1)) else (if (M_isOf s.2 mrg) = (0:Int32) then (M_rankOfGreatest_j46 s.2 s.1 (0:Int32)) else (grd (gi s.2 49) (grd (gi s.2 49) (M_rankOfGreatest_j46 s.2 s.1 ((ghi s.2.toNatClampNeg) - (glo s.2.toNatClampNeg))))))
def M_rankOfGreatest  (mrg : Int64) (gle : Int32) (gsu : Int32) (gma : (Nat → Int32)) (gpi : (Nat → Int32)) (gst : (Nat → Int32)) (ghe : (Nat → Int32)) (gow : (Nat → Int32)) (gfa : (Nat → Int32)) (gqu : (Nat → Int32)) (glo : (Nat → Int32)) (ghi : (Nat → Int32)) : Option (Int32 × Int32 × Int32 × (Nat → Int32) × (Nat → Int32) × (Nat → Int32) × (Nat → Int32) × (Nat → Int32) × (Nat → Int32) × (Nat → Int32) × (Nat → Int32) × (Nat → Int32)) := Option.bind (M_isTilable mrg gle gsu gma gpi gst ghe gow gfa gqu glo ghi) (fun q1 => if q1.1 = (0:Int32) then (some ((-5:Int32), q1.2.1, q1.2.2.1, q1.2.2.2.1, q1.2.2.2.2.1, q1.2.2.2.2.2.1, q1.2.2.2.2.2.2.1, q1.2.2.2.2.2.2.2.1, q1.2.2.2.2.2.2.2.2.1, q1.2.2.2.2.2.2.2.2.2.1, q1.2.2.2.2.2.2.2.2.2.2.1, q1.2.2.2.2.2.2.2.2.2.2.2)) else (Option.bind (wh (M_rankOfGreatest_s14 mrg q1.2.2.2.2.2.2.2.2.2.2.1 q1.2.2.2.2.2.2.2.2.2.2.2) FU ((0:Int32), (0:Int32))) (fun w3 => some (w3 / (4:Int32), q1.2.1, q1.2.2.1, q1.2.2.2.1, q1.2.2.2.2.1, q1.2.2.2.2.2.1, q1.2.2.2.2.2.2.1, q1.2.2.2.2.2.2.2.1, q1.2.2.2.2.2.2.2.2.1, q1.2.2.2.2.2.2.2.2.2.1, q1.2.2.2.2.2.2.2.2.2.2.1, q1.2.2.2.2.2.2.2.2.2.2.2))))
set_option maxRecDepth 10000 in
theorem M_rankOfGreatest_l14    (hE : cl = sxE sc (d + 6)) (hm : CallMono cl) : ∀ (n : Nat) (s : (Int32 × Int32)) (r : Int32), wh (M_rankOfGreatest_s14 mk.1 mg.2.2.2.2.2.2.2.2.2.1 mg.2.2.2.2.2.2.2.2.2.2.1) n s = some r → (∀ (z0 z2 : Option Value), sxWP sc cl Q 177 (54, [z0, some (.int r), z2], [], (cW nw kp im ol sn sr tp (mW mk mg mt mc T)), 0, 0)) → sxWP sc cl Q 177 (14, [some (.ref 59), some (.int s.1), some (.int s.2)], [], (cW nw kp im ol sn sr tp (mW mk mg mt mc T)), 0, 0) := by
  refine wh_run (A := fun (s : (Int32 × Int32)) => sxWP sc cl Q 177 (14, [some (.ref 59), some (.int s.1), some (.int s.2)], [], (cW nw kp im ol sn sr tp (mW mk mg mt mc T)), 0, 0)) (B := fun (r : Int32) => ∀ (z0 z2 : Option Value), sxWP sc cl Q 177 (54, [z0, some (.int r), z2], [], (cW nw kp im ol sn sr tp (mW mk mg mt mc T)), 0, 0)) (fun s x hf hA hB => ?_)
  have J46 : ∀ (v2 : Int32) (k0 : Int32) (k1 : Int32) (z1 : Option Value), M_rankOfGreatest_j46 v2 k0 k1 = some x → sxWP sc cl Q 177 (46, [some (.ref 59), z1, some (.int v2)], [.int k1, .int k0], (cW nw kp im ol sn sr tp (mW mk mg mt mc T)), 0, 0) := by
    intro v2 k0 k1 z1 hf
    unfold M_rankOfGreatest_j46 at hf
    obtain rfl := Option.some.inj hf
    refine stp hm 4 (?_ : sxWP sc cl Q 177 (14, [some (.ref 59), some (.int (k0 + k1)), some (.int (v2 + (1:Int32)))], [], (cW nw kp im ol sn sr tp (mW mk mg mt mc T)), 0, 0))
    exact hA _ rfl
  unfold M_rankOfGreatest_s14 at hf
  refine stp hm 3 (br hf (fun c1 hf => ?_) (fun c1 hf => ?_))
  · show sxWP sc cl Q 177 (54, [some (.ref 59), some (.int s.1), some (.int s.2)], [], (cW nw kp im ol sn sr tp (mW mk mg mt mc T)), 0, 0)
    obtain rfl := Option.some.inj hf
    exact hB _ rfl _ _
  · show sxWP sc cl Q 177 (20, [some (.ref 59), some (.int s.1), some (.int s.2)], [], (cW nw kp im ol sn sr tp (mW mk mg mt mc T)), 0, 0)
    refine stp hm 4 (M_isOf_ok hE rfl ?_)
    show sxWP sc cl Q 177 (26, [some (.ref 59), some (.int s.1), some (.int s.2)], [.int (M_isOf s.2 mk.1), .int s.1], (cW nw kp im ol sn sr tp (mW mk mg mt mc T)), 0, 0)
    refine stp hm 1 (br hf (fun c2 hf => ?_) (fun c2 hf => ?_))
    · show sxWP sc cl Q 177 (45, [some (.ref 59), some (.int s.1), some (.int s.2)], [.int s.1], (cW nw kp im ol sn sr tp (mW mk mg mt mc T)), 0, 0)
      refine stp hm 1 (?_ : sxWP sc cl Q 177 (46, [some (.ref 59), some (.int s.1), some (.int s.2)], [.int (0:Int32), .int s.1], (cW nw kp im ol sn sr tp (mW mk mg mt mc T)), 0, 0))
      exact J46 _ _ _ _ hf
    · show sxWP sc cl Q 177 (29, [some (.ref 59), some (.int s.1), some (.int s.2)], [.int s.1], (cW nw kp im ol sn sr tp (mW mk mg mt mc T)), 0, 0)
      obtain ⟨g3, hf⟩ := grd_e hf
      refine stp hm 4 (And.intro (gi_in g3) (?_ : sxWP sc cl Q 177 (35, [some (.ref 59), some (.int s.1), some (.int s.2)], [.int (mg.2.2.2.2.2.2.2.2.2.2.1 s.2.toNatClampNeg), .int s.1], (cW nw kp im ol sn sr tp (mW mk mg mt mc T)), 0, 0)))
      obtain ⟨g4, hf⟩ := grd_e hf
      refine stp hm 4 (And.intro (gi_in g4) (?_ : sxWP sc cl Q 177 (41, [some (.ref 59), some (.int s.1), some (.int s.2)], [.int (mg.2.2.2.2.2.2.2.2.2.1 s.2.toNatClampNeg), .int (mg.2.2.2.2.2.2.2.2.2.2.1 s.2.toNatClampNeg), .int s.1], (cW nw kp im ol sn sr tp (mW mk mg mt mc T)), 0, 0)))
      refine stp hm 2 (?_ : sxWP sc cl Q 177 (46, [some (.ref 59), some (.int s.1), some (.int s.2)], [.int ((mg.2.2.2.2.2.2.2.2.2.2.1 s.2.toNatClampNeg) - (mg.2.2.2.2.2.2.2.2.2.1 s.2.toNatClampNeg)), .int s.1], (cW nw kp im ol sn sr tp (mW mk mg mt mc T)), 0, 0))
      exact J46 _ _ _ _ hf
set_option maxRecDepth 10000 in
theorem M_rankOfGreatest_ok  {q : (Int32 × Int32 × Int32 × (Nat → Int32) × (Nat → Int32) × (Nat → Int32) × (Nat → Int32) × (Nat → Int32) × (Nat → Int32) × (Nat → Int32) × (Nat → Int32) × (Nat → Int32))} (hc : call = sxE sc (d + 7)) (hf : M_rankOfGreatest mk.1 mg.2.2.1 mg.2.2.2.1 mg.1 mg.2.1 mg.2.2.2.2.1 mg.2.2.2.2.2.1 mg.2.2.2.2.2.2.1 mg.2.2.2.2.2.2.2.1 mg.2.2.2.2.2.2.2.2.1 mg.2.2.2.2.2.2.2.2.2.1 mg.2.2.2.2.2.2.2.2.2.2.1 = some q) (h : Q (some (.int q.1)) (cW nw kp im ol sn sr tp (mW mk (q.2.2.2.1, q.2.2.2.2.1, q.2.1, q.2.2.1, q.2.2.2.2.2.1, q.2.2.2.2.2.2.1, q.2.2.2.2.2.2.2.1, q.2.2.2.2.2.2.2.2.1, q.2.2.2.2.2.2.2.2.2.1, q.2.2.2.2.2.2.2.2.2.2.1, q.2.2.2.2.2.2.2.2.2.2.2, mg.2.2.2.2.2.2.2.2.2.2.2.1, mg.2.2.2.2.2.2.2.2.2.2.2.2) mt mc T))) : call 177 [.ref 59] (cW nw kp im ol sn sr tp (mW mk mg mt mc T)) Q := by
  refine ent hc rfl (fun cl hE hm => ?_)
  unfold M_rankOfGreatest at hf
  obtain ⟨q1, hq1, hf⟩ := bnd hf
  refine stp hm 2 (M_isTilable_ok hE hq1 ?_)
  show sxWP sc cl Q 177 (4, [some (.ref 59), none, none], [.int q1.1], (cW nw kp im ol sn sr tp (mW mk (q1.2.2.2.1, q1.2.2.2.2.1, q1.2.1, q1.2.2.1, q1.2.2.2.2.2.1, q1.2.2.2.2.2.2.1, q1.2.2.2.2.2.2.2.1, q1.2.2.2.2.2.2.2.2.1, q1.2.2.2.2.2.2.2.2.2.1, q1.2.2.2.2.2.2.2.2.2.2.1, q1.2.2.2.2.2.2.2.2.2.2.2, mg.2.2.2.2.2.2.2.2.2.2.2.1, mg.2.2.2.2.2.2.2.2.2.2.2.2) mt mc T)), 0, 0)
  refine stp hm 1 (brn hf (fun c2 hf => ?_) (fun c2 hf => ?_))
  · show sxWP sc cl Q 177 (10, [some (.ref 59), none, none], [], (cW nw kp im ol sn sr tp (mW mk (q1.2.2.2.1, q1.2.2.2.2.1, q1.2.1, q1.2.2.1, q1.2.2.2.2.2.1, q1.2.2.2.2.2.2.1, q1.2.2.2.2.2.2.2.1, q1.2.2.2.2.2.2.2.2.1, q1.2.2.2.2.2.2.2.2.2.1, q1.2.2.2.2.2.2.2.2.2.2.1, q1.2.2.2.2.2.2.2.2.2.2.2, mg.2.2.2.2.2.2.2.2.2.2.2.1, mg.2.2.2.2.2.2.2.2.2.2.2.2) mt mc T)), 0, 0)
    obtain ⟨w3, hw3, hf⟩ := bnd hf
    refine stp hm 4 (?_ : sxWP sc cl Q 177 (14, [some (.ref 59), some (.int (0:Int32)), some (.int (0:Int32))], [], (cW nw kp im ol sn sr tp (mW mk (q1.2.2.2.1, q1.2.2.2.2.1, q1.2.1, q1.2.2.1, q1.2.2.2.2.2.1, q1.2.2.2.2.2.2.1, q1.2.2.2.2.2.2.2.1, q1.2.2.2.2.2.2.2.2.1, q1.2.2.2.2.2.2.2.2.2.1, q1.2.2.2.2.2.2.2.2.2.2.1, q1.2.2.2.2.2.2.2.2.2.2.2, mg.2.2.2.2.2.2.2.2.2.2.2.1, mg.2.2.2.2.2.2.2.2.2.2.2.2) mt mc T)), 0, 0))
    refine M_rankOfGreatest_l14 hE hm _ _ _ hw3 ?_
    intro w3_z0 w3_z2
    show sxWP sc cl Q 177 (54, [w3_z0, some (.int w3), w3_z2], [], (cW nw kp im ol sn sr tp (mW mk (q1.2.2.2.1, q1.2.2.2.2.1, q1.2.1, q1.2.2.1, q1.2.2.2.2.2.1, q1.2.2.2.2.2.2.1, q1.2.2.2.2.2.2.2.1, q1.2.2.2.2.2.2.2.2.1, q1.2.2.2.2.2.2.2.2.2.1, q1.2.2.2.2.2.2.2.2.2.2.1, q1.2.2.2.2.2.2.2.2.2.2.2, mg.2.2.2.2.2.2.2.2.2.2.2.1, mg.2.2.2.2.2.2.2.2.2.2.2.2) mt mc T)), 0, 0)
    refine stp hm 3 (And.intro (by decide) (?_ : sxWP sc cl Q 177 (57, [w3_z0, some (.int w3), w3_z2], [.int (w3 / (4:Int32))], (cW nw kp im ol sn sr tp (mW mk (q1.2.2.2.1, q1.2.2.2.2.1, q1.2.1, q1.2.2.1, q1.2.2.2.2.2.1, q1.2.2.2.2.2.2.1, q1.2.2.2.2.2.2.2.1, q1.2.2.2.2.2.2.2.2.1, q1.2.2.2.2.2.2.2.2.2.1, q1.2.2.2.2.2.2.2.2.2.2.1, q1.2.2.2.2.2.2.2.2.2.2.2, mg.2.2.2.2.2.2.2.2.2.2.2.1, mg.2.2.2.2.2.2.2.2.2.2.2.2) mt mc T)), 0, 0)))
    obtain rfl := Option.some.inj hf
    refine stp hm 1 ?_
    exact h
  · show sxWP sc cl Q 177 (7, [some (.ref 59), none, none], [], (cW nw kp im ol sn sr tp (mW mk (q1.2.2.2.1, q1.2.2.2.2.1, q1.2.1, q1.2.2.1, q1.2.2.2.2.2.1, q1.2.2.2.2.2.2.1, q1.2.2.2.2.2.2.2.1, q1.2.2.2.2.2.2.2.2.1, q1.2.2.2.2.2.2.2.2.2.1, q1.2.2.2.2.2.2.2.2.2.2.1, q1.2.2.2.2.2.2.2.2.2.2.2, mg.2.2.2.2.2.2.2.2.2.2.2.1, mg.2.2.2.2.2.2.2.2.2.2.2.2) mt mc T)), 0, 0)
    obtain rfl := Option.some.inj hf
    refine stp hm 2 ?_
    exact h
end PT
