/-! methods as functions (printed by wip/whole/dec) -/
section PT
variable {sc : sxS} {d : Nat} {Q : sxR} {hp : sxH} {call cl : sxX} {nw kp : tSt} {im : Int32} {ol : tOl} {sn : tSn} {sr : tSc} {tp : Nat → tTp} {mk : tMk} {mg : tMg} {mt : tMt} {mc : tMc} {T : sxH}

def M_turn_j167  (v4 : Int32) (v5 : Int32) (v6 : Int32) (gle_j : Int32) (gsu_j : Int32) (ms_j : (Nat → Int32)) (gma_j : (Nat → Int32)) (gpi_j : (Nat → Int32)) (gst_j : (Nat → Int32)) (ghe_j : (Nat → Int32)) (gow_j : (Nat → Int32)) (gfa_j : (Nat → Int32)) (gqu_j : (Nat → Int32)) (glo_j : (Nat → Int32)) (ghi_j : (Nat → Int32)) (gby_j : (Nat → Int32)) (gib_j : (Nat → Int32)) (mrg : Int64) : Option (Int32 × Int32 × Int32 × (Nat → Int32) × (Nat → Int32) × (Nat → Int32) × (Nat → Int32) × (Nat → Int32) × (Nat → Int32) × (Nat → Int32) × (Nat → Int32) × (Nat → Int32) × (Nat → Int32) × (Nat → Int32) × (Nat → Int32)) := grd (gi ((6:Int32) + v4) 122) (grd (gi ((6:Int32) + (if v6 = (0:Int32) then (v4 + (1:Int32)) else (v4 + (6:Int32)))) 122) (grd (gi ((6:Int32) + (if v6 = (0:Int32) then (v4 + (6:Int32)) else (v4 + (1:Int32)))) 122) (grd (gi ((6:Int32) + v5) 122) (Option.bind (M_rank mrg gle_j gsu_j (upd (upd (upd (upd ms_j ((6:Int32) + v4).toNatClampNeg (if v6 = (0:Int32) then (v4 + (1:Int32)) else (v4 + (6:Int32)))) ((6:Int32) + (if v6 = (0:Int32) then (v4 + (1:Int32)) else (v4 + (6:Int32)))).toNatClampNeg v4) ((6:Int32) + (if v6 = (0:Int32) then (v4 + (6:Int32)) else (v4 + (1:Int32)))).toNatClampNeg v5) ((6:Int32) + v5).toNatClampNeg (if v6 = (0:Int32) then (v4 + (6:Int32)) else (v4 + (1:Int32)))) gma_j gpi_j gst_j ghe_j gow_j gfa_j gqu_j glo_j ghi_j gby_j gib_j) (fun q7 => some (q7.1, q7.2.1, q7.2.2.1, upd (upd (upd (upd ms_j ((6:Int32) + v4).toNatClampNeg (if v6 = (0:Int32) then (v4 + (1:Int32)) else (v4 + (6:Int32)))) ((6:Int32) + (if v6 = (0:Int32) then (v4 + (1:Int32)) else (v4 + (6:Int32)))).toNatClampNeg v4) ((6:Int32) + (if v6 = (0:Int32) then (v4 + (6:Int32)) else (v4 + (1:Int32)))).toNatClampNeg v5) ((6:Int32) + v5).toNatClampNeg (if v6 = (0:Int32) then (v4 + (6:Int32)) else (v4 + (1:Int32))), q7.2.2.2.1, q7.2.2.2.2.1, q7.2.2.2.2.2.1, q7.2.2.2.2.2.2.1, q7.2.2.2.2.2.2.2.1, q7.2.2.2.2.2.2.2.2.1, q7.2.2.2.2.2.2.2.2.2.1, q7.2.2.2.2.2.2.2.2.2.2.1, q7.2.2.2.2.2.2.2.2.2.2.2.1, q7.2.2.2.2.2.2.2.2.2.2.2.2.1, q7.2.2.2.2.2.2.2.2.2.2.2.2.2))))))
def M_turn_j152  (v4 : Int32) (v5 : Int32) (v6 : Int32) (k0 : Int32) (gle_j : Int32) (gsu_j : Int32) (ms_j : (Nat → Int32)) (gma_j : (Nat → Int32)) (gpi_j : (Nat → Int32)) (gst_j : (Nat → Int32)) (ghe_j : (Nat → Int32)) (gow_j : (Nat → Int32)) (gfa_j : (Nat → Int32)) (gqu_j : (Nat → Int32)) (glo_j : (Nat → Int32)) (ghi_j : (Nat → Int32)) (gby_j : (Nat → Int32)) (gib_j : (Nat → Int32)) (mrg : Int64) : Option (Int32 × Int32 × Int32 × (Nat → Int32) × (Nat → Int32) × (Nat → Int32) × (Nat → Int32) × (Nat → Int32) × (Nat → Int32) × (Nat → Int32) × (Nat → Int32) × (Nat → Int32) × (Nat → Int32) × (Nat → Int32) × (Nat → Int32)) := if v6 = (0:Int32) then (if k0 = (0:Int32) then (some ((-3:Int32), gle_j, gsu_j, ms_j, gma_j, gpi_j, gst_j, ghe_j, gow_j, gfa_j, gqu_j, glo_j, ghi_j, gby_j, gib_j)) else (M_turn_j167 v4 v5 v6 gle_j gsu_j ms_j gma_j gpi_j gst_j ghe_j gow_j gfa_j gqu_j glo_j ghi_j gby_j gib_j mrg)) else (M_turn_j167 v4 v5 v6 gle_j gsu_j ms_j gma_j gpi_j gst_j ghe_j gow_j gfa_j gqu_j glo_j ghi_j gby_j gib_j mrg)
def M_turn_j151  (v4 : Int32) (v5 : Int32) (v6 : Int32) (gle_j : Int32) (gsu_j : Int32) (ms_j : (Nat → Int32)) (gma_j : (Nat → Int32)) (gpi_j : (Nat → Int32)) (gst_j : (Nat → Int32)) (ghe_j : (Nat → Int32)) (gow_j : (Nat → Int32)) (gfa_j : (Nat → Int32)) (gqu_j : (Nat → Int32)) (glo_j : (Nat → Int32)) (ghi_j : (Nat → Int32)) (gby_j : (Nat → Int32)) (gib_j : (Nat → Int32)) (mrg : Int64) : Option (Int32 × Int32 × Int32 × (Nat → Int32) × (Nat → Int32) × (Nat → Int32) × (Nat → Int32) × (Nat → Int32) × (Nat → Int32) × (Nat → Int32) × (Nat → Int32) × (Nat → Int32) × (Nat → Int32) × (Nat → Int32) × (Nat → Int32)) := M_turn_j152 v4 v5 v6 (0:Int32) gle_j gsu_j ms_j gma_j gpi_j gst_j ghe_j gow_j gfa_j gqu_j glo_j ghi_j gby_j gib_j mrg
def M_turn_j109  (v4 : Int32) (v5 : Int32) (k0 : Int32) (gle_j : Int32) (gsu_j : Int32) (ms_j : (Nat → Int32)) (gma_j : (Nat → Int32)) (gpi_j : (Nat → Int32)) (gst_j : (Nat → Int32)) (ghe_j : (Nat → Int32)) (gow_j : (Nat → Int32)) (gfa_j : (Nat → Int32)) (gqu_j : (Nat → Int32)) (glo_j : (Nat → Int32)) (ghi_j : (Nat → Int32)) (gby_j : (Nat → Int32)) (gib_j : (Nat → Int32)) (mrg : Int64) : Option (Int32 × Int32 × Int32 × (Nat → Int32) × (Nat → Int32) × (Nat → Int32) × (Nat → Int32) × (Nat → Int32) × (Nat → Int32) × (Nat → Int32) × (Nat → Int32) × (Nat → Int32) × (Nat → Int32) × (Nat → Int32) × (Nat → Int32)) := grd (gi ((6:Int32) + v4) 122) (if (ms_j ((6:Int32) + v4).toNatClampNeg) = (v4 + (6:Int32)) then (grd (gi ((6:Int32) + v5) 122) (if k0 = (0:Int32) then (if (if (ms_j ((6:Int32) + v5).toNatClampNeg) = (v5 - (6:Int32)) then (1:Int32) else (0:Int32)) = (0:Int32) then (some ((-3:Int32), gle_j, gsu_j, ms_j, gma_j, gpi_j, gst_j, ghe_j, gow_j, gfa_j, gqu_j, glo_j, ghi_j, gby_j, gib_j)) else (M_turn_j167 v4 v5 k0 gle_j gsu_j ms_j gma_j gpi_j gst_j ghe_j gow_j gfa_j gqu_j glo_j ghi_j gby_j gib_j mrg)) else (M_turn_j167 v4 v5 k0 gle_j gsu_j ms_j gma_j gpi_j gst_j ghe_j gow_j gfa_j gqu_j glo_j ghi_j gby_j gib_j mrg))) else (M_turn_j151 v4 v5 k0 gle_j gsu_j ms_j gma_j gpi_j gst_j ghe_j gow_j gfa_j gqu_j glo_j ghi_j gby_j gib_j mrg))
def M_turn_j108  (v4 : Int32) (v5 : Int32) (gle_j : Int32) (gsu_j : Int32) (ms_j : (Nat → Int32)) (gma_j : (Nat → Int32)) (gpi_j : (Nat → Int32)) (gst_j : (Nat → Int32)) (ghe_j : (Nat → Int32)) (gow_j : (Nat → Int32)) (gfa_j : (Nat → Int32)) (gqu_j : (Nat → Int32)) (glo_j : (Nat → Int32)) (ghi_j : (Nat → Int32)) (gby_j : (Nat → Int32)) (gib_j : (Nat → Int32)) (mrg : Int64) : Option (Int32 × Int32 × Int32 × (Nat → Int32) × (Nat → Int32) × (Nat → Int32) × (Nat → Int32) × (Nat → Int32) × (Nat → Int32) × (Nat → Int32) × (Nat → Int32) × (Nat → Int32) × (Nat → Int32) × (Nat → Int32) × (Nat → Int32)) := M_turn_j109 v4 v5 (0:Int32) gle_j gsu_j ms_j gma_j gpi_j gst_j ghe_j gow_j gfa_j gqu_j glo_j ghi_j gby_j gib_j mrg
def M_turn_j46  (gle_j : Int32) (gsu_j : Int32) (ms_j : (Nat → Int32)) (gma_j : (Nat → Int32)) (gpi_j : (Nat → Int32)) (gst_j : (Nat → Int32)) (ghe_j : (Nat → Int32)) (gow_j : (Nat → Int32)) (gfa_j : (Nat → Int32)) (gqu_j : (Nat → Int32)) (glo_j : (Nat → Int32)) (ghi_j : (Nat → Int32)) (gby_j : (Nat → Int32)) (gib_j : (Nat → Int32)) : Option (Int32 × Int32 × Int32 × (Nat → Int32) × (Nat → Int32) × (Nat → Int32) × (Nat → Int32) × (Nat → Int32) × (Nat → Int32) × (Nat → Int32) × (Nat → Int32) × (Nat → Int32) × (Nat → Int32) × (Nat → Int32) × (Nat → Int32)) := some ((-3:Int32), gle_j, gsu_j, ms_j, gma_j, gpi_j, gst_j, ghe_j, gow_j, gfa_j, gqu_j, glo_j, ghi_j, gby_j, gib_j)
def M_turn (v1 : Int32) (mrg : Int64) (gle : Int32) (gsu : Int32) (ms : (Nat → Int32)) (gma : (Nat → Int32)) (gpi : (Nat → Int32)) (gst : (Nat → Int32)) (ghe : (Nat → Int32)) (gow : (Nat → Int32)) (gfa : (Nat → Int32)) (gqu : (Nat → Int32)) (glo : (Nat → Int32)) (ghi : (Nat → Int32)) (gby : (Nat → Int32)) (gib : (Nat → Int32)) : Option (Int32 × Int32 × Int32 × (Nat → Int32) × (Nat → Int32) × (Nat → Int32) × (Nat → Int32) × (Nat → Int32) × (Nat → Int32) × (Nat → Int32) × (Nat → Int32) × (Nat → Int32) × (Nat → Int32) × (Nat → Int32) × (Nat → Int32)) := if (M_isVertex v1) = (0:Int32) then (some ((-1:Int32), gle, gsu, ms, gma, gpi, gst, ghe, gow, gfa, gqu, glo, ghi, gby, gib)) else (grd (gi (0:Int32) 122) (if (ms (0:Int32).toNatClampNeg) = (0:Int32) then (M_turn_j46 gle gsu ms gma gpi gst ghe gow gfa gqu glo ghi gby gib) else (if (M_isIn (v1 / (7:Int32)) (1:Int32) (5:Int32)) = (0:Int32) then (M_turn_j46 gle gsu ms gma gpi gst ghe gow gfa gqu glo ghi gby gib) else (if (M_isIn (v1 - v1 / (7:Int32) * (7:Int32)) (1:Int32) (5:Int32)) = (0:Int32) then (M_turn_j46 gle gsu ms gma gpi gst ghe gow gfa gqu glo ghi gby gib) else (grd (gi ((6:Int32) + ((((6:Int32) * ((v1 / (7:Int32)) - (1:Int32))) + (v1 - v1 / (7:Int32) * (7:Int32))) - (1:Int32))) 122) (if (ms ((6:Int32) + ((((6:Int32) * ((v1 / (7:Int32)) - (1:Int32))) + (v1 - v1 / (7:Int32) * (7:Int32))) - (1:Int32))).toNatClampNeg) = (((((6:Int32) * ((v1 / (7:Int32)) - (1:Int32))) + (v1 - v1 / (7:Int32) * (7:Int32))) - (1:Int32)) + (1:Int32)) then (grd (gi ((6:Int32) + ((((((6:Int32) * ((v1 / (7:Int32)) - (1:Int32))) + (v1 - v1 / (7:Int32) * (7:Int32))) - (1:Int32)) + (6:Int32)) + (1:Int32))) 122) (grd (gi ((6:Int32) + ((((6:Int32) * ((v1 / (7:Int32)) - (1:Int32))) + (v1 - v1 / (7:Int32) * (7:Int32))) - (1:Int32))) 122) (if (ms ((6:Int32) + ((((6:Int32) * ((v1 / (7:Int32)) - (1:Int32))) + (v1 - v1 / (7:Int32) * (7:Int32))) - (1:Int32))).toNatClampNeg) = (((((6:Int32) * ((v1 / (7:Int32)) - (1:Int32))) + (v1 - v1 / (7:Int32) * (7:Int32))) - (1:Int32)) + (6:Int32)) then (grd (gi ((6:Int32) + ((((((6:Int32) * ((v1 / (7:Int32)) - (1:Int32))) + (v1 - v1 / (7:Int32) * (7:Int32))) - (1:Int32)) + (6:Int32)) + (1:Int32))) 122) (if (if (ms ((6:Int32) + ((((((6:Int32) * ((v1 / (7:Int32)) - (1:Int32))) + (v1 - v1 / (7:Int32) * (7:Int32))) - (1:Int32)) + (6:Int32)) + (1:Int32))).toNatClampNeg) = (((((((6:Int32) * ((v1 / (7:Int32)) - (1:Int32))) + (v1 - v1 / (7:Int32) * (7:Int32))) - (1:Int32)) + (6:Int32)) + (1:Int32)) - (1:Int32)) then (1:Int32) else (0:Int32)) = (0:Int32) then (if (if (ms ((6:Int32) + ((((((6:Int32) * ((v1 / (7:Int32)) - (1:Int32))) + (v1 - v1 / (7:Int32) * (7:Int32))) - (1:Int32)) + (6:Int32)) + (1:Int32))).toNatClampNeg) = (((((((6:Int32) * ((v1 / (7:Int32)) - (1:Int32))) + (v1 - v1 / (7:Int32) * (7:Int32))) - (1:Int32)) + (6:Int32)) + (1:Int32)) - (6:Int32)) then (1:Int32) else (0:Int32)) = (0:Int32) then (some ((-3:Int32), gle, gsu, ms, gma, gpi, gst, ghe, gow, gfa, gqu, glo, ghi, gby, gib)) else (M_turn_j167 ((((6:Int32) * ((v1 / (7:Int32)) - (1:Int32))) + (v1 - v1 / (7:Int32) * (7:Int32))) - (1:Int32)) ((((((6:Int32) * ((v1 / (7:Int32)) - (1:Int32))) + (v1 - v1 / (7:Int32) * (7:Int32))) - (1:Int32)) + (6:Int32)) + (1:Int32)) (if (ms ((6:Int32) + ((((((6:Int32) * ((v1 / (7:Int32)) - (1:Int32))) + (v1 - v1 / (7:Int32) * (7:Int32))) - (1:Int32)) + (6:Int32)) + (1:Int32))).toNatClampNeg) = (((((((6:Int32) * ((v1 / (7:Int32)) - (1:Int32))) + (v1 - v1 / (7:Int32) * (7:Int32))) - (1:Int32)) + (6:Int32)) + (1:Int32)) - (1:Int32)) then (1:Int32) else (0:Int32)) gle gsu ms gma gpi gst ghe gow gfa gqu glo ghi gby gib mrg)) else (M_turn_j167 ((((6:Int32) * ((v1 / (7:Int32)) - (1:Int32))) + (v1 - v1 / (7:Int32) * (7:Int32))) - (1:Int32)) ((((((6:Int32) * ((v1 / (7:Int32)) - (1:Int32))) + (v1 - v1 / (7:Int32) * (7:Int32))) - (1:Int32)) + (6:Int32)) + (1:Int32)) (if (ms ((6:Int32) + ((((((6:Int32) * ((v1 / (7:Int32)) - (1:Int32))) + (v1 - v1 / (7:Int32) * (7:Int32))) - (1:Int32)) + (6:Int32)) + (1:Int32))).toNatClampNeg) = (((((((6:Int32) * ((v1 / (7:Int32)) - (1:Int32))) + (v1 - v1 / (7:Int32) * (7:Int32))) - (1:Int32)) + (6:Int32)) + (1:Int32)) - (1:Int32)) then (1:Int32) else (0:Int32)) gle gsu ms gma gpi gst ghe gow gfa gqu glo ghi gby gib mrg))) else (M_turn_j151 ((((6:Int32) * ((v1 / (7:Int32)) - (1:Int32))) + (v1 - v1 / (7:Int32) * (7:Int32))) - (1:Int32)) ((((((6:Int32) * ((v1 / (7:Int32)) - (1:Int32))) + (v1 - v1 / (7:Int32) * (7:Int32))) - (1:Int32)) + (6:Int32)) + (1:Int32)) (if (ms ((6:Int32) + ((((((6:Int32) * ((v1 / (7:Int32)) - (1:Int32))) + (v1 - v1 / (7:Int32) * (7:Int32))) - (1:Int32)) + (6:Int32)) + (1:Int32))).toNatClampNeg) = (((((((6:Int32) * ((v1 / (7:Int32)) - (1:Int32))) + (v1 - v1 / (7:Int32) * (7:Int32))) - (1:Int32)) + (6:Int32)) + (1:Int32)) - (1:Int32)) then (1:Int32) else (0:Int32)) gle gsu ms gma gpi gst ghe gow gfa gqu glo ghi gby gib mrg)))) else (M_turn_j108 ((((6:Int32) * ((v1 / (7:Int32)) - (1:Int32))) + (v1 - v1 / (7:Int32) * (7:Int32))) - (1:Int32)) ((((((6:Int32) * ((v1 / (7:Int32)) - (1:Int32))) + (v1 - v1 / (7:Int32) * (7:Int32))) - (1:Int32)) + (6:Int32)) + (1:Int32)) gle gsu ms gma gpi gst ghe gow gfa gqu glo ghi gby gib mrg)))))))
set_option maxRecDepth 10000 in
theorem M_turn_ok {v1 : Int32} {q : (Int32 × Int32 × Int32 × (Nat → Int32) × (Nat → Int32) × (Nat → Int32) × (Nat → Int32) × (Nat → Int32) × (Nat → Int32) × (Nat → Int32) × (Nat → Int32) × (Nat → Int32) × (Nat → Int32) × (Nat → Int32) × (Nat → Int32))} (hc : call = sxE sc (d + 8)) (hf : M_turn v1 mk.1 mg.2.2.1 mg.2.2.2.1 mk.2.2.1 mg.1 mg.2.1 mg.2.2.2.2.1 mg.2.2.2.2.2.1 mg.2.2.2.2.2.2.1 mg.2.2.2.2.2.2.2.1 mg.2.2.2.2.2.2.2.2.1 mg.2.2.2.2.2.2.2.2.2.1 mg.2.2.2.2.2.2.2.2.2.2.1 mg.2.2.2.2.2.2.2.2.2.2.2.1 mg.2.2.2.2.2.2.2.2.2.2.2.2 = some q) (h : Q (some (.int q.1)) (cW nw kp im ol sn sr tp (mW (mk.1, mk.2.1, q.2.2.2.1, mk.2.2.2.1, mk.2.2.2.2.1, mk.2.2.2.2.2.1, mk.2.2.2.2.2.2.1, mk.2.2.2.2.2.2.2.1, mk.2.2.2.2.2.2.2.2.1, mk.2.2.2.2.2.2.2.2.2) (q.2.2.2.2.1, q.2.2.2.2.2.1, q.2.1, q.2.2.1, q.2.2.2.2.2.2.1, q.2.2.2.2.2.2.2.1, q.2.2.2.2.2.2.2.2.1, q.2.2.2.2.2.2.2.2.2.1, q.2.2.2.2.2.2.2.2.2.2.1, q.2.2.2.2.2.2.2.2.2.2.2.1, q.2.2.2.2.2.2.2.2.2.2.2.2.1, q.2.2.2.2.2.2.2.2.2.2.2.2.2.1, q.2.2.2.2.2.2.2.2.2.2.2.2.2.2) mt mc T))) : call 179 [.ref 59, .int v1] (cW nw kp im ol sn sr tp (mW mk mg mt mc T)) Q := by
  refine ent hc rfl (fun cl hE hm => ?_)
  have J167 : ∀ (v4 : Int32) (v5 : Int32) (v6 : Int32) (gle_j : Int32) (gsu_j : Int32) (ms_j : (Nat → Int32)) (gma_j : (Nat → Int32)) (gpi_j : (Nat → Int32)) (gst_j : (Nat → Int32)) (ghe_j : (Nat → Int32)) (gow_j : (Nat → Int32)) (gfa_j : (Nat → Int32)) (gqu_j : (Nat → Int32)) (glo_j : (Nat → Int32)) (ghi_j : (Nat → Int32)) (gby_j : (Nat → Int32)) (gib_j : (Nat → Int32)) (z1 : Option Value) (z2 : Option Value) (z3 : Option Value) (z7 : Option Value) (z8 : Option Value) (z9 : Option Value), M_turn_j167 v4 v5 v6 gle_j gsu_j ms_j gma_j gpi_j gst_j ghe_j gow_j gfa_j gqu_j glo_j ghi_j gby_j gib_j mk.1 = some q → sxWP sc cl Q 179 (167, [some (.ref 59), z1, z2, z3, some (.int v4), some (.int v5), some (.int v6), z7, z8, z9], [], (cW nw kp im ol sn sr tp (mW (mk.1, mk.2.1, ms_j, mk.2.2.2.1, mk.2.2.2.2.1, mk.2.2.2.2.2.1, mk.2.2.2.2.2.2.1, mk.2.2.2.2.2.2.2.1, mk.2.2.2.2.2.2.2.2.1, mk.2.2.2.2.2.2.2.2.2) (gma_j, gpi_j, gle_j, gsu_j, gst_j, ghe_j, gow_j, gfa_j, gqu_j, glo_j, ghi_j, gby_j, gib_j) mt mc T)), 0, 0) := by
    intro v4 v5 v6 gle_j gsu_j ms_j gma_j gpi_j gst_j ghe_j gow_j gfa_j gqu_j glo_j ghi_j gby_j gib_j z1 z2 z3 z7 z8 z9 hf
    unfold M_turn_j167 at hf
    have m1 : ∀ (m1_0 : Int32), m1_0 = (if v6 = (0:Int32) then (v4 + (1:Int32)) else (v4 + (6:Int32))) → sxWP sc cl Q 179 (184, [some (.ref 59), z1, z2, z3, some (.int v4), some (.int v5), some (.int v6), z7, z8, z9], [.int m1_0], (cW nw kp im ol sn sr tp (mW (mk.1, mk.2.1, ms_j, mk.2.2.2.1, mk.2.2.2.2.1, mk.2.2.2.2.2.1, mk.2.2.2.2.2.2.1, mk.2.2.2.2.2.2.2.1, mk.2.2.2.2.2.2.2.2.1, mk.2.2.2.2.2.2.2.2.2) (gma_j, gpi_j, gle_j, gsu_j, gst_j, ghe_j, gow_j, gfa_j, gqu_j, glo_j, ghi_j, gby_j, gib_j) mt mc T)), 0, 0) := by
      intro m1_0 em1_0
      subst em1_0
      have m2 : ∀ (m2_0 : Int32), m2_0 = (if v6 = (0:Int32) then (v4 + (6:Int32)) else (v4 + (1:Int32))) → sxWP sc cl Q 179 (203, [some (.ref 59), z1, z2, z3, some (.int v4), some (.int v5), some (.int v6), (sxc2 z7), some (.int (if v6 = (0:Int32) then (v4 + (1:Int32)) else (v4 + (6:Int32)))), z9], [.int m2_0], (cW nw kp im ol sn sr tp (mW (mk.1, mk.2.1, ms_j, mk.2.2.2.1, mk.2.2.2.2.1, mk.2.2.2.2.2.1, mk.2.2.2.2.2.2.1, mk.2.2.2.2.2.2.2.1, mk.2.2.2.2.2.2.2.2.1, mk.2.2.2.2.2.2.2.2.2) (gma_j, gpi_j, gle_j, gsu_j, gst_j, ghe_j, gow_j, gfa_j, gqu_j, glo_j, ghi_j, gby_j, gib_j) mt mc T)), 0, 0) := by
        intro m2_0 em2_0
        subst em2_0
        obtain ⟨g3, hf⟩ := grd_e hf
        refine stp hm 8 (And.intro (gi_in g3) (?_ : sxWP sc cl Q 179 (217, [some (.ref 59), z1, z2, z3, some (.int v4), some (.int v5), some (.int v6), (sxc2 z7), some (.int (if v6 = (0:Int32) then (v4 + (1:Int32)) else (v4 + (6:Int32)))), some (.int (if v6 = (0:Int32) then (v4 + (6:Int32)) else (v4 + (1:Int32))))], [], (cW nw kp im ol sn sr tp (mW (mk.1, mk.2.1, upd ms_j ((6:Int32) + v4).toNatClampNeg (if v6 = (0:Int32) then (v4 + (1:Int32)) else (v4 + (6:Int32))), mk.2.2.2.1, mk.2.2.2.2.1, mk.2.2.2.2.2.1, mk.2.2.2.2.2.2.1, mk.2.2.2.2.2.2.2.1, mk.2.2.2.2.2.2.2.2.1, mk.2.2.2.2.2.2.2.2.2) (gma_j, gpi_j, gle_j, gsu_j, gst_j, ghe_j, gow_j, gfa_j, gqu_j, glo_j, ghi_j, gby_j, gib_j) mt mc T)), 0, 0)))
        obtain ⟨g4, hf⟩ := grd_e hf
        refine stp hm 7 (And.intro (gi_in g4) (?_ : sxWP sc cl Q 179 (229, [some (.ref 59), z1, z2, z3, some (.int v4), some (.int v5), some (.int v6), (sxc2 z7), some (.int (if v6 = (0:Int32) then (v4 + (1:Int32)) else (v4 + (6:Int32)))), some (.int (if v6 = (0:Int32) then (v4 + (6:Int32)) else (v4 + (1:Int32))))], [], (cW nw kp im ol sn sr tp (mW (mk.1, mk.2.1, upd (upd ms_j ((6:Int32) + v4).toNatClampNeg (if v6 = (0:Int32) then (v4 + (1:Int32)) else (v4 + (6:Int32)))) ((6:Int32) + (if v6 = (0:Int32) then (v4 + (1:Int32)) else (v4 + (6:Int32)))).toNatClampNeg v4, mk.2.2.2.1, mk.2.2.2.2.1, mk.2.2.2.2.2.1, mk.2.2.2.2.2.2.1, mk.2.2.2.2.2.2.2.1, mk.2.2.2.2.2.2.2.2.1, mk.2.2.2.2.2.2.2.2.2) (gma_j, gpi_j, gle_j, gsu_j, gst_j, ghe_j, gow_j, gfa_j, gqu_j, glo_j, ghi_j, gby_j, gib_j) mt mc T)), 0, 0)))
        obtain ⟨g5, hf⟩ := grd_e hf
        refine stp hm 7 (And.intro (gi_in g5) (?_ : sxWP sc cl Q 179 (241, [some (.ref 59), z1, z2, z3, some (.int v4), some (.int v5), some (.int v6), (sxc2 z7), some (.int (if v6 = (0:Int32) then (v4 + (1:Int32)) else (v4 + (6:Int32)))), some (.int (if v6 = (0:Int32) then (v4 + (6:Int32)) else (v4 + (1:Int32))))], [], (cW nw kp im ol sn sr tp (mW (mk.1, mk.2.1, upd (upd (upd ms_j ((6:Int32) + v4).toNatClampNeg (if v6 = (0:Int32) then (v4 + (1:Int32)) else (v4 + (6:Int32)))) ((6:Int32) + (if v6 = (0:Int32) then (v4 + (1:Int32)) else (v4 + (6:Int32)))).toNatClampNeg v4) ((6:Int32) + (if v6 = (0:Int32) then (v4 + (6:Int32)) else (v4 + (1:Int32)))).toNatClampNeg v5, mk.2.2.2.1, mk.2.2.2.2.1, mk.2.2.2.2.2.1, mk.2.2.2.2.2.2.1, mk.2.2.2.2.2.2.2.1, mk.2.2.2.2.2.2.2.2.1, mk.2.2.2.2.2.2.2.2.2) (gma_j, gpi_j, gle_j, gsu_j, gst_j, ghe_j, gow_j, gfa_j, gqu_j, glo_j, ghi_j, gby_j, gib_j) mt mc T)), 0, 0)))
        obtain ⟨g6, hf⟩ := grd_e hf
        refine stp hm 7 (And.intro (gi_in g6) (?_ : sxWP sc cl Q 179 (253, [some (.ref 59), z1, z2, z3, some (.int v4), some (.int v5), some (.int v6), (sxc2 z7), some (.int (if v6 = (0:Int32) then (v4 + (1:Int32)) else (v4 + (6:Int32)))), some (.int (if v6 = (0:Int32) then (v4 + (6:Int32)) else (v4 + (1:Int32))))], [], (cW nw kp im ol sn sr tp (mW (mk.1, mk.2.1, upd (upd (upd (upd ms_j ((6:Int32) + v4).toNatClampNeg (if v6 = (0:Int32) then (v4 + (1:Int32)) else (v4 + (6:Int32)))) ((6:Int32) + (if v6 = (0:Int32) then (v4 + (1:Int32)) else (v4 + (6:Int32)))).toNatClampNeg v4) ((6:Int32) + (if v6 = (0:Int32) then (v4 + (6:Int32)) else (v4 + (1:Int32)))).toNatClampNeg v5) ((6:Int32) + v5).toNatClampNeg (if v6 = (0:Int32) then (v4 + (6:Int32)) else (v4 + (1:Int32))), mk.2.2.2.1, mk.2.2.2.2.1, mk.2.2.2.2.2.1, mk.2.2.2.2.2.2.1, mk.2.2.2.2.2.2.2.1, mk.2.2.2.2.2.2.2.2.1, mk.2.2.2.2.2.2.2.2.2) (gma_j, gpi_j, gle_j, gsu_j, gst_j, ghe_j, gow_j, gfa_j, gqu_j, glo_j, ghi_j, gby_j, gib_j) mt mc T)), 0, 0)))
        obtain ⟨q7, hq7, hf⟩ := bnd hf
        refine stp hm 2 (M_rank_ok hE hq7 ?_)
        show sxWP sc cl Q 179 (257, [some (.ref 59), z1, z2, z3, some (.int v4), some (.int v5), some (.int v6), (sxc2 z7), some (.int (if v6 = (0:Int32) then (v4 + (1:Int32)) else (v4 + (6:Int32)))), some (.int (if v6 = (0:Int32) then (v4 + (6:Int32)) else (v4 + (1:Int32))))], [.int q7.1], (cW nw kp im ol sn sr tp (mW (mk.1, mk.2.1, upd (upd (upd (upd ms_j ((6:Int32) + v4).toNatClampNeg (if v6 = (0:Int32) then (v4 + (1:Int32)) else (v4 + (6:Int32)))) ((6:Int32) + (if v6 = (0:Int32) then (v4 + (1:Int32)) else (v4 + (6:Int32)))).toNatClampNeg v4) ((6:Int32) + (if v6 = (0:Int32) then (v4 + (6:Int32)) else (v4 + (1:Int32)))).toNatClampNeg v5) ((6:Int32) + v5).toNatClampNeg (if v6 = (0:Int32) then (v4 + (6:Int32)) else (v4 + (1:Int32))), mk.2.2.2.1, mk.2.2.2.2.1, mk.2.2.2.2.2.1, mk.2.2.2.2.2.2.1, mk.2.2.2.2.2.2.2.1, mk.2.2.2.2.2.2.2.2.1, mk.2.2.2.2.2.2.2.2.2) (q7.2.2.2.1, q7.2.2.2.2.1, q7.2.1, q7.2.2.1, q7.2.2.2.2.2.1, q7.2.2.2.2.2.2.1, q7.2.2.2.2.2.2.2.1, q7.2.2.2.2.2.2.2.2.1, q7.2.2.2.2.2.2.2.2.2.1, q7.2.2.2.2.2.2.2.2.2.2.1, q7.2.2.2.2.2.2.2.2.2.2.2.1, q7.2.2.2.2.2.2.2.2.2.2.2.2.1, q7.2.2.2.2.2.2.2.2.2.2.2.2.2) mt mc T)), 0, 0)
        obtain rfl := Option.some.inj hf
        refine stp hm 1 ?_
        exact h
      refine stp hm 3 (bs (c := v6 = (0:Int32)) (fun c8 => ?_) (fun c8 => ?_))
      · have c8 : v6 = (0:Int32) := c8
        refine stp hm 3 (?_ : sxWP sc cl Q 179 (203, [some (.ref 59), z1, z2, z3, some (.int v4), some (.int v5), some (.int v6), (sxc2 z7), some (.int (if v6 = (0:Int32) then (v4 + (1:Int32)) else (v4 + (6:Int32)))), z9], [.int (v4 + (6:Int32))], (cW nw kp im ol sn sr tp (mW (mk.1, mk.2.1, ms_j, mk.2.2.2.1, mk.2.2.2.2.1, mk.2.2.2.2.2.1, mk.2.2.2.2.2.2.1, mk.2.2.2.2.2.2.2.1, mk.2.2.2.2.2.2.2.2.1, mk.2.2.2.2.2.2.2.2.2) (gma_j, gpi_j, gle_j, gsu_j, gst_j, ghe_j, gow_j, gfa_j, gqu_j, glo_j, ghi_j, gby_j, gib_j) mt mc T)), 0, 0))
        exact m2 _ (by rw [if_pos c8])
      · have c8 : ¬ v6 = (0:Int32) := c8
        refine stp hm 4 (?_ : sxWP sc cl Q 179 (203, [some (.ref 59), z1, z2, z3, some (.int v4), some (.int v5), some (.int v6), (sxc2 z7), some (.int (if v6 = (0:Int32) then (v4 + (1:Int32)) else (v4 + (6:Int32)))), z9], [.int (v4 + (1:Int32))], (cW nw kp im ol sn sr tp (mW (mk.1, mk.2.1, ms_j, mk.2.2.2.1, mk.2.2.2.2.1, mk.2.2.2.2.2.1, mk.2.2.2.2.2.2.1, mk.2.2.2.2.2.2.2.1, mk.2.2.2.2.2.2.2.2.1, mk.2.2.2.2.2.2.2.2.2) (gma_j, gpi_j, gle_j, gsu_j, gst_j, ghe_j, gow_j, gfa_j, gqu_j, glo_j, ghi_j, gby_j, gib_j) mt mc T)), 0, 0))
        exact m2 _ (by rw [if_neg c8])
    refine stp hm 2 (bs (c := v6 = (0:Int32)) (fun c9 => ?_) (fun c9 => ?_))
    · have c9 : v6 = (0:Int32) := c9
      refine stp hm 3 (?_ : sxWP sc cl Q 179 (184, [some (.ref 59), z1, z2, z3, some (.int v4), some (.int v5), some (.int v6), z7, z8, z9], [.int (v4 + (1:Int32))], (cW nw kp im ol sn sr tp (mW (mk.1, mk.2.1, ms_j, mk.2.2.2.1, mk.2.2.2.2.1, mk.2.2.2.2.2.1, mk.2.2.2.2.2.2.1, mk.2.2.2.2.2.2.2.1, mk.2.2.2.2.2.2.2.2.1, mk.2.2.2.2.2.2.2.2.2) (gma_j, gpi_j, gle_j, gsu_j, gst_j, ghe_j, gow_j, gfa_j, gqu_j, glo_j, ghi_j, gby_j, gib_j) mt mc T)), 0, 0))
      exact m1 _ (by rw [if_pos c9])
    · have c9 : ¬ v6 = (0:Int32) := c9
      refine stp hm 4 (?_ : sxWP sc cl Q 179 (184, [some (.ref 59), z1, z2, z3, some (.int v4), some (.int v5), some (.int v6), z7, z8, z9], [.int (v4 + (6:Int32))], (cW nw kp im ol sn sr tp (mW (mk.1, mk.2.1, ms_j, mk.2.2.2.1, mk.2.2.2.2.1, mk.2.2.2.2.2.1, mk.2.2.2.2.2.2.1, mk.2.2.2.2.2.2.2.1, mk.2.2.2.2.2.2.2.2.1, mk.2.2.2.2.2.2.2.2.2) (gma_j, gpi_j, gle_j, gsu_j, gst_j, ghe_j, gow_j, gfa_j, gqu_j, glo_j, ghi_j, gby_j, gib_j) mt mc T)), 0, 0))
      exact m1 _ (by rw [if_neg c9])
  have J152 : ∀ (v4 : Int32) (v5 : Int32) (v6 : Int32) (k0 : Int32) (gle_j : Int32) (gsu_j : Int32) (ms_j : (Nat → Int32)) (gma_j : (Nat → Int32)) (gpi_j : (Nat → Int32)) (gst_j : (Nat → Int32)) (ghe_j : (Nat → Int32)) (gow_j : (Nat → Int32)) (gfa_j : (Nat → Int32)) (gqu_j : (Nat → Int32)) (glo_j : (Nat → Int32)) (ghi_j : (Nat → Int32)) (gby_j : (Nat → Int32)) (gib_j : (Nat → Int32)) (z1 : Option Value) (z2 : Option Value) (z3 : Option Value) (z7 : Option Value) (z8 : Option Value) (z9 : Option Value), M_turn_j152 v4 v5 v6 k0 gle_j gsu_j ms_j gma_j gpi_j gst_j ghe_j gow_j gfa_j gqu_j glo_j ghi_j gby_j gib_j mk.1 = some q → sxWP sc cl Q 179 (152, [some (.ref 59), z1, z2, z3, some (.int v4), some (.int v5), some (.int v6), z7, z8, z9], [.int k0], (cW nw kp im ol sn sr tp (mW (mk.1, mk.2.1, ms_j, mk.2.2.2.1, mk.2.2.2.2.1, mk.2.2.2.2.2.1, mk.2.2.2.2.2.2.1, mk.2.2.2.2.2.2.2.1, mk.2.2.2.2.2.2.2.2.1, mk.2.2.2.2.2.2.2.2.2) (gma_j, gpi_j, gle_j, gsu_j, gst_j, ghe_j, gow_j, gfa_j, gqu_j, glo_j, ghi_j, gby_j, gib_j) mt mc T)), 0, 0) := by
    intro v4 v5 v6 k0 gle_j gsu_j ms_j gma_j gpi_j gst_j ghe_j gow_j gfa_j gqu_j glo_j ghi_j gby_j gib_j z1 z2 z3 z7 z8 z9 hf
    unfold M_turn_j152 at hf
    refine stp hm 3 (brn hf (fun c10 hf => ?_) (fun c10 hf => ?_))
    · show sxWP sc cl Q 179 (167, [some (.ref 59), z1, z2, z3, some (.int v4), some (.int v5), some (.int v6), some (.int k0), z8, z9], [], (cW nw kp im ol sn sr tp (mW (mk.1, mk.2.1, ms_j, mk.2.2.2.1, mk.2.2.2.2.1, mk.2.2.2.2.2.1, mk.2.2.2.2.2.2.1, mk.2.2.2.2.2.2.2.1, mk.2.2.2.2.2.2.2.2.1, mk.2.2.2.2.2.2.2.2.2) (gma_j, gpi_j, gle_j, gsu_j, gst_j, ghe_j, gow_j, gfa_j, gqu_j, glo_j, ghi_j, gby_j, gib_j) mt mc T)), 0, 0)
      exact J167 _ _ _ _ _ _ _ _ _ _ _ _ _ _ _ _ _ _ _ _ _ _ _ hf
    · show sxWP sc cl Q 179 (159, [some (.ref 59), z1, z2, z3, some (.int v4), some (.int v5), some (.int v6), some (.int k0), z8, z9], [], (cW nw kp im ol sn sr tp (mW (mk.1, mk.2.1, ms_j, mk.2.2.2.1, mk.2.2.2.2.1, mk.2.2.2.2.2.1, mk.2.2.2.2.2.2.1, mk.2.2.2.2.2.2.2.1, mk.2.2.2.2.2.2.2.2.1, mk.2.2.2.2.2.2.2.2.2) (gma_j, gpi_j, gle_j, gsu_j, gst_j, ghe_j, gow_j, gfa_j, gqu_j, glo_j, ghi_j, gby_j, gib_j) mt mc T)), 0, 0)
      refine stp hm 2 (brn hf (fun c11 hf => ?_) (fun c11 hf => ?_))
      · show sxWP sc cl Q 179 (167, [some (.ref 59), z1, z2, z3, some (.int v4), some (.int v5), some (.int v6), some (.int k0), z8, z9], [], (cW nw kp im ol sn sr tp (mW (mk.1, mk.2.1, ms_j, mk.2.2.2.1, mk.2.2.2.2.1, mk.2.2.2.2.2.1, mk.2.2.2.2.2.2.1, mk.2.2.2.2.2.2.2.1, mk.2.2.2.2.2.2.2.2.1, mk.2.2.2.2.2.2.2.2.2) (gma_j, gpi_j, gle_j, gsu_j, gst_j, ghe_j, gow_j, gfa_j, gqu_j, glo_j, ghi_j, gby_j, gib_j) mt mc T)), 0, 0)
        exact J167 _ _ _ _ _ _ _ _ _ _ _ _ _ _ _ _ _ _ _ _ _ _ _ hf
      · show sxWP sc cl Q 179 (164, [some (.ref 59), z1, z2, z3, some (.int v4), some (.int v5), some (.int v6), some (.int k0), z8, z9], [], (cW nw kp im ol sn sr tp (mW (mk.1, mk.2.1, ms_j, mk.2.2.2.1, mk.2.2.2.2.1, mk.2.2.2.2.2.1, mk.2.2.2.2.2.2.1, mk.2.2.2.2.2.2.2.1, mk.2.2.2.2.2.2.2.2.1, mk.2.2.2.2.2.2.2.2.2) (gma_j, gpi_j, gle_j, gsu_j, gst_j, ghe_j, gow_j, gfa_j, gqu_j, glo_j, ghi_j, gby_j, gib_j) mt mc T)), 0, 0)
        obtain rfl := Option.some.inj hf
        refine stp hm 2 ?_
        exact h
  have J151 : ∀ (v4 : Int32) (v5 : Int32) (v6 : Int32) (gle_j : Int32) (gsu_j : Int32) (ms_j : (Nat → Int32)) (gma_j : (Nat → Int32)) (gpi_j : (Nat → Int32)) (gst_j : (Nat → Int32)) (ghe_j : (Nat → Int32)) (gow_j : (Nat → Int32)) (gfa_j : (Nat → Int32)) (gqu_j : (Nat → Int32)) (glo_j : (Nat → Int32)) (ghi_j : (Nat → Int32)) (gby_j : (Nat → Int32)) (gib_j : (Nat → Int32)) (z1 : Option Value) (z2 : Option Value) (z3 : Option Value) (z7 : Option Value) (z8 : Option Value) (z9 : Option Value), M_turn_j151 v4 v5 v6 gle_j gsu_j ms_j gma_j gpi_j gst_j ghe_j gow_j gfa_j gqu_j glo_j ghi_j gby_j gib_j mk.1 = some q → sxWP sc cl Q 179 (151, [some (.ref 59), z1, z2, z3, some (.int v4), some (.int v5), some (.int v6), z7, z8, z9], [], (cW nw kp im ol sn sr tp (mW (mk.1, mk.2.1, ms_j, mk.2.2.2.1, mk.2.2.2.2.1, mk.2.2.2.2.2.1, mk.2.2.2.2.2.2.1, mk.2.2.2.2.2.2.2.1, mk.2.2.2.2.2.2.2.2.1, mk.2.2.2.2.2.2.2.2.2) (gma_j, gpi_j, gle_j, gsu_j, gst_j, ghe_j, gow_j, gfa_j, gqu_j, glo_j, ghi_j, gby_j, gib_j) mt mc T)), 0, 0) := by
    intro v4 v5 v6 gle_j gsu_j ms_j gma_j gpi_j gst_j ghe_j gow_j gfa_j gqu_j glo_j ghi_j gby_j gib_j z1 z2 z3 z7 z8 z9 hf
    unfold M_turn_j151 at hf
    refine stp hm 1 (?_ : sxWP sc cl Q 179 (152, [some (.ref 59), z1, z2, z3, some (.int v4), some (.int v5), some (.int v6), z7, z8, z9], [.int (0:Int32)], (cW nw kp im ol sn sr tp (mW (mk.1, mk.2.1, ms_j, mk.2.2.2.1, mk.2.2.2.2.1, mk.2.2.2.2.2.1, mk.2.2.2.2.2.2.1, mk.2.2.2.2.2.2.2.1, mk.2.2.2.2.2.2.2.2.1, mk.2.2.2.2.2.2.2.2.2) (gma_j, gpi_j, gle_j, gsu_j, gst_j, ghe_j, gow_j, gfa_j, gqu_j, glo_j, ghi_j, gby_j, gib_j) mt mc T)), 0, 0))
    exact J152 _ _ _ _ _ _ _ _ _ _ _ _ _ _ _ _ _ _ _ _ _ _ _ _ hf
  have J109 : ∀ (v4 : Int32) (v5 : Int32) (k0 : Int32) (gle_j : Int32) (gsu_j : Int32) (ms_j : (Nat → Int32)) (gma_j : (Nat → Int32)) (gpi_j : (Nat → Int32)) (gst_j : (Nat → Int32)) (ghe_j : (Nat → Int32)) (gow_j : (Nat → Int32)) (gfa_j : (Nat → Int32)) (gqu_j : (Nat → Int32)) (glo_j : (Nat → Int32)) (ghi_j : (Nat → Int32)) (gby_j : (Nat → Int32)) (gib_j : (Nat → Int32)) (z1 : Option Value) (z2 : Option Value) (z3 : Option Value) (z6 : Option Value) (z7 : Option Value) (z8 : Option Value) (z9 : Option Value), M_turn_j109 v4 v5 k0 gle_j gsu_j ms_j gma_j gpi_j gst_j ghe_j gow_j gfa_j gqu_j glo_j ghi_j gby_j gib_j mk.1 = some q → sxWP sc cl Q 179 (109, [some (.ref 59), z1, z2, z3, some (.int v4), some (.int v5), z6, z7, z8, z9], [.int k0], (cW nw kp im ol sn sr tp (mW (mk.1, mk.2.1, ms_j, mk.2.2.2.1, mk.2.2.2.2.1, mk.2.2.2.2.2.1, mk.2.2.2.2.2.2.1, mk.2.2.2.2.2.2.2.1, mk.2.2.2.2.2.2.2.2.1, mk.2.2.2.2.2.2.2.2.2) (gma_j, gpi_j, gle_j, gsu_j, gst_j, ghe_j, gow_j, gfa_j, gqu_j, glo_j, ghi_j, gby_j, gib_j) mt mc T)), 0, 0) := by
    intro v4 v5 k0 gle_j gsu_j ms_j gma_j gpi_j gst_j ghe_j gow_j gfa_j gqu_j glo_j ghi_j gby_j gib_j z1 z2 z3 z6 z7 z8 z9 hf
    unfold M_turn_j109 at hf
    obtain ⟨g12, hf⟩ := grd_e hf
    refine stp hm 7 (And.intro (gi_in g12) (?_ : sxWP sc cl Q 179 (121, [some (.ref 59), z1, z2, z3, some (.int v4), some (.int v5), some (.int k0), z7, z8, z9], [.int (ms_j ((6:Int32) + v4).toNatClampNeg)], (cW nw kp im ol sn sr tp (mW (mk.1, mk.2.1, ms_j, mk.2.2.2.1, mk.2.2.2.2.1, mk.2.2.2.2.2.1, mk.2.2.2.2.2.2.1, mk.2.2.2.2.2.2.2.1, mk.2.2.2.2.2.2.2.2.1, mk.2.2.2.2.2.2.2.2.2) (gma_j, gpi_j, gle_j, gsu_j, gst_j, ghe_j, gow_j, gfa_j, gqu_j, glo_j, ghi_j, gby_j, gib_j) mt mc T)), 0, 0)))
    refine stp hm 4 (brn hf (fun c13 hf => ?_) (fun c13 hf => ?_))
    · show sxWP sc cl Q 179 (151, [some (.ref 59), z1, z2, z3, some (.int v4), some (.int v5), some (.int k0), z7, z8, z9], [], (cW nw kp im ol sn sr tp (mW (mk.1, mk.2.1, ms_j, mk.2.2.2.1, mk.2.2.2.2.1, mk.2.2.2.2.2.1, mk.2.2.2.2.2.2.1, mk.2.2.2.2.2.2.2.1, mk.2.2.2.2.2.2.2.2.1, mk.2.2.2.2.2.2.2.2.2) (gma_j, gpi_j, gle_j, gsu_j, gst_j, ghe_j, gow_j, gfa_j, gqu_j, glo_j, ghi_j, gby_j, gib_j) mt mc T)), 0, 0)
      exact J151 _ _ _ _ _ _ _ _ _ _ _ _ _ _ _ _ _ _ _ _ _ _ _ hf
    · show sxWP sc cl Q 179 (129, [some (.ref 59), z1, z2, z3, some (.int v4), some (.int v5), some (.int k0), z7, z8, z9], [], (cW nw kp im ol sn sr tp (mW (mk.1, mk.2.1, ms_j, mk.2.2.2.1, mk.2.2.2.2.1, mk.2.2.2.2.2.1, mk.2.2.2.2.2.2.1, mk.2.2.2.2.2.2.2.1, mk.2.2.2.2.2.2.2.2.1, mk.2.2.2.2.2.2.2.2.2) (gma_j, gpi_j, gle_j, gsu_j, gst_j, ghe_j, gow_j, gfa_j, gqu_j, glo_j, ghi_j, gby_j, gib_j) mt mc T)), 0, 0)
      obtain ⟨g14, hf⟩ := grd_e hf
      refine stp hm 6 (And.intro (gi_in g14) (?_ : sxWP sc cl Q 179 (139, [some (.ref 59), z1, z2, z3, some (.int v4), some (.int v5), some (.int k0), z7, z8, z9], [.int (ms_j ((6:Int32) + v5).toNatClampNeg)], (cW nw kp im ol sn sr tp (mW (mk.1, mk.2.1, ms_j, mk.2.2.2.1, mk.2.2.2.2.1, mk.2.2.2.2.2.1, mk.2.2.2.2.2.2.1, mk.2.2.2.2.2.2.2.1, mk.2.2.2.2.2.2.2.2.1, mk.2.2.2.2.2.2.2.2.2) (gma_j, gpi_j, gle_j, gsu_j, gst_j, ghe_j, gow_j, gfa_j, gqu_j, glo_j, ghi_j, gby_j, gib_j) mt mc T)), 0, 0)))
      have m15 : ∀ (m15_0 : Int32), m15_0 = (if (ms_j ((6:Int32) + v5).toNatClampNeg) = (v5 - (6:Int32)) then (1:Int32) else (0:Int32)) → sxWP sc cl Q 179 (152, [some (.ref 59), z1, z2, z3, some (.int v4), some (.int v5), some (.int k0), z7, z8, z9], [.int m15_0], (cW nw kp im ol sn sr tp (mW (mk.1, mk.2.1, ms_j, mk.2.2.2.1, mk.2.2.2.2.1, mk.2.2.2.2.2.1, mk.2.2.2.2.2.2.1, mk.2.2.2.2.2.2.2.1, mk.2.2.2.2.2.2.2.2.1, mk.2.2.2.2.2.2.2.2.2) (gma_j, gpi_j, gle_j, gsu_j, gst_j, ghe_j, gow_j, gfa_j, gqu_j, glo_j, ghi_j, gby_j, gib_j) mt mc T)), 0, 0) := by
        intro m15_0 em15_0
        subst em15_0
        refine stp hm 3 (brn hf (fun c16 hf => ?_) (fun c16 hf => ?_))
        · show sxWP sc cl Q 179 (167, [some (.ref 59), z1, z2, z3, some (.int v4), some (.int v5), some (.int k0), some (.int (if (ms_j ((6:Int32) + v5).toNatClampNeg) = (v5 - (6:Int32)) then (1:Int32) else (0:Int32))), z8, z9], [], (cW nw kp im ol sn sr tp (mW (mk.1, mk.2.1, ms_j, mk.2.2.2.1, mk.2.2.2.2.1, mk.2.2.2.2.2.1, mk.2.2.2.2.2.2.1, mk.2.2.2.2.2.2.2.1, mk.2.2.2.2.2.2.2.2.1, mk.2.2.2.2.2.2.2.2.2) (gma_j, gpi_j, gle_j, gsu_j, gst_j, ghe_j, gow_j, gfa_j, gqu_j, glo_j, ghi_j, gby_j, gib_j) mt mc T)), 0, 0)
          exact J167 _ _ _ _ _ _ _ _ _ _ _ _ _ _ _ _ _ _ _ _ _ _ _ hf
        · show sxWP sc cl Q 179 (159, [some (.ref 59), z1, z2, z3, some (.int v4), some (.int v5), some (.int k0), some (.int (if (ms_j ((6:Int32) + v5).toNatClampNeg) = (v5 - (6:Int32)) then (1:Int32) else (0:Int32))), z8, z9], [], (cW nw kp im ol sn sr tp (mW (mk.1, mk.2.1, ms_j, mk.2.2.2.1, mk.2.2.2.2.1, mk.2.2.2.2.2.1, mk.2.2.2.2.2.2.1, mk.2.2.2.2.2.2.2.1, mk.2.2.2.2.2.2.2.2.1, mk.2.2.2.2.2.2.2.2.2) (gma_j, gpi_j, gle_j, gsu_j, gst_j, ghe_j, gow_j, gfa_j, gqu_j, glo_j, ghi_j, gby_j, gib_j) mt mc T)), 0, 0)
          refine stp hm 2 (brn hf (fun c17 hf => ?_) (fun c17 hf => ?_))
          · show sxWP sc cl Q 179 (167, [some (.ref 59), z1, z2, z3, some (.int v4), some (.int v5), some (.int k0), some (.int (if (ms_j ((6:Int32) + v5).toNatClampNeg) = (v5 - (6:Int32)) then (1:Int32) else (0:Int32))), z8, z9], [], (cW nw kp im ol sn sr tp (mW (mk.1, mk.2.1, ms_j, mk.2.2.2.1, mk.2.2.2.2.1, mk.2.2.2.2.2.1, mk.2.2.2.2.2.2.1, mk.2.2.2.2.2.2.2.1, mk.2.2.2.2.2.2.2.2.1, mk.2.2.2.2.2.2.2.2.2) (gma_j, gpi_j, gle_j, gsu_j, gst_j, ghe_j, gow_j, gfa_j, gqu_j, glo_j, ghi_j, gby_j, gib_j) mt mc T)), 0, 0)
            exact J167 _ _ _ _ _ _ _ _ _ _ _ _ _ _ _ _ _ _ _ _ _ _ _ hf
          · show sxWP sc cl Q 179 (164, [some (.ref 59), z1, z2, z3, some (.int v4), some (.int v5), some (.int k0), some (.int (if (ms_j ((6:Int32) + v5).toNatClampNeg) = (v5 - (6:Int32)) then (1:Int32) else (0:Int32))), z8, z9], [], (cW nw kp im ol sn sr tp (mW (mk.1, mk.2.1, ms_j, mk.2.2.2.1, mk.2.2.2.2.1, mk.2.2.2.2.2.1, mk.2.2.2.2.2.2.1, mk.2.2.2.2.2.2.2.1, mk.2.2.2.2.2.2.2.2.1, mk.2.2.2.2.2.2.2.2.2) (gma_j, gpi_j, gle_j, gsu_j, gst_j, ghe_j, gow_j, gfa_j, gqu_j, glo_j, ghi_j, gby_j, gib_j) mt mc T)), 0, 0)
            obtain rfl := Option.some.inj hf
            refine stp hm 2 ?_
            exact h
      refine stp hm 4 (bsn (c := (ms_j ((6:Int32) + v5).toNatClampNeg) = (v5 - (6:Int32))) (fun c18 => ?_) (fun c18 => ?_))
      · have c18 : ¬ (ms_j ((6:Int32) + v5).toNatClampNeg) = (v5 - (6:Int32)) := c18
        refine stp hm 1 (?_ : sxWP sc cl Q 179 (152, [some (.ref 59), z1, z2, z3, some (.int v4), some (.int v5), some (.int k0), z7, z8, z9], [.int (0:Int32)], (cW nw kp im ol sn sr tp (mW (mk.1, mk.2.1, ms_j, mk.2.2.2.1, mk.2.2.2.2.1, mk.2.2.2.2.2.1, mk.2.2.2.2.2.2.1, mk.2.2.2.2.2.2.2.1, mk.2.2.2.2.2.2.2.2.1, mk.2.2.2.2.2.2.2.2.2) (gma_j, gpi_j, gle_j, gsu_j, gst_j, ghe_j, gow_j, gfa_j, gqu_j, glo_j, ghi_j, gby_j, gib_j) mt mc T)), 0, 0))
        exact m15 _ (by rw [if_neg c18])
      · have c18 : (ms_j ((6:Int32) + v5).toNatClampNeg) = (v5 - (6:Int32)) := c18
        refine stp hm 2 (?_ : sxWP sc cl Q 179 (152, [some (.ref 59), z1, z2, z3, some (.int v4), some (.int v5), some (.int k0), z7, z8, z9], [.int (1:Int32)], (cW nw kp im ol sn sr tp (mW (mk.1, mk.2.1, ms_j, mk.2.2.2.1, mk.2.2.2.2.1, mk.2.2.2.2.2.1, mk.2.2.2.2.2.2.1, mk.2.2.2.2.2.2.2.1, mk.2.2.2.2.2.2.2.2.1, mk.2.2.2.2.2.2.2.2.2) (gma_j, gpi_j, gle_j, gsu_j, gst_j, ghe_j, gow_j, gfa_j, gqu_j, glo_j, ghi_j, gby_j, gib_j) mt mc T)), 0, 0))
        exact m15 _ (by rw [if_pos c18])
  have J108 : ∀ (v4 : Int32) (v5 : Int32) (gle_j : Int32) (gsu_j : Int32) (ms_j : (Nat → Int32)) (gma_j : (Nat → Int32)) (gpi_j : (Nat → Int32)) (gst_j : (Nat → Int32)) (ghe_j : (Nat → Int32)) (gow_j : (Nat → Int32)) (gfa_j : (Nat → Int32)) (gqu_j : (Nat → Int32)) (glo_j : (Nat → Int32)) (ghi_j : (Nat → Int32)) (gby_j : (Nat → Int32)) (gib_j : (Nat → Int32)) (z1 : Option Value) (z2 : Option Value) (z3 : Option Value) (z6 : Option Value) (z7 : Option Value) (z8 : Option Value) (z9 : Option Value), M_turn_j108 v4 v5 gle_j gsu_j ms_j gma_j gpi_j gst_j ghe_j gow_j gfa_j gqu_j glo_j ghi_j gby_j gib_j mk.1 = some q → sxWP sc cl Q 179 (108, [some (.ref 59), z1, z2, z3, some (.int v4), some (.int v5), z6, z7, z8, z9], [], (cW nw kp im ol sn sr tp (mW (mk.1, mk.2.1, ms_j, mk.2.2.2.1, mk.2.2.2.2.1, mk.2.2.2.2.2.1, mk.2.2.2.2.2.2.1, mk.2.2.2.2.2.2.2.1, mk.2.2.2.2.2.2.2.2.1, mk.2.2.2.2.2.2.2.2.2) (gma_j, gpi_j, gle_j, gsu_j, gst_j, ghe_j, gow_j, gfa_j, gqu_j, glo_j, ghi_j, gby_j, gib_j) mt mc T)), 0, 0) := by
    intro v4 v5 gle_j gsu_j ms_j gma_j gpi_j gst_j ghe_j gow_j gfa_j gqu_j glo_j ghi_j gby_j gib_j z1 z2 z3 z6 z7 z8 z9 hf
    unfold M_turn_j108 at hf
    refine stp hm 1 (?_ : sxWP sc cl Q 179 (109, [some (.ref 59), z1, z2, z3, some (.int v4), some (.int v5), z6, z7, z8, z9], [.int (0:Int32)], (cW nw kp im ol sn sr tp (mW (mk.1, mk.2.1, ms_j, mk.2.2.2.1, mk.2.2.2.2.1, mk.2.2.2.2.2.1, mk.2.2.2.2.2.2.1, mk.2.2.2.2.2.2.2.1, mk.2.2.2.2.2.2.2.2.1, mk.2.2.2.2.2.2.2.2.2) (gma_j, gpi_j, gle_j, gsu_j, gst_j, ghe_j, gow_j, gfa_j, gqu_j, glo_j, ghi_j, gby_j, gib_j) mt mc T)), 0, 0))
    exact J109 _ _ _ _ _ _ _ _ _ _ _ _ _ _ _ _ _ _ _ _ _ _ _ _ hf
  have J46 : ∀ (gle_j : Int32) (gsu_j : Int32) (ms_j : (Nat → Int32)) (gma_j : (Nat → Int32)) (gpi_j : (Nat → Int32)) (gst_j : (Nat → Int32)) (ghe_j : (Nat → Int32)) (gow_j : (Nat → Int32)) (gfa_j : (Nat → Int32)) (gqu_j : (Nat → Int32)) (glo_j : (Nat → Int32)) (ghi_j : (Nat → Int32)) (gby_j : (Nat → Int32)) (gib_j : (Nat → Int32)) (z0 : Option Value) (z1 : Option Value) (z2 : Option Value) (z3 : Option Value) (z4 : Option Value) (z5 : Option Value) (z6 : Option Value) (z7 : Option Value) (z8 : Option Value) (z9 : Option Value), M_turn_j46 gle_j gsu_j ms_j gma_j gpi_j gst_j ghe_j gow_j gfa_j gqu_j glo_j ghi_j gby_j gib_j = some q → sxWP sc cl Q 179 (46, [z0, z1, z2, z3, z4, z5, z6, z7, z8, z9], [], (cW nw kp im ol sn sr tp (mW (mk.1, mk.2.1, ms_j, mk.2.2.2.1, mk.2.2.2.2.1, mk.2.2.2.2.2.1, mk.2.2.2.2.2.2.1, mk.2.2.2.2.2.2.2.1, mk.2.2.2.2.2.2.2.2.1, mk.2.2.2.2.2.2.2.2.2) (gma_j, gpi_j, gle_j, gsu_j, gst_j, ghe_j, gow_j, gfa_j, gqu_j, glo_j, ghi_j, gby_j, gib_j) mt mc T)), 0, 0) := by
    intro gle_j gsu_j ms_j gma_j gpi_j gst_j ghe_j gow_j gfa_j gqu_j glo_j ghi_j gby_j gib_j z0 z1 z2 z3 z4 z5 z6 z7 z8 z9 hf
    unfold M_turn_j46 at hf
    obtain rfl := Option.some.inj hf
    refine stp hm 2 ?_
    exact h
  unfold M_turn at hf
  refine stp hm 2 (M_isVertex_ok hE rfl ?_)
  show sxWP sc cl Q 179 (4, [some (.ref 59), some (.int v1), none, none, none, none, none, none, none, none], [.int (M_isVertex v1)], (cW nw kp im ol sn sr tp (mW mk mg mt mc T)), 0, 0)
  refine stp hm 1 (brn hf (fun c19 hf => ?_) (fun c19 hf => ?_))
  · show sxWP sc cl Q 179 (9, [some (.ref 59), some (.int v1), none, none, none, none, none, none, none, none], [], (cW nw kp im ol sn sr tp (mW mk mg mt mc T)), 0, 0)
    refine stp hm 3 (And.intro (by decide) (?_ : sxWP sc cl Q 179 (13, [some (.ref 59), some (.int v1), none, none, none, none, none, none, none, none], [.int (v1 / (7:Int32))], (cW nw kp im ol sn sr tp (mW mk mg mt mc T)), 0, 0)))
    refine stp hm 4 (And.intro (by decide) (?_ : sxWP sc cl Q 179 (18, [some (.ref 59), some (.int v1), some (.int (v1 / (7:Int32))), none, none, none, none, none, none, none], [.int (v1 - v1 / (7:Int32) * (7:Int32))], (cW nw kp im ol sn sr tp (mW mk mg mt mc T)), 0, 0)))
    obtain ⟨g20, hf⟩ := grd_e hf
    refine stp hm 5 (And.intro (gi_in g20) (?_ : sxWP sc cl Q 179 (25, [some (.ref 59), some (.int v1), some (.int (v1 / (7:Int32))), some (.int (v1 - v1 / (7:Int32) * (7:Int32))), none, none, none, none, none, none], [.int (mk.2.2.1 (0:Int32).toNatClampNeg)], (cW nw kp im ol sn sr tp (mW mk mg mt mc T)), 0, 0)))
    refine stp hm 1 (br hf (fun c21 hf => ?_) (fun c21 hf => ?_))
    · show sxWP sc cl Q 179 (46, [some (.ref 59), some (.int v1), some (.int (v1 / (7:Int32))), some (.int (v1 - v1 / (7:Int32) * (7:Int32))), none, none, none, none, none, none], [], (cW nw kp im ol sn sr tp (mW mk mg mt mc T)), 0, 0)
      exact J46 _ _ _ _ _ _ _ _ _ _ _ _ _ _ _ _ _ _ _ _ _ _ _ _ hf
    · show sxWP sc cl Q 179 (28, [some (.ref 59), some (.int v1), some (.int (v1 / (7:Int32))), some (.int (v1 - v1 / (7:Int32) * (7:Int32))), none, none, none, none, none, none], [], (cW nw kp im ol sn sr tp (mW mk mg mt mc T)), 0, 0)
      refine stp hm 4 (M_isIn_ok hE rfl ?_)
      show sxWP sc cl Q 179 (34, [some (.ref 59), some (.int v1), some (.int (v1 / (7:Int32))), some (.int (v1 - v1 / (7:Int32) * (7:Int32))), none, none, none, none, none, none], [.int (M_isIn (v1 / (7:Int32)) (1:Int32) (5:Int32))], (cW nw kp im ol sn sr tp (mW mk mg mt mc T)), 0, 0)
      refine stp hm 1 (br hf (fun c22 hf => ?_) (fun c22 hf => ?_))
      · show sxWP sc cl Q 179 (46, [some (.ref 59), some (.int v1), some (.int (v1 / (7:Int32))), some (.int (v1 - v1 / (7:Int32) * (7:Int32))), none, none, none, none, none, none], [], (cW nw kp im ol sn sr tp (mW mk mg mt mc T)), 0, 0)
        exact J46 _ _ _ _ _ _ _ _ _ _ _ _ _ _ _ _ _ _ _ _ _ _ _ _ hf
      · show sxWP sc cl Q 179 (37, [some (.ref 59), some (.int v1), some (.int (v1 / (7:Int32))), some (.int (v1 - v1 / (7:Int32) * (7:Int32))), none, none, none, none, none, none], [], (cW nw kp im ol sn sr tp (mW mk mg mt mc T)), 0, 0)
        refine stp hm 4 (M_isIn_ok hE rfl ?_)
        show sxWP sc cl Q 179 (43, [some (.ref 59), some (.int v1), some (.int (v1 / (7:Int32))), some (.int (v1 - v1 / (7:Int32) * (7:Int32))), none, none, none, none, none, none], [.int (M_isIn (v1 - v1 / (7:Int32) * (7:Int32)) (1:Int32) (5:Int32))], (cW nw kp im ol sn sr tp (mW mk mg mt mc T)), 0, 0)
        refine stp hm 1 (brn hf (fun c23 hf => ?_) (fun c23 hf => ?_))
        · show sxWP sc cl Q 179 (49, [some (.ref 59), some (.int v1), some (.int (v1 / (7:Int32))), some (.int (v1 - v1 / (7:Int32) * (7:Int32))), none, none, none, none, none, none], [], (cW nw kp im ol sn sr tp (mW mk mg mt mc T)), 0, 0)
          obtain ⟨g24, hf⟩ := grd_e hf
          refine stp hm 22 (And.intro (gi_in g24) (?_ : sxWP sc cl Q 179 (80, [some (.ref 59), some (.int v1), some (.int (v1 / (7:Int32))), some (.int (v1 - v1 / (7:Int32) * (7:Int32))), some (.int ((((6:Int32) * ((v1 / (7:Int32)) - (1:Int32))) + (v1 - v1 / (7:Int32) * (7:Int32))) - (1:Int32))), some (.int ((((((6:Int32) * ((v1 / (7:Int32)) - (1:Int32))) + (v1 - v1 / (7:Int32) * (7:Int32))) - (1:Int32)) + (6:Int32)) + (1:Int32))), none, none, none, none], [.int (mk.2.2.1 ((6:Int32) + ((((6:Int32) * ((v1 / (7:Int32)) - (1:Int32))) + (v1 - v1 / (7:Int32) * (7:Int32))) - (1:Int32))).toNatClampNeg)], (cW nw kp im ol sn sr tp (mW mk mg mt mc T)), 0, 0)))
          refine stp hm 4 (brn hf (fun c25 hf => ?_) (fun c25 hf => ?_))
          · show sxWP sc cl Q 179 (108, [some (.ref 59), some (.int v1), some (.int (v1 / (7:Int32))), some (.int (v1 - v1 / (7:Int32) * (7:Int32))), some (.int ((((6:Int32) * ((v1 / (7:Int32)) - (1:Int32))) + (v1 - v1 / (7:Int32) * (7:Int32))) - (1:Int32))), some (.int ((((((6:Int32) * ((v1 / (7:Int32)) - (1:Int32))) + (v1 - v1 / (7:Int32) * (7:Int32))) - (1:Int32)) + (6:Int32)) + (1:Int32))), none, none, none, none], [], (cW nw kp im ol sn sr tp (mW mk mg mt mc T)), 0, 0)
            exact J108 _ _ _ _ _ _ _ _ _ _ _ _ _ _ _ _ _ _ _ _ _ _ _ hf
          · show sxWP sc cl Q 179 (87, [some (.ref 59), some (.int v1), some (.int (v1 / (7:Int32))), some (.int (v1 - v1 / (7:Int32) * (7:Int32))), some (.int ((((6:Int32) * ((v1 / (7:Int32)) - (1:Int32))) + (v1 - v1 / (7:Int32) * (7:Int32))) - (1:Int32))), some (.int ((((((6:Int32) * ((v1 / (7:Int32)) - (1:Int32))) + (v1 - v1 / (7:Int32) * (7:Int32))) - (1:Int32)) + (6:Int32)) + (1:Int32))), none, none, none, none], [], (cW nw kp im ol sn sr tp (mW mk mg mt mc T)), 0, 0)
            obtain ⟨g26, hf⟩ := grd_e hf
            refine stp hm 6 (And.intro (gi_in g26) (?_ : sxWP sc cl Q 179 (97, [some (.ref 59), some (.int v1), some (.int (v1 / (7:Int32))), some (.int (v1 - v1 / (7:Int32) * (7:Int32))), some (.int ((((6:Int32) * ((v1 / (7:Int32)) - (1:Int32))) + (v1 - v1 / (7:Int32) * (7:Int32))) - (1:Int32))), some (.int ((((((6:Int32) * ((v1 / (7:Int32)) - (1:Int32))) + (v1 - v1 / (7:Int32) * (7:Int32))) - (1:Int32)) + (6:Int32)) + (1:Int32))), none, none, none, none], [.int (mk.2.2.1 ((6:Int32) + ((((((6:Int32) * ((v1 / (7:Int32)) - (1:Int32))) + (v1 - v1 / (7:Int32) * (7:Int32))) - (1:Int32)) + (6:Int32)) + (1:Int32))).toNatClampNeg)], (cW nw kp im ol sn sr tp (mW mk mg mt mc T)), 0, 0)))
            have m27 : ∀ (m27_0 : Int32), m27_0 = (if (mk.2.2.1 ((6:Int32) + ((((((6:Int32) * ((v1 / (7:Int32)) - (1:Int32))) + (v1 - v1 / (7:Int32) * (7:Int32))) - (1:Int32)) + (6:Int32)) + (1:Int32))).toNatClampNeg) = (((((((6:Int32) * ((v1 / (7:Int32)) - (1:Int32))) + (v1 - v1 / (7:Int32) * (7:Int32))) - (1:Int32)) + (6:Int32)) + (1:Int32)) - (1:Int32)) then (1:Int32) else (0:Int32)) → sxWP sc cl Q 179 (109, [some (.ref 59), some (.int v1), some (.int (v1 / (7:Int32))), some (.int (v1 - v1 / (7:Int32) * (7:Int32))), some (.int ((((6:Int32) * ((v1 / (7:Int32)) - (1:Int32))) + (v1 - v1 / (7:Int32) * (7:Int32))) - (1:Int32))), some (.int ((((((6:Int32) * ((v1 / (7:Int32)) - (1:Int32))) + (v1 - v1 / (7:Int32) * (7:Int32))) - (1:Int32)) + (6:Int32)) + (1:Int32))), none, none, none, none], [.int m27_0], (cW nw kp im ol sn sr tp (mW mk mg mt mc T)), 0, 0) := by
              intro m27_0 em27_0
              subst em27_0
              obtain ⟨g28, hf⟩ := grd_e hf
              refine stp hm 7 (And.intro (gi_in g28) (?_ : sxWP sc cl Q 179 (121, [some (.ref 59), some (.int v1), some (.int (v1 / (7:Int32))), some (.int (v1 - v1 / (7:Int32) * (7:Int32))), some (.int ((((6:Int32) * ((v1 / (7:Int32)) - (1:Int32))) + (v1 - v1 / (7:Int32) * (7:Int32))) - (1:Int32))), some (.int ((((((6:Int32) * ((v1 / (7:Int32)) - (1:Int32))) + (v1 - v1 / (7:Int32) * (7:Int32))) - (1:Int32)) + (6:Int32)) + (1:Int32))), some (.int (if (mk.2.2.1 ((6:Int32) + ((((((6:Int32) * ((v1 / (7:Int32)) - (1:Int32))) + (v1 - v1 / (7:Int32) * (7:Int32))) - (1:Int32)) + (6:Int32)) + (1:Int32))).toNatClampNeg) = (((((((6:Int32) * ((v1 / (7:Int32)) - (1:Int32))) + (v1 - v1 / (7:Int32) * (7:Int32))) - (1:Int32)) + (6:Int32)) + (1:Int32)) - (1:Int32)) then (1:Int32) else (0:Int32))), none, none, none], [.int (mk.2.2.1 ((6:Int32) + ((((6:Int32) * ((v1 / (7:Int32)) - (1:Int32))) + (v1 - v1 / (7:Int32) * (7:Int32))) - (1:Int32))).toNatClampNeg)], (cW nw kp im ol sn sr tp (mW mk mg mt mc T)), 0, 0)))
              refine stp hm 4 (brn hf (fun c29 hf => ?_) (fun c29 hf => ?_))
              · show sxWP sc cl Q 179 (151, [some (.ref 59), some (.int v1), some (.int (v1 / (7:Int32))), some (.int (v1 - v1 / (7:Int32) * (7:Int32))), some (.int ((((6:Int32) * ((v1 / (7:Int32)) - (1:Int32))) + (v1 - v1 / (7:Int32) * (7:Int32))) - (1:Int32))), some (.int ((((((6:Int32) * ((v1 / (7:Int32)) - (1:Int32))) + (v1 - v1 / (7:Int32) * (7:Int32))) - (1:Int32)) + (6:Int32)) + (1:Int32))), some (.int (if (mk.2.2.1 ((6:Int32) + ((((((6:Int32) * ((v1 / (7:Int32)) - (1:Int32))) + (v1 - v1 / (7:Int32) * (7:Int32))) - (1:Int32)) + (6:Int32)) + (1:Int32))).toNatClampNeg) = (((((((6:Int32) * ((v1 / (7:Int32)) - (1:Int32))) + (v1 - v1 / (7:Int32) * (7:Int32))) - (1:Int32)) + (6:Int32)) + (1:Int32)) - (1:Int32)) then (1:Int32) else (0:Int32))), none, none, none], [], (cW nw kp im ol sn sr tp (mW mk mg mt mc T)), 0, 0)
                exact J151 _ _ _ _ _ _ _ _ _ _ _ _ _ _ _ _ _ _ _ _ _ _ _ hf
              · show sxWP sc cl Q 179 (129, [some (.ref 59), some (.int v1), some (.int (v1 / (7:Int32))), some (.int (v1 - v1 / (7:Int32) * (7:Int32))), some (.int ((((6:Int32) * ((v1 / (7:Int32)) - (1:Int32))) + (v1 - v1 / (7:Int32) * (7:Int32))) - (1:Int32))), some (.int ((((((6:Int32) * ((v1 / (7:Int32)) - (1:Int32))) + (v1 - v1 / (7:Int32) * (7:Int32))) - (1:Int32)) + (6:Int32)) + (1:Int32))), some (.int (if (mk.2.2.1 ((6:Int32) + ((((((6:Int32) * ((v1 / (7:Int32)) - (1:Int32))) + (v1 - v1 / (7:Int32) * (7:Int32))) - (1:Int32)) + (6:Int32)) + (1:Int32))).toNatClampNeg) = (((((((6:Int32) * ((v1 / (7:Int32)) - (1:Int32))) + (v1 - v1 / (7:Int32) * (7:Int32))) - (1:Int32)) + (6:Int32)) + (1:Int32)) - (1:Int32)) then (1:Int32) else (0:Int32))), none, none, none], [], (cW nw kp im ol sn sr tp (mW mk mg mt mc T)), 0, 0)
                obtain ⟨g30, hf⟩ := grd_e hf
                refine stp hm 6 (And.intro (gi_in g30) (?_ : sxWP sc cl Q 179 (139, [some (.ref 59), some (.int v1), some (.int (v1 / (7:Int32))), some (.int (v1 - v1 / (7:Int32) * (7:Int32))), some (.int ((((6:Int32) * ((v1 / (7:Int32)) - (1:Int32))) + (v1 - v1 / (7:Int32) * (7:Int32))) - (1:Int32))), some (.int ((((((6:Int32) * ((v1 / (7:Int32)) - (1:Int32))) + (v1 - v1 / (7:Int32) * (7:Int32))) - (1:Int32)) + (6:Int32)) + (1:Int32))), some (.int (if (mk.2.2.1 ((6:Int32) + ((((((6:Int32) * ((v1 / (7:Int32)) - (1:Int32))) + (v1 - v1 / (7:Int32) * (7:Int32))) - (1:Int32)) + (6:Int32)) + (1:Int32))).toNatClampNeg) = (((((((6:Int32) * ((v1 / (7:Int32)) - (1:Int32))) + (v1 - v1 / (7:Int32) * (7:Int32))) - (1:Int32)) + (6:Int32)) + (1:Int32)) - (1:Int32)) then (1:Int32) else (0:Int32))), none, none, none], [.int (mk.2.2.1 ((6:Int32) + ((((((6:Int32) * ((v1 / (7:Int32)) - (1:Int32))) + (v1 - v1 / (7:Int32) * (7:Int32))) - (1:Int32)) + (6:Int32)) + (1:Int32))).toNatClampNeg)], (cW nw kp im ol sn sr tp (mW mk mg mt mc T)), 0, 0)))
                have m31 : ∀ (m31_0 : Int32), m31_0 = (if (mk.2.2.1 ((6:Int32) + ((((((6:Int32) * ((v1 / (7:Int32)) - (1:Int32))) + (v1 - v1 / (7:Int32) * (7:Int32))) - (1:Int32)) + (6:Int32)) + (1:Int32))).toNatClampNeg) = (((((((6:Int32) * ((v1 / (7:Int32)) - (1:Int32))) + (v1 - v1 / (7:Int32) * (7:Int32))) - (1:Int32)) + (6:Int32)) + (1:Int32)) - (6:Int32)) then (1:Int32) else (0:Int32)) → sxWP sc cl Q 179 (152, [some (.ref 59), some (.int v1), some (.int (v1 / (7:Int32))), some (.int (v1 - v1 / (7:Int32) * (7:Int32))), some (.int ((((6:Int32) * ((v1 / (7:Int32)) - (1:Int32))) + (v1 - v1 / (7:Int32) * (7:Int32))) - (1:Int32))), some (.int ((((((6:Int32) * ((v1 / (7:Int32)) - (1:Int32))) + (v1 - v1 / (7:Int32) * (7:Int32))) - (1:Int32)) + (6:Int32)) + (1:Int32))), some (.int (if (mk.2.2.1 ((6:Int32) + ((((((6:Int32) * ((v1 / (7:Int32)) - (1:Int32))) + (v1 - v1 / (7:Int32) * (7:Int32))) - (1:Int32)) + (6:Int32)) + (1:Int32))).toNatClampNeg) = (((((((6:Int32) * ((v1 / (7:Int32)) - (1:Int32))) + (v1 - v1 / (7:Int32) * (7:Int32))) - (1:Int32)) + (6:Int32)) + (1:Int32)) - (1:Int32)) then (1:Int32) else (0:Int32))), none, none, none], [.int m31_0], (cW nw kp im ol sn sr tp (mW mk mg mt mc T)), 0, 0) := by
                  intro m31_0 em31_0
                  subst em31_0
                  refine stp hm 3 (brn hf (fun c32 hf => ?_) (fun c32 hf => ?_))
                  · show sxWP sc cl Q 179 (167, [some (.ref 59), some (.int v1), some (.int (v1 / (7:Int32))), some (.int (v1 - v1 / (7:Int32) * (7:Int32))), some (.int ((((6:Int32) * ((v1 / (7:Int32)) - (1:Int32))) + (v1 - v1 / (7:Int32) * (7:Int32))) - (1:Int32))), some (.int ((((((6:Int32) * ((v1 / (7:Int32)) - (1:Int32))) + (v1 - v1 / (7:Int32) * (7:Int32))) - (1:Int32)) + (6:Int32)) + (1:Int32))), some (.int (if (mk.2.2.1 ((6:Int32) + ((((((6:Int32) * ((v1 / (7:Int32)) - (1:Int32))) + (v1 - v1 / (7:Int32) * (7:Int32))) - (1:Int32)) + (6:Int32)) + (1:Int32))).toNatClampNeg) = (((((((6:Int32) * ((v1 / (7:Int32)) - (1:Int32))) + (v1 - v1 / (7:Int32) * (7:Int32))) - (1:Int32)) + (6:Int32)) + (1:Int32)) - (1:Int32)) then (1:Int32) else (0:Int32))), some (.int (if (mk.2.2.1 ((6:Int32) + ((((((6:Int32) * ((v1 / (7:Int32)) - (1:Int32))) + (v1 - v1 / (7:Int32) * (7:Int32))) - (1:Int32)) + (6:Int32)) + (1:Int32))).toNatClampNeg) = (((((((6:Int32) * ((v1 / (7:Int32)) - (1:Int32))) + (v1 - v1 / (7:Int32) * (7:Int32))) - (1:Int32)) + (6:Int32)) + (1:Int32)) - (6:Int32)) then (1:Int32) else (0:Int32))), none, none], [], (cW nw kp im ol sn sr tp (mW mk mg mt mc T)), 0, 0)
                    exact J167 _ _ _ _ _ _ _ _ _ _ _ _ _ _ _ _ _ _ _ _ _ _ _ hf
                  · show sxWP sc cl Q 179 (159, [some (.ref 59), some (.int v1), some (.int (v1 / (7:Int32))), some (.int (v1 - v1 / (7:Int32) * (7:Int32))), some (.int ((((6:Int32) * ((v1 / (7:Int32)) - (1:Int32))) + (v1 - v1 / (7:Int32) * (7:Int32))) - (1:Int32))), some (.int ((((((6:Int32) * ((v1 / (7:Int32)) - (1:Int32))) + (v1 - v1 / (7:Int32) * (7:Int32))) - (1:Int32)) + (6:Int32)) + (1:Int32))), some (.int (if (mk.2.2.1 ((6:Int32) + ((((((6:Int32) * ((v1 / (7:Int32)) - (1:Int32))) + (v1 - v1 / (7:Int32) * (7:Int32))) - (1:Int32)) + (6:Int32)) + (1:Int32))).toNatClampNeg) = (((((((6:Int32) * ((v1 / (7:Int32)) - (1:Int32))) + (v1 - v1 / (7:Int32) * (7:Int32))) - (1:Int32)) + (6:Int32)) + (1:Int32)) - (1:Int32)) then (1:Int32) else (0:Int32))), some (.int (if (mk.2.2.1 ((6:Int32) + ((((((6:Int32) * ((v1 / (7:Int32)) - (1:Int32))) + (v1 - v1 / (7:Int32) * (7:Int32))) - (1:Int32)) + (6:Int32)) + (1:Int32))).toNatClampNeg) = (((((((6:Int32) * ((v1 / (7:Int32)) - (1:Int32))) + (v1 - v1 / (7:Int32) * (7:Int32))) - (1:Int32)) + (6:Int32)) + (1:Int32)) - (6:Int32)) then (1:Int32) else (0:Int32))), none, none], [], (cW nw kp im ol sn sr tp (mW mk mg mt mc T)), 0, 0)
                    refine stp hm 2 (brn hf (fun c33 hf => ?_) (fun c33 hf => ?_))
                    · show sxWP sc cl Q 179 (167, [some (.ref 59), some (.int v1), some (.int (v1 / (7:Int32))), some (.int (v1 - v1 / (7:Int32) * (7:Int32))), some (.int ((((6:Int32) * ((v1 / (7:Int32)) - (1:Int32))) + (v1 - v1 / (7:Int32) * (7:Int32))) - (1:Int32))), some (.int ((((((6:Int32) * ((v1 / (7:Int32)) - (1:Int32))) + (v1 - v1 / (7:Int32) * (7:Int32))) - (1:Int32)) + (6:Int32)) + (1:Int32))), some (.int (if (mk.2.2.1 ((6:Int32) + ((((((6:Int32) * ((v1 / (7:Int32)) - (1:Int32))) + (v1 - v1 / (7:Int32) * (7:Int32))) - (1:Int32)) + (6:Int32)) + (1:Int32))).toNatClampNeg) = (((((((6:Int32) * ((v1 / (7:Int32)) - (1:Int32))) + (v1 - v1 / (7:Int32) * (7:Int32))) - (1:Int32)) + (6:Int32)) + (1:Int32)) - (1:Int32)) then (1:Int32) else (0:Int32))), some (.int (if (mk.2.2.1 ((6:Int32) + ((((((6:Int32) * ((v1 / (7:Int32)) - (1:Int32))) + (v1 - v1 / (7:Int32) * (7:Int32))) - (1:Int32)) + (6:Int32)) + (1:Int32))).toNatClampNeg) = (((((((6:Int32) * ((v1 / (7:Int32)) - (1:Int32))) + (v1 - v1 / (7:Int32) * (7:Int32))) - (1:Int32)) + (6:Int32)) + (1:Int32)) - (6:Int32)) then (1:Int32) else (0:Int32))), none, none], [], (cW nw kp im ol sn sr tp (mW mk mg mt mc T)), 0, 0)
                      exact J167 _ _ _ _ _ _ _ _ _ _ _ _ _ _ _ _ _ _ _ _ _ _ _ hf
                    · show sxWP sc cl Q 179 (164, [some (.ref 59), some (.int v1), some (.int (v1 / (7:Int32))), some (.int (v1 - v1 / (7:Int32) * (7:Int32))), some (.int ((((6:Int32) * ((v1 / (7:Int32)) - (1:Int32))) + (v1 - v1 / (7:Int32) * (7:Int32))) - (1:Int32))), some (.int ((((((6:Int32) * ((v1 / (7:Int32)) - (1:Int32))) + (v1 - v1 / (7:Int32) * (7:Int32))) - (1:Int32)) + (6:Int32)) + (1:Int32))), some (.int (if (mk.2.2.1 ((6:Int32) + ((((((6:Int32) * ((v1 / (7:Int32)) - (1:Int32))) + (v1 - v1 / (7:Int32) * (7:Int32))) - (1:Int32)) + (6:Int32)) + (1:Int32))).toNatClampNeg) = (((((((6:Int32) * ((v1 / (7:Int32)) - (1:Int32))) + (v1 - v1 / (7:Int32) * (7:Int32))) - (1:Int32)) + (6:Int32)) + (1:Int32)) - (1:Int32)) then (1:Int32) else (0:Int32))), some (.int (if (mk.2.2.1 ((6:Int32) + ((((((6:Int32) * ((v1 / (7:Int32)) - (1:Int32))) + (v1 - v1 / (7:Int32) * (7:Int32))) - (1:Int32)) + (6:Int32)) + (1:Int32))).toNatClampNeg) = (((((((6:Int32) * ((v1 / (7:Int32)) - (1:Int32))) + (v1 - v1 / (7:Int32) * (7:Int32))) - (1:Int32)) + (6:Int32)) + (1:Int32)) - (6:Int32)) then (1:Int32) else (0:Int32))), none, none], [], (cW nw kp im ol sn sr tp (mW mk mg mt mc T)), 0, 0)
                      obtain rfl := Option.some.inj hf
                      refine stp hm 2 ?_
                      exact h
                refine stp hm 4 (bsn (c := (mk.2.2.1 ((6:Int32) + ((((((6:Int32) * ((v1 / (7:Int32)) - (1:Int32))) + (v1 - v1 / (7:Int32) * (7:Int32))) - (1:Int32)) + (6:Int32)) + (1:Int32))).toNatClampNeg) = (((((((6:Int32) * ((v1 / (7:Int32)) - (1:Int32))) + (v1 - v1 / (7:Int32) * (7:Int32))) - (1:Int32)) + (6:Int32)) + (1:Int32)) - (6:Int32))) (fun c34 => ?_) (fun c34 => ?_))
                · have c34 : ¬ (mk.2.2.1 ((6:Int32) + ((((((6:Int32) * ((v1 / (7:Int32)) - (1:Int32))) + (v1 - v1 / (7:Int32) * (7:Int32))) - (1:Int32)) + (6:Int32)) + (1:Int32))).toNatClampNeg) = (((((((6:Int32) * ((v1 / (7:Int32)) - (1:Int32))) + (v1 - v1 / (7:Int32) * (7:Int32))) - (1:Int32)) + (6:Int32)) + (1:Int32)) - (6:Int32)) := c34
                  refine stp hm 1 (?_ : sxWP sc cl Q 179 (152, [some (.ref 59), some (.int v1), some (.int (v1 / (7:Int32))), some (.int (v1 - v1 / (7:Int32) * (7:Int32))), some (.int ((((6:Int32) * ((v1 / (7:Int32)) - (1:Int32))) + (v1 - v1 / (7:Int32) * (7:Int32))) - (1:Int32))), some (.int ((((((6:Int32) * ((v1 / (7:Int32)) - (1:Int32))) + (v1 - v1 / (7:Int32) * (7:Int32))) - (1:Int32)) + (6:Int32)) + (1:Int32))), some (.int (if (mk.2.2.1 ((6:Int32) + ((((((6:Int32) * ((v1 / (7:Int32)) - (1:Int32))) + (v1 - v1 / (7:Int32) * (7:Int32))) - (1:Int32)) + (6:Int32)) + (1:Int32))).toNatClampNeg) = (((((((6:Int32) * ((v1 / (7:Int32)) - (1:Int32))) + (v1 - v1 / (7:Int32) * (7:Int32))) - (1:Int32)) + (6:Int32)) + (1:Int32)) - (1:Int32)) then (1:Int32) else (0:Int32))), none, none, none], [.int (0:Int32)], (cW nw kp im ol sn sr tp (mW mk mg mt mc T)), 0, 0))
                  exact m31 _ (by rw [if_neg c34])
                · have c34 : (mk.2.2.1 ((6:Int32) + ((((((6:Int32) * ((v1 / (7:Int32)) - (1:Int32))) + (v1 - v1 / (7:Int32) * (7:Int32))) - (1:Int32)) + (6:Int32)) + (1:Int32))).toNatClampNeg) = (((((((6:Int32) * ((v1 / (7:Int32)) - (1:Int32))) + (v1 - v1 / (7:Int32) * (7:Int32))) - (1:Int32)) + (6:Int32)) + (1:Int32)) - (6:Int32)) := c34
                  refine stp hm 2 (?_ : sxWP sc cl Q 179 (152, [some (.ref 59), some (.int v1), some (.int (v1 / (7:Int32))), some (.int (v1 - v1 / (7:Int32) * (7:Int32))), some (.int ((((6:Int32) * ((v1 / (7:Int32)) - (1:Int32))) + (v1 - v1 / (7:Int32) * (7:Int32))) - (1:Int32))), some (.int ((((((6:Int32) * ((v1 / (7:Int32)) - (1:Int32))) + (v1 - v1 / (7:Int32) * (7:Int32))) - (1:Int32)) + (6:Int32)) + (1:Int32))), some (.int (if (mk.2.2.1 ((6:Int32) + ((((((6:Int32) * ((v1 / (7:Int32)) - (1:Int32))) + (v1 - v1 / (7:Int32) * (7:Int32))) - (1:Int32)) + (6:Int32)) + (1:Int32))).toNatClampNeg) = (((((((6:Int32) * ((v1 / (7:Int32)) - (1:Int32))) + (v1 - v1 / (7:Int32) * (7:Int32))) - (1:Int32)) + (6:Int32)) + (1:Int32)) - (1:Int32)) then (1:Int32) else (0:Int32))), none, none, none], [.int (1:Int32)], (cW nw kp im ol sn sr tp (mW mk mg mt mc T)), 0, 0))
                  exact m31 _ (by rw [if_pos c34])
            refine stp hm 4 (bsn (c := (mk.2.2.1 ((6:Int32) + ((((((6:Int32) * ((v1 / (7:Int32)) - (1:Int32))) + (v1 - v1 / (7:Int32) * (7:Int32))) - (1:Int32)) + (6:Int32)) + (1:Int32))).toNatClampNeg) = (((((((6:Int32) * ((v1 / (7:Int32)) - (1:Int32))) + (v1 - v1 / (7:Int32) * (7:Int32))) - (1:Int32)) + (6:Int32)) + (1:Int32)) - (1:Int32))) (fun c35 => ?_) (fun c35 => ?_))
            · have c35 : ¬ (mk.2.2.1 ((6:Int32) + ((((((6:Int32) * ((v1 / (7:Int32)) - (1:Int32))) + (v1 - v1 / (7:Int32) * (7:Int32))) - (1:Int32)) + (6:Int32)) + (1:Int32))).toNatClampNeg) = (((((((6:Int32) * ((v1 / (7:Int32)) - (1:Int32))) + (v1 - v1 / (7:Int32) * (7:Int32))) - (1:Int32)) + (6:Int32)) + (1:Int32)) - (1:Int32)) := c35
              refine stp hm 1 (?_ : sxWP sc cl Q 179 (109, [some (.ref 59), some (.int v1), some (.int (v1 / (7:Int32))), some (.int (v1 - v1 / (7:Int32) * (7:Int32))), some (.int ((((6:Int32) * ((v1 / (7:Int32)) - (1:Int32))) + (v1 - v1 / (7:Int32) * (7:Int32))) - (1:Int32))), some (.int ((((((6:Int32) * ((v1 / (7:Int32)) - (1:Int32))) + (v1 - v1 / (7:Int32) * (7:Int32))) - (1:Int32)) + (6:Int32)) + (1:Int32))), none, none, none, none], [.int (0:Int32)], (cW nw kp im ol sn sr tp (mW mk mg mt mc T)), 0, 0))
              exact m27 _ (by rw [if_neg c35])
            · have c35 : (mk.2.2.1 ((6:Int32) + ((((((6:Int32) * ((v1 / (7:Int32)) - (1:Int32))) + (v1 - v1 / (7:Int32) * (7:Int32))) - (1:Int32)) + (6:Int32)) + (1:Int32))).toNatClampNeg) = (((((((6:Int32) * ((v1 / (7:Int32)) - (1:Int32))) + (v1 - v1 / (7:Int32) * (7:Int32))) - (1:Int32)) + (6:Int32)) + (1:Int32)) - (1:Int32)) := c35
              refine stp hm 2 (?_ : sxWP sc cl Q 179 (109, [some (.ref 59), some (.int v1), some (.int (v1 / (7:Int32))), some (.int (v1 - v1 / (7:Int32) * (7:Int32))), some (.int ((((6:Int32) * ((v1 / (7:Int32)) - (1:Int32))) + (v1 - v1 / (7:Int32) * (7:Int32))) - (1:Int32))), some (.int ((((((6:Int32) * ((v1 / (7:Int32)) - (1:Int32))) + (v1 - v1 / (7:Int32) * (7:Int32))) - (1:Int32)) + (6:Int32)) + (1:Int32))), none, none, none, none], [.int (1:Int32)], (cW nw kp im ol sn sr tp (mW mk mg mt mc T)), 0, 0))
              exact m27 _ (by rw [if_pos c35])
        · show sxWP sc cl Q 179 (46, [some (.ref 59), some (.int v1), some (.int (v1 / (7:Int32))), some (.int (v1 - v1 / (7:Int32) * (7:Int32))), none, none, none, none, none, none], [], (cW nw kp im ol sn sr tp (mW mk mg mt mc T)), 0, 0)
          exact J46 _ _ _ _ _ _ _ _ _ _ _ _ _ _ _ _ _ _ _ _ _ _ _ _ hf
  · show sxWP sc cl Q 179 (7, [some (.ref 59), some (.int v1), none, none, none, none, none, none, none, none], [], (cW nw kp im ol sn sr tp (mW mk mg mt mc T)), 0, 0)
    obtain rfl := Option.some.inj hf
    refine stp hm 2 ?_
    exact h

def P_restart (v1 : Int32)  : Option (Int32 × Int32) := some (v1, (0:Int32))
set_option maxRecDepth 10000 in
theorem P_restart_ok {v1 : Int32} {q : (Int32 × Int32)} (hc : call = sxE sc (d + 1)) (hf : P_restart v1 = some q) (h : Q none (cW (nw.1, nw.2.1, nw.2.2.1, (q.1, q.2, nw.2.2.2.1.2.2.1, nw.2.2.2.1.2.2.2), nw.2.2.2.2.1, nw.2.2.2.2.2.1, nw.2.2.2.2.2.2) kp im ol sn sr tp (mW mk mg mt mc T))) : call 36 [.ref 3, .int v1] (cW nw kp im ol sn sr tp (mW mk mg mt mc T)) Q := by
  refine ent hc rfl (fun cl hE hm => ?_)
  unfold P_restart at hf
  obtain rfl := Option.some.inj hf
  refine stp hm 7 ?_
  exact h

def X_begin (v1 : Int32) (nps : Int32) (npl : Int32) : Option (Int32 × Int32 × Int32) := if (G_isVertex v1) = (0:Int32) then (some ((-1:Int32), nps, npl)) else (Option.bind (P_restart v1) (fun q2 => some (npl, q2.1, q2.2)))
set_option maxRecDepth 10000 in
theorem X_begin_ok {v1 : Int32} {q : (Int32 × Int32 × Int32)} (hc : call = sxE sc (d + 2)) (hf : X_begin v1 nw.2.2.2.1.1 nw.2.2.2.1.2.1 = some q) (h : Q (some (.int q.1)) (cW (nw.1, nw.2.1, nw.2.2.1, (q.2.1, q.2.2, nw.2.2.2.1.2.2.1, nw.2.2.2.1.2.2.2), nw.2.2.2.2.1, nw.2.2.2.2.2.1, nw.2.2.2.2.2.2) kp im ol sn sr tp (mW mk mg mt mc T))) : call 95 [.ref 0, .int v1] (cW nw kp im ol sn sr tp (mW mk mg mt mc T)) Q := by
  refine ent hc rfl (fun cl hE hm => ?_)
  unfold X_begin at hf
  refine stp hm 2 (G_isVertex_ok hE rfl ?_)
  show sxWP sc cl Q 95 (4, [some (.ref 0), some (.int v1), none], [.int (G_isVertex v1)], (cW nw kp im ol sn sr tp (mW mk mg mt mc T)), 0, 0)
  refine stp hm 1 (brn hf (fun c1 hf => ?_) (fun c1 hf => ?_))
  · show sxWP sc cl Q 95 (9, [some (.ref 0), some (.int v1), none], [], (cW nw kp im ol sn sr tp (mW mk mg mt mc T)), 0, 0)
    obtain ⟨q2, hq2, hf⟩ := bnd hf
    refine stp hm 10 (P_restart_ok hE hq2 ?_)
    show sxWP sc cl Q 95 (31, [some (.ref 0), some (.int v1), some (.int nw.2.2.2.1.2.1)], [], (cW (nw.1, nw.2.1, nw.2.2.1, (q2.1, q2.2, nw.2.2.2.1.2.2.1, nw.2.2.2.1.2.2.2), nw.2.2.2.2.1, nw.2.2.2.2.2.1, nw.2.2.2.2.2.2) kp im ol sn sr tp (mW mk mg mt mc T)), 0, 0)
    obtain rfl := Option.some.inj hf
    refine stp hm 2 ?_
    exact h
  · show sxWP sc cl Q 95 (7, [some (.ref 0), some (.int v1), none], [], (cW nw kp im ol sn sr tp (mW mk mg mt mc T)), 0, 0)
    obtain rfl := Option.some.inj hf
    refine stp hm 2 ?_
    exact h

def M_begin (v1 : Int32) (ms : (Nat → Int32)) : Option (Int32 × (Nat → Int32)) := if (M_isVertex v1) = (0:Int32) then (some ((-1:Int32), ms)) else (grd (gi (2:Int32) 122) (grd (gi (1:Int32) 122) (grd (gi (2:Int32) 122) (some (ms (2:Int32).toNatClampNeg, upd (upd ms (1:Int32).toNatClampNeg v1) (2:Int32).toNatClampNeg (0:Int32))))))
set_option maxRecDepth 10000 in
theorem M_begin_ok {v1 : Int32} {q : (Int32 × (Nat → Int32))} (hc : call = sxE sc (d + 3)) (hf : M_begin v1 mk.2.2.1 = some q) (h : Q (some (.int q.1)) (cW nw kp im ol sn sr tp (mW (mk.1, mk.2.1, q.2, mk.2.2.2.1, mk.2.2.2.2.1, mk.2.2.2.2.2.1, mk.2.2.2.2.2.2.1, mk.2.2.2.2.2.2.2.1, mk.2.2.2.2.2.2.2.2.1, mk.2.2.2.2.2.2.2.2.2) mg mt mc T))) : call 180 [.ref 59, .int v1] (cW nw kp im ol sn sr tp (mW mk mg mt mc T)) Q := by
  refine ent hc rfl (fun cl hE hm => ?_)
  unfold M_begin at hf
  refine stp hm 2 (M_isVertex_ok hE rfl ?_)
  show sxWP sc cl Q 180 (4, [some (.ref 59), some (.int v1), none], [.int (M_isVertex v1)], (cW nw kp im ol sn sr tp (mW mk mg mt mc T)), 0, 0)
  refine stp hm 1 (brn hf (fun c1 hf => ?_) (fun c1 hf => ?_))
  · show sxWP sc cl Q 180 (9, [some (.ref 59), some (.int v1), none], [], (cW nw kp im ol sn sr tp (mW mk mg mt mc T)), 0, 0)
    obtain ⟨g2, hf⟩ := grd_e hf
    refine stp hm 4 (And.intro (gi_in g2) (?_ : sxWP sc cl Q 180 (15, [some (.ref 59), some (.int v1), none], [.int (mk.2.2.1 (2:Int32).toNatClampNeg)], (cW nw kp im ol sn sr tp (mW mk mg mt mc T)), 0, 0)))
    obtain ⟨g3, hf⟩ := grd_e hf
    refine stp hm 6 (And.intro (gi_in g3) (?_ : sxWP sc cl Q 180 (23, [some (.ref 59), some (.int v1), some (.int (mk.2.2.1 (2:Int32).toNatClampNeg))], [], (cW nw kp im ol sn sr tp (mW (mk.1, mk.2.1, upd mk.2.2.1 (1:Int32).toNatClampNeg v1, mk.2.2.2.1, mk.2.2.2.2.1, mk.2.2.2.2.2.1, mk.2.2.2.2.2.2.1, mk.2.2.2.2.2.2.2.1, mk.2.2.2.2.2.2.2.2.1, mk.2.2.2.2.2.2.2.2.2) mg mt mc T)), 0, 0)))
    obtain ⟨g4, hf⟩ := grd_e hf
    refine stp hm 5 (And.intro (gi_in g4) (?_ : sxWP sc cl Q 180 (30, [some (.ref 59), some (.int v1), some (.int (mk.2.2.1 (2:Int32).toNatClampNeg))], [], (cW nw kp im ol sn sr tp (mW (mk.1, mk.2.1, upd (upd mk.2.2.1 (1:Int32).toNatClampNeg v1) (2:Int32).toNatClampNeg (0:Int32), mk.2.2.2.1, mk.2.2.2.2.1, mk.2.2.2.2.2.1, mk.2.2.2.2.2.2.1, mk.2.2.2.2.2.2.2.1, mk.2.2.2.2.2.2.2.2.1, mk.2.2.2.2.2.2.2.2.2) mg mt mc T)), 0, 0)))
    obtain rfl := Option.some.inj hf
    refine stp hm 2 ?_
    exact h
  · show sxWP sc cl Q 180 (7, [some (.ref 59), some (.int v1), none], [], (cW nw kp im ol sn sr tp (mW mk mg mt mc T)), 0, 0)
    obtain rfl := Option.some.inj hf
    refine stp hm 2 ?_
    exact h

def G_next (v0 : Int32) (v1 : Int32)  : Int32 := if (G_isVertex v0) = (0:Int32) then (-1:Int32) else (G_vertexAt ((v0 / (7:Int32)) + (if v1 = (1:Int32) then (1:Int32) else (if v1 = (3:Int32) then (-1:Int32) else (0:Int32)))) ((v0 - v0 / (7:Int32) * (7:Int32)) + (if v1 = (0:Int32) then (1:Int32) else (if v1 = (2:Int32) then (-1:Int32) else (0:Int32)))))
set_option maxRecDepth 10000 in
theorem G_next_ok {v0 : Int32} {v1 : Int32} {r : Int32} (hc : call = sxE sc (d + 2)) (hf : G_next v0 v1 = r) (h : Q (some (.int r)) hp) : call 13 [.int v0, .int v1] hp Q := by
  refine ent hc rfl (fun cl hE hm => ?_)
  unfold G_next at hf
  refine stp hm 2 (G_isVertex_ok hE rfl ?_)
  show sxWP sc cl Q 13 (4, [some (.int v0), some (.int v1), none, none], [.int (G_isVertex v0)], hp, 0, 0)
  refine stp hm 1 (brn hf (fun c1 hf => ?_) (fun c1 hf => ?_))
  · show sxWP sc cl Q 13 (9, [some (.int v0), some (.int v1), none, none], [], hp, 0, 0)
    have m2 : ∀ (m2_0 : Int32), m2_0 = (if v1 = (1:Int32) then (1:Int32) else (if v1 = (3:Int32) then (-1:Int32) else (0:Int32))) → sxWP sc cl Q 13 (28, [some (.int v0), some (.int v1), none, none], [.int m2_0], hp, 0, 0) := by
      intro m2_0 em2_0
      subst em2_0
      have m3 : ∀ (m3_0 : Int32), m3_0 = (if v1 = (0:Int32) then (1:Int32) else (if v1 = (2:Int32) then (-1:Int32) else (0:Int32))) → sxWP sc cl Q 13 (47, [some (.int v0), some (.int v1), some (.int (if v1 = (1:Int32) then (1:Int32) else (if v1 = (3:Int32) then (-1:Int32) else (0:Int32)))), none], [.int m3_0], hp, 0, 0) := by
        intro m3_0 em3_0
        subst em3_0
        refine stp hm 4 (And.intro (by decide) (?_ : sxWP sc cl Q 13 (52, [some (.int v0), some (.int v1), some (.int (if v1 = (1:Int32) then (1:Int32) else (if v1 = (3:Int32) then (-1:Int32) else (0:Int32)))), some (.int (if v1 = (0:Int32) then (1:Int32) else (if v1 = (2:Int32) then (-1:Int32) else (0:Int32))))], [.int (v0 / (7:Int32))], hp, 0, 0)))
        refine stp hm 5 (And.intro (by decide) (?_ : sxWP sc cl Q 13 (58, [some (.int v0), some (.int v1), some (.int (if v1 = (1:Int32) then (1:Int32) else (if v1 = (3:Int32) then (-1:Int32) else (0:Int32)))), some (.int (if v1 = (0:Int32) then (1:Int32) else (if v1 = (2:Int32) then (-1:Int32) else (0:Int32))))], [.int (v0 - v0 / (7:Int32) * (7:Int32)), .int ((v0 / (7:Int32)) + (if v1 = (1:Int32) then (1:Int32) else (if v1 = (3:Int32) then (-1:Int32) else (0:Int32))))], hp, 0, 0)))
        refine stp hm 3 (G_vertexAt_ok hE rfl ?_)
        show sxWP sc cl Q 13 (63, [some (.int v0), some (.int v1), some (.int (if v1 = (1:Int32) then (1:Int32) else (if v1 = (3:Int32) then (-1:Int32) else (0:Int32)))), some (.int (if v1 = (0:Int32) then (1:Int32) else (if v1 = (2:Int32) then (-1:Int32) else (0:Int32))))], [.int (G_vertexAt ((v0 / (7:Int32)) + (if v1 = (1:Int32) then (1:Int32) else (if v1 = (3:Int32) then (-1:Int32) else (0:Int32)))) ((v0 - v0 / (7:Int32) * (7:Int32)) + (if v1 = (0:Int32) then (1:Int32) else (if v1 = (2:Int32) then (-1:Int32) else (0:Int32)))))], hp, 0, 0)
        subst hf
        refine stp hm 1 ?_
        exact h
      refine stp hm 3 (bsn (c := v1 = (0:Int32)) (fun c4 => ?_) (fun c4 => ?_))
      · have c4 : ¬ v1 = (0:Int32) := c4
        refine stp hm 3 (bsn (c := v1 = (2:Int32)) (fun c5 => ?_) (fun c5 => ?_))
        · have c5 : ¬ v1 = (2:Int32) := c5
          refine stp hm 1 (?_ : sxWP sc cl Q 13 (47, [some (.int v0), some (.int v1), some (.int (if v1 = (1:Int32) then (1:Int32) else (if v1 = (3:Int32) then (-1:Int32) else (0:Int32)))), none], [.int (0:Int32)], hp, 0, 0))
          exact m3 _ (by rw [if_neg c4, if_neg c5])
        · have c5 : v1 = (2:Int32) := c5
          refine stp hm 2 (?_ : sxWP sc cl Q 13 (47, [some (.int v0), some (.int v1), some (.int (if v1 = (1:Int32) then (1:Int32) else (if v1 = (3:Int32) then (-1:Int32) else (0:Int32)))), none], [.int (-1:Int32)], hp, 0, 0))
          exact m3 _ (by rw [if_neg c4, if_pos c5])
      · have c4 : v1 = (0:Int32) := c4
        refine stp hm 2 (?_ : sxWP sc cl Q 13 (47, [some (.int v0), some (.int v1), some (.int (if v1 = (1:Int32) then (1:Int32) else (if v1 = (3:Int32) then (-1:Int32) else (0:Int32)))), none], [.int (1:Int32)], hp, 0, 0))
        exact m3 _ (by rw [if_pos c4])
    refine stp hm 3 (bsn (c := v1 = (1:Int32)) (fun c6 => ?_) (fun c6 => ?_))
    · have c6 : ¬ v1 = (1:Int32) := c6
      refine stp hm 3 (bsn (c := v1 = (3:Int32)) (fun c7 => ?_) (fun c7 => ?_))
      · have c7 : ¬ v1 = (3:Int32) := c7
        refine stp hm 1 (?_ : sxWP sc cl Q 13 (28, [some (.int v0), some (.int v1), none, none], [.int (0:Int32)], hp, 0, 0))
        exact m2 _ (by rw [if_neg c6, if_neg c7])
      · have c7 : v1 = (3:Int32) := c7
        refine stp hm 2 (?_ : sxWP sc cl Q 13 (28, [some (.int v0), some (.int v1), none, none], [.int (-1:Int32)], hp, 0, 0))
        exact m2 _ (by rw [if_neg c6, if_pos c7])
    · have c6 : v1 = (1:Int32) := c6
      refine stp hm 2 (?_ : sxWP sc cl Q 13 (28, [some (.int v0), some (.int v1), none, none], [.int (1:Int32)], hp, 0, 0))
      exact m2 _ (by rw [if_pos c6])
  · show sxWP sc cl Q 13 (7, [some (.int v0), some (.int v1), none, none], [], hp, 0, 0)
    subst hf
    refine stp hm 2 ?_
    exact h

def P_ends_s7   (npl : Int32) (npw : (Nat → Int32)) (s : (Int32 × Int32)) : Option ((Int32 × Int32) ⊕ Int32) := if npl ≤ s.2 then (some (Sum.inr s.1)) else (if (40:Int32) ≤ s.2 then (some (Sum.inr s.1)) else (grd (gi s.2 40) (some (Sum.inl (G_next s.1 (npw s.2.toNatClampNeg), s.2 + (1:Int32))))))
def P_ends  (nps : Int32) (npl : Int32) (npw : (Nat → Int32)) : Option Int32 := Option.bind (wh (P_ends_s7 npl npw) FU (nps, (0:Int32))) (fun w1 => some w1)
set_option maxRecDepth 10000 in
theorem P_ends_l7    (hE : cl = sxE sc (d + 2)) (hm : CallMono cl) : ∀ (n : Nat) (s : (Int32 × Int32)) (r : Int32), wh (P_ends_s7 nw.2.2.2.1.2.1 nw.2.2.2.1.2.2.1) n s = some r → (∀ (z0 z2 : Option Value), sxWP sc cl Q 39 (38, [z0, some (.int r), z2], [], (cW nw kp im ol sn sr tp (mW mk mg mt mc T)), 0, 0)) → sxWP sc cl Q 39 (7, [some (.ref 3), some (.int s.1), some (.int s.2)], [], (cW nw kp im ol sn sr tp (mW mk mg mt mc T)), 0, 0) := by
  refine wh_run (A := fun (s : (Int32 × Int32)) => sxWP sc cl Q 39 (7, [some (.ref 3), some (.int s.1), some (.int s.2)], [], (cW nw kp im ol sn sr tp (mW mk mg mt mc T)), 0, 0)) (B := fun (r : Int32) => ∀ (z0 z2 : Option Value), sxWP sc cl Q 39 (38, [z0, some (.int r), z2], [], (cW nw kp im ol sn sr tp (mW mk mg mt mc T)), 0, 0)) (fun s x hf hA hB => ?_)
  unfold P_ends_s7 at hf
  refine stp hm 4 (br hf (fun c1 hf => ?_) (fun c1 hf => ?_))
  · show sxWP sc cl Q 39 (38, [some (.ref 3), some (.int s.1), some (.int s.2)], [], (cW nw kp im ol sn sr tp (mW mk mg mt mc T)), 0, 0)
    obtain rfl := Option.some.inj hf
    exact hB _ rfl _ _
  · show sxWP sc cl Q 39 (15, [some (.ref 3), some (.int s.1), some (.int s.2)], [], (cW nw kp im ol sn sr tp (mW mk mg mt mc T)), 0, 0)
    refine stp hm 3 (br hf (fun c2 hf => ?_) (fun c2 hf => ?_))
    · show sxWP sc cl Q 39 (38, [some (.ref 3), some (.int s.1), some (.int s.2)], [], (cW nw kp im ol sn sr tp (mW mk mg mt mc T)), 0, 0)
      obtain rfl := Option.some.inj hf
      exact hB _ rfl _ _
    · show sxWP sc cl Q 39 (21, [some (.ref 3), some (.int s.1), some (.int s.2)], [], (cW nw kp im ol sn sr tp (mW mk mg mt mc T)), 0, 0)
      obtain ⟨g3, hf⟩ := grd_e hf
      refine stp hm 5 (And.intro (gi_in g3) (?_ : sxWP sc cl Q 39 (28, [some (.ref 3), some (.int s.1), some (.int s.2)], [.int (nw.2.2.2.1.2.2.1 s.2.toNatClampNeg), .int s.1], (cW nw kp im ol sn sr tp (mW mk mg mt mc T)), 0, 0)))
      refine stp hm 1 (G_next_ok hE rfl ?_)
      show sxWP sc cl Q 39 (31, [some (.ref 3), some (.int s.1), some (.int s.2)], [.int (G_next s.1 (nw.2.2.2.1.2.2.1 s.2.toNatClampNeg))], (cW nw kp im ol sn sr tp (mW mk mg mt mc T)), 0, 0)
      obtain rfl := Option.some.inj hf
      refine stp hm 3 (?_ : sxWP sc cl Q 39 (7, [some (.ref 3), some (.int (G_next s.1 (nw.2.2.2.1.2.2.1 s.2.toNatClampNeg))), some (.int (s.2 + (1:Int32)))], [], (cW nw kp im ol sn sr tp (mW mk mg mt mc T)), 0, 0))
      exact hA _ rfl
set_option maxRecDepth 10000 in
theorem P_ends_ok  {q : Int32} (hc : call = sxE sc (d + 3)) (hf : P_ends nw.2.2.2.1.1 nw.2.2.2.1.2.1 nw.2.2.2.1.2.2.1 = some q) (h : Q (some (.int q)) (cW nw kp im ol sn sr tp (mW mk mg mt mc T))) : call 39 [.ref 3] (cW nw kp im ol sn sr tp (mW mk mg mt mc T)) Q := by
  refine ent hc rfl (fun cl hE hm => ?_)
  unfold P_ends at hf
  obtain ⟨w1, hw1, hf⟩ := bnd hf
  refine stp hm 5 (?_ : sxWP sc cl Q 39 (7, [some (.ref 3), some (.int nw.2.2.2.1.1), some (.int (0:Int32))], [], (cW nw kp im ol sn sr tp (mW mk mg mt mc T)), 0, 0))
  refine P_ends_l7 hE hm _ _ _ hw1 ?_
  intro w1_z0 w1_z2
  show sxWP sc cl Q 39 (38, [w1_z0, some (.int w1), w1_z2], [], (cW nw kp im ol sn sr tp (mW mk mg mt mc T)), 0, 0)
  obtain rfl := Option.some.inj hf
  refine stp hm 2 ?_
  exact h

def P_append_j16  (npl_j : Int32) (npw_j : (Nat → Int32)) : Option (Int32 × Int32 × (Nat → Int32)) := some ((0:Int32), npl_j, npw_j)
def P_append (v1 : Int32) (npl : Int32) (npw : (Nat → Int32)) : Option (Int32 × Int32 × (Nat → Int32)) := if npl < (0:Int32) then (P_append_j16 npl npw) else (if npl < (40:Int32) then (grd (gi npl 40) (some ((1:Int32), npl + (1:Int32), upd npw npl.toNatClampNeg v1))) else (P_append_j16 npl npw))
set_option maxRecDepth 10000 in
theorem P_append_ok {v1 : Int32} {q : (Int32 × Int32 × (Nat → Int32))} (hc : call = sxE sc (d + 1)) (hf : P_append v1 nw.2.2.2.1.2.1 nw.2.2.2.1.2.2.1 = some q) (h : Q (some (.int q.1)) (cW (nw.1, nw.2.1, nw.2.2.1, (nw.2.2.2.1.1, q.2.1, q.2.2, nw.2.2.2.1.2.2.2), nw.2.2.2.2.1, nw.2.2.2.2.2.1, nw.2.2.2.2.2.2) kp im ol sn sr tp (mW mk mg mt mc T))) : call 37 [.ref 3, .int v1] (cW nw kp im ol sn sr tp (mW mk mg mt mc T)) Q := by
  refine ent hc rfl (fun cl hE hm => ?_)
  have J16 : ∀ (npl_j : Int32) (npw_j : (Nat → Int32)) (z0 : Option Value) (z1 : Option Value), P_append_j16 npl_j npw_j = some q → sxWP sc cl Q 37 (16, [z0, z1], [], (cW (nw.1, nw.2.1, nw.2.2.1, (nw.2.2.2.1.1, npl_j, npw_j, nw.2.2.2.1.2.2.2), nw.2.2.2.2.1, nw.2.2.2.2.2.1, nw.2.2.2.2.2.2) kp im ol sn sr tp (mW mk mg mt mc T)), 0, 0) := by
    intro npl_j npw_j z0 z1 hf
    unfold P_append_j16 at hf
    obtain rfl := Option.some.inj hf
    refine stp hm 2 (And.intro (Or.inl rfl) ?_)
    exact h
  unfold P_append at hf
  refine stp hm 3 (br hf (fun c1 hf => ?_) (fun c1 hf => ?_))
  · show sxWP sc cl Q 37 (16, [some (.ref 3), some (.int v1)], [], (cW nw kp im ol sn sr tp (mW mk mg mt mc T)), 0, 0)
    exact J16 _ _ _ _ hf
  · show sxWP sc cl Q 37 (7, [some (.ref 3), some (.int v1)], [], (cW nw kp im ol sn sr tp (mW mk mg mt mc T)), 0, 0)
    refine stp hm 4 (br hf (fun c2 hf => ?_) (fun c2 hf => ?_))
    · show sxWP sc cl Q 37 (18, [some (.ref 3), some (.int v1)], [], (cW nw kp im ol sn sr tp (mW mk mg mt mc T)), 0, 0)
      obtain ⟨g3, hf⟩ := grd_e hf
      refine stp hm 6 (And.intro (gi_in g3) (?_ : sxWP sc cl Q 37 (28, [some (.ref 3), some (.int v1)], [], (cW (nw.1, nw.2.1, nw.2.2.1, (nw.2.2.2.1.1, nw.2.2.2.1.2.1, upd nw.2.2.2.1.2.2.1 nw.2.2.2.1.2.1.toNatClampNeg v1, nw.2.2.2.1.2.2.2), nw.2.2.2.2.1, nw.2.2.2.2.2.1, nw.2.2.2.2.2.2) kp im ol sn sr tp (mW mk mg mt mc T)), 0, 0)))
      obtain rfl := Option.some.inj hf
      refine stp hm 8 (And.intro (Or.inr rfl) ?_)
      exact h
    · show sxWP sc cl Q 37 (16, [some (.ref 3), some (.int v1)], [], (cW nw kp im ol sn sr tp (mW mk mg mt mc T)), 0, 0)
      exact J16 _ _ _ _ hf

def X_walk_j9  (npl_j : Int32) (npw_j : (Nat → Int32)) : Option (Int32 × Int32 × (Nat → Int32)) := some ((-2:Int32), npl_j, npw_j)
def X_walk (v1 : Int32) (nps : Int32) (npl : Int32) (npw : (Nat → Int32)) : Option (Int32 × Int32 × (Nat → Int32)) := if v1 < (0:Int32) then (X_walk_j9 npl npw) else (if v1 ≤ (3:Int32) then (Option.bind (P_ends nps npl npw) (fun q3 => if (0:Int32) ≤ (G_next q3 v1) then (Option.bind (P_append v1 npl npw) (fun q5 => some (if q5.1 = (0:Int32) then (-4:Int32) else q5.2.1, q5.2.1, q5.2.2))) else (some ((-3:Int32), npl, npw)))) else (X_walk_j9 npl npw))
set_option maxRecDepth 10000 in
theorem X_walk_ok {v1 : Int32} {q : (Int32 × Int32 × (Nat → Int32))} (hc : call = sxE sc (d + 4)) (hf : X_walk v1 nw.2.2.2.1.1 nw.2.2.2.1.2.1 nw.2.2.2.1.2.2.1 = some q) (h : Q (some (.int q.1)) (cW (nw.1, nw.2.1, nw.2.2.1, (nw.2.2.2.1.1, q.2.1, q.2.2, nw.2.2.2.1.2.2.2), nw.2.2.2.2.1, nw.2.2.2.2.2.1, nw.2.2.2.2.2.2) kp im ol sn sr tp (mW mk mg mt mc T))) : call 96 [.ref 0, .int v1] (cW nw kp im ol sn sr tp (mW mk mg mt mc T)) Q := by
  refine ent hc rfl (fun cl hE hm => ?_)
  have J9 : ∀ (npl_j : Int32) (npw_j : (Nat → Int32)) (z0 : Option Value) (z1 : Option Value), X_walk_j9 npl_j npw_j = some q → sxWP sc cl Q 96 (9, [z0, z1], [], (cW (nw.1, nw.2.1, nw.2.2.1, (nw.2.2.2.1.1, npl_j, npw_j, nw.2.2.2.1.2.2.2), nw.2.2.2.2.1, nw.2.2.2.2.2.1, nw.2.2.2.2.2.2) kp im ol sn sr tp (mW mk mg mt mc T)), 0, 0) := by
    intro npl_j npw_j z0 z1 hf
    unfold X_walk_j9 at hf
    obtain rfl := Option.some.inj hf
    refine stp hm 2 ?_
    exact h
  unfold X_walk at hf
  refine stp hm 2 (br hf (fun c1 hf => ?_) (fun c1 hf => ?_))
  · show sxWP sc cl Q 96 (9, [some (.ref 0), some (.int v1)], [], (cW nw kp im ol sn sr tp (mW mk mg mt mc T)), 0, 0)
    exact J9 _ _ _ _ hf
  · show sxWP sc cl Q 96 (4, [some (.ref 0), some (.int v1)], [], (cW nw kp im ol sn sr tp (mW mk mg mt mc T)), 0, 0)
    refine stp hm 3 (br hf (fun c2 hf => ?_) (fun c2 hf => ?_))
    · show sxWP sc cl Q 96 (12, [some (.ref 0), some (.int v1)], [], (cW nw kp im ol sn sr tp (mW mk mg mt mc T)), 0, 0)
      obtain ⟨q3, hq3, hf⟩ := bnd hf
      refine stp hm 4 (P_ends_ok hE hq3 ?_)
      show sxWP sc cl Q 96 (22, [some (.ref 0), some (.int v1)], [.int q3], (cW nw kp im ol sn sr tp (mW mk mg mt mc T)), 0, 0)
      refine stp hm 2 (G_next_ok hE rfl ?_)
      show sxWP sc cl Q 96 (26, [some (.ref 0), some (.int v1)], [.int (G_next q3 v1)], (cW nw kp im ol sn sr tp (mW mk mg mt mc T)), 0, 0)
      refine stp hm 1 (br hf (fun c4 hf => ?_) (fun c4 hf => ?_))
      · show sxWP sc cl Q 96 (32, [some (.ref 0), some (.int v1)], [], (cW nw kp im ol sn sr tp (mW mk mg mt mc T)), 0, 0)
        obtain ⟨q5, hq5, hf⟩ := bnd hf
        refine stp hm 5 (P_append_ok hE hq5 ?_)
        show sxWP sc cl Q 96 (43, [some (.ref 0), some (.int v1)], [.int q5.1], (cW (nw.1, nw.2.1, nw.2.2.1, (nw.2.2.2.1.1, q5.2.1, q5.2.2, nw.2.2.2.1.2.2.2), nw.2.2.2.2.1, nw.2.2.2.2.2.1, nw.2.2.2.2.2.2) kp im ol sn sr tp (mW mk mg mt mc T)), 0, 0)
        have m6 : ∀ (m6_0 : Int32), m6_0 = (if q5.1 = (0:Int32) then (-4:Int32) else q5.2.1) → sxWP sc cl Q 96 (61, [some (.ref 0), some (.int v1)], [.int m6_0], (cW (nw.1, nw.2.1, nw.2.2.1, (nw.2.2.2.1.1, q5.2.1, q5.2.2, nw.2.2.2.1.2.2.2), nw.2.2.2.2.1, nw.2.2.2.2.2.1, nw.2.2.2.2.2.2) kp im ol sn sr tp (mW mk mg mt mc T)), 0, 0) := by
          intro m6_0 em6_0
          subst em6_0
          obtain rfl := Option.some.inj hf
          refine stp hm 1 ?_
          exact h
        refine stp hm 1 (bs (c := q5.1 = (0:Int32)) (fun c7 => ?_) (fun c7 => ?_))
        · have c7 : q5.1 = (0:Int32) := c7
          refine stp hm 1 (?_ : sxWP sc cl Q 96 (61, [some (.ref 0), some (.int v1)], [.int (-4:Int32)], (cW (nw.1, nw.2.1, nw.2.2.1, (nw.2.2.2.1.1, q5.2.1, q5.2.2, nw.2.2.2.1.2.2.2), nw.2.2.2.2.1, nw.2.2.2.2.2.1, nw.2.2.2.2.2.2) kp im ol sn sr tp (mW mk mg mt mc T)), 0, 0))
          exact m6 _ (by rw [if_pos c7])
        · have c7 : ¬ q5.1 = (0:Int32) := c7
          refine stp hm 5 (?_ : sxWP sc cl Q 96 (61, [some (.ref 0), some (.int v1)], [.int q5.2.1], (cW (nw.1, nw.2.1, nw.2.2.1, (nw.2.2.2.1.1, q5.2.1, q5.2.2, nw.2.2.2.1.2.2.2), nw.2.2.2.2.1, nw.2.2.2.2.2.1, nw.2.2.2.2.2.2) kp im ol sn sr tp (mW mk mg mt mc T)), 0, 0))
          exact m6 _ (by rw [if_neg c7])
      · show sxWP sc cl Q 96 (29, [some (.ref 0), some (.int v1)], [], (cW nw kp im ol sn sr tp (mW mk mg mt mc T)), 0, 0)
        obtain rfl := Option.some.inj hf
        refine stp hm 2 ?_
        exact h
    · show sxWP sc cl Q 96 (9, [some (.ref 0), some (.int v1)], [], (cW nw kp im ol sn sr tp (mW mk mg mt mc T)), 0, 0)
      exact J9 _ _ _ _ hf

def M_ends_s9   (ms : (Nat → Int32)) (s : (Int32 × Int32)) : Option ((Int32 × Int32) ⊕ Int32) := grd (gi (2:Int32) 122) (if (ms (2:Int32).toNatClampNeg) ≤ s.2 then (some (Sum.inr s.1)) else (grd (gi ((42:Int32) + s.2) 122) (some (Sum.inl (M_onBy s.1 (ms ((42:Int32) + s.2).toNatClampNeg), s.2 + (1:Int32))))))
def M_ends  (ms : (Nat → Int32)) : Option Int32 := grd (gi (1:Int32) 122) (Option.bind (wh (M_ends_s9 ms) FU (ms (1:Int32).toNatClampNeg, (0:Int32))) (fun w2 => some w2))
set_option maxRecDepth 10000 in
theorem M_ends_l9    (hE : cl = sxE sc (d + 2)) (hm : CallMono cl) : ∀ (n : Nat) (s : (Int32 × Int32)) (r : Int32), wh (M_ends_s9 mk.2.2.1) n s = some r → (∀ (z0 z2 : Option Value), sxWP sc cl Q 181 (39, [z0, some (.int r), z2], [], (cW nw kp im ol sn sr tp (mW mk mg mt mc T)), 0, 0)) → sxWP sc cl Q 181 (9, [some (.ref 59), some (.int s.1), some (.int s.2)], [], (cW nw kp im ol sn sr tp (mW mk mg mt mc T)), 0, 0) := by
  refine wh_run (A := fun (s : (Int32 × Int32)) => sxWP sc cl Q 181 (9, [some (.ref 59), some (.int s.1), some (.int s.2)], [], (cW nw kp im ol sn sr tp (mW mk mg mt mc T)), 0, 0)) (B := fun (r : Int32) => ∀ (z0 z2 : Option Value), sxWP sc cl Q 181 (39, [z0, some (.int r), z2], [], (cW nw kp im ol sn sr tp (mW mk mg mt mc T)), 0, 0)) (fun s x hf hA hB => ?_)
  unfold M_ends_s9 at hf
  obtain ⟨g1, hf⟩ := grd_e hf
  refine stp hm 5 (And.intro (gi_in g1) (?_ : sxWP sc cl Q 181 (16, [some (.ref 59), some (.int s.1), some (.int s.2)], [.int (mk.2.2.1 (2:Int32).toNatClampNeg), .int s.2], (cW nw kp im ol sn sr tp (mW mk mg mt mc T)), 0, 0)))
  refine stp hm 1 (br hf (fun c2 hf => ?_) (fun c2 hf => ?_))
  · show sxWP sc cl Q 181 (39, [some (.ref 59), some (.int s.1), some (.int s.2)], [], (cW nw kp im ol sn sr tp (mW mk mg mt mc T)), 0, 0)
    obtain rfl := Option.some.inj hf
    exact hB _ rfl _ _
  · show sxWP sc cl Q 181 (19, [some (.ref 59), some (.int s.1), some (.int s.2)], [], (cW nw kp im ol sn sr tp (mW mk mg mt mc T)), 0, 0)
    obtain ⟨g3, hf⟩ := grd_e hf
    refine stp hm 7 (And.intro (gi_in g3) (?_ : sxWP sc cl Q 181 (29, [some (.ref 59), some (.int s.1), some (.int s.2)], [.int (mk.2.2.1 ((42:Int32) + s.2).toNatClampNeg), .int s.1], (cW nw kp im ol sn sr tp (mW mk mg mt mc T)), 0, 0)))
    refine stp hm 1 (M_onBy_ok hE rfl ?_)
    show sxWP sc cl Q 181 (32, [some (.ref 59), some (.int s.1), some (.int s.2)], [.int (M_onBy s.1 (mk.2.2.1 ((42:Int32) + s.2).toNatClampNeg))], (cW nw kp im ol sn sr tp (mW mk mg mt mc T)), 0, 0)
    obtain rfl := Option.some.inj hf
    refine stp hm 3 (?_ : sxWP sc cl Q 181 (9, [some (.ref 59), some (.int (M_onBy s.1 (mk.2.2.1 ((42:Int32) + s.2).toNatClampNeg))), some (.int (s.2 + (1:Int32)))], [], (cW nw kp im ol sn sr tp (mW mk mg mt mc T)), 0, 0))
    exact hA _ rfl
set_option maxRecDepth 10000 in
theorem M_ends_ok  {q : Int32} (hc : call = sxE sc (d + 3)) (hf : M_ends mk.2.2.1 = some q) (h : Q (some (.int q)) (cW nw kp im ol sn sr tp (mW mk mg mt mc T))) : call 181 [.ref 59] (cW nw kp im ol sn sr tp (mW mk mg mt mc T)) Q := by
  refine ent hc rfl (fun cl hE hm => ?_)
  unfold M_ends at hf
  obtain ⟨g1, hf⟩ := grd_e hf
  refine stp hm 4 (And.intro (gi_in g1) (?_ : sxWP sc cl Q 181 (6, [some (.ref 59), none, none], [.int (mk.2.2.1 (1:Int32).toNatClampNeg)], (cW nw kp im ol sn sr tp (mW mk mg mt mc T)), 0, 0)))
  obtain ⟨w2, hw2, hf⟩ := bnd hf
  refine stp hm 3 (?_ : sxWP sc cl Q 181 (9, [some (.ref 59), some (.int (mk.2.2.1 (1:Int32).toNatClampNeg)), some (.int (0:Int32))], [], (cW nw kp im ol sn sr tp (mW mk mg mt mc T)), 0, 0))
  refine M_ends_l9 hE hm _ _ _ hw2 ?_
  intro w2_z0 w2_z2
  show sxWP sc cl Q 181 (39, [w2_z0, some (.int w2), w2_z2], [], (cW nw kp im ol sn sr tp (mW mk mg mt mc T)), 0, 0)
  obtain rfl := Option.some.inj hf
  refine stp hm 2 ?_
  exact h

def M_walk (v1 : Int32) (ms : (Nat → Int32)) : Option (Int32 × (Nat → Int32)) := if (M_isIn v1 (0:Int32) (3:Int32)) = (0:Int32) then (some ((-2:Int32), ms)) else (Option.bind (M_ends ms) (fun q2 => if (M_onBy q2 v1) = (-1:Int32) then (some ((-3:Int32), ms)) else (grd (gi (2:Int32) 122) (if (ms (2:Int32).toNatClampNeg) = (40:Int32) then (some ((-4:Int32), ms)) else (grd (gi (2:Int32) 122) (grd (gi ((42:Int32) + (ms (2:Int32).toNatClampNeg)) 122) (grd (gi (2:Int32) 122) (grd (gi (2:Int32) 122) (grd (gi (2:Int32) 122) (some ((upd (upd ms ((42:Int32) + (ms (2:Int32).toNatClampNeg)).toNatClampNeg v1) (2:Int32).toNatClampNeg (((upd ms ((42:Int32) + (ms (2:Int32).toNatClampNeg)).toNatClampNeg v1) (2:Int32).toNatClampNeg) + (1:Int32))) (2:Int32).toNatClampNeg, upd (upd ms ((42:Int32) + (ms (2:Int32).toNatClampNeg)).toNatClampNeg v1) (2:Int32).toNatClampNeg (((upd ms ((42:Int32) + (ms (2:Int32).toNatClampNeg)).toNatClampNeg v1) (2:Int32).toNatClampNeg) + (1:Int32)))))))))))))
set_option maxRecDepth 10000 in
theorem M_walk_ok {v1 : Int32} {q : (Int32 × (Nat → Int32))} (hc : call = sxE sc (d + 4)) (hf : M_walk v1 mk.2.2.1 = some q) (h : Q (some (.int q.1)) (cW nw kp im ol sn sr tp (mW (mk.1, mk.2.1, q.2, mk.2.2.2.1, mk.2.2.2.2.1, mk.2.2.2.2.2.1, mk.2.2.2.2.2.2.1, mk.2.2.2.2.2.2.2.1, mk.2.2.2.2.2.2.2.2.1, mk.2.2.2.2.2.2.2.2.2) mg mt mc T))) : call 182 [.ref 59, .int v1] (cW nw kp im ol sn sr tp (mW mk mg mt mc T)) Q := by
  refine ent hc rfl (fun cl hE hm => ?_)
  unfold M_walk at hf
  refine stp hm 4 (M_isIn_ok hE rfl ?_)
  show sxWP sc cl Q 182 (6, [some (.ref 59), some (.int v1)], [.int (M_isIn v1 (0:Int32) (3:Int32))], (cW nw kp im ol sn sr tp (mW mk mg mt mc T)), 0, 0)
  refine stp hm 1 (brn hf (fun c1 hf => ?_) (fun c1 hf => ?_))
  · show sxWP sc cl Q 182 (12, [some (.ref 59), some (.int v1)], [], (cW nw kp im ol sn sr tp (mW mk mg mt mc T)), 0, 0)
    obtain ⟨q2, hq2, hf⟩ := bnd hf
    refine stp hm 2 (M_ends_ok hE hq2 ?_)
    show sxWP sc cl Q 182 (16, [some (.ref 59), some (.int v1)], [.int q2], (cW nw kp im ol sn sr tp (mW mk mg mt mc T)), 0, 0)
    refine stp hm 2 (M_onBy_ok hE rfl ?_)
    show sxWP sc cl Q 182 (20, [some (.ref 59), some (.int v1)], [.int (M_onBy q2 v1)], (cW nw kp im ol sn sr tp (mW mk mg mt mc T)), 0, 0)
    refine stp hm 2 (brn hf (fun c3 hf => ?_) (fun c3 hf => ?_))
    · show sxWP sc cl Q 182 (27, [some (.ref 59), some (.int v1)], [], (cW nw kp im ol sn sr tp (mW mk mg mt mc T)), 0, 0)
      obtain ⟨g4, hf⟩ := grd_e hf
      refine stp hm 4 (And.intro (gi_in g4) (?_ : sxWP sc cl Q 182 (33, [some (.ref 59), some (.int v1)], [.int (mk.2.2.1 (2:Int32).toNatClampNeg)], (cW nw kp im ol sn sr tp (mW mk mg mt mc T)), 0, 0)))
      refine stp hm 2 (brn hf (fun c5 hf => ?_) (fun c5 hf => ?_))
      · show sxWP sc cl Q 182 (41, [some (.ref 59), some (.int v1)], [], (cW nw kp im ol sn sr tp (mW mk mg mt mc T)), 0, 0)
        obtain ⟨g6, hf⟩ := grd_e hf
        refine stp hm 7 (And.intro (gi_in g6) (?_ : sxWP sc cl Q 182 (53, [some (.ref 59), some (.int v1)], [.int (mk.2.2.1 (2:Int32).toNatClampNeg), .int (42:Int32), .ref 60], (cW nw kp im ol sn sr tp (mW mk mg mt mc T)), 0, 0)))
        obtain ⟨g7, hf⟩ := grd_e hf
        refine stp hm 3 (And.intro (gi_in g7) (?_ : sxWP sc cl Q 182 (56, [some (.ref 59), some (.int v1)], [], (cW nw kp im ol sn sr tp (mW (mk.1, mk.2.1, upd mk.2.2.1 ((42:Int32) + (mk.2.2.1 (2:Int32).toNatClampNeg)).toNatClampNeg v1, mk.2.2.2.1, mk.2.2.2.2.1, mk.2.2.2.2.2.1, mk.2.2.2.2.2.2.1, mk.2.2.2.2.2.2.2.1, mk.2.2.2.2.2.2.2.2.1, mk.2.2.2.2.2.2.2.2.2) mg mt mc T)), 0, 0)))
        obtain ⟨g8, hf⟩ := grd_e hf
        refine stp hm 5 (And.intro (gi_in g8) (?_ : sxWP sc cl Q 182 (63, [some (.ref 59), some (.int v1)], [.int ((upd mk.2.2.1 ((42:Int32) + (mk.2.2.1 (2:Int32).toNatClampNeg)).toNatClampNeg v1) (2:Int32).toNatClampNeg), .int (2:Int32), .ref 60], (cW nw kp im ol sn sr tp (mW (mk.1, mk.2.1, upd mk.2.2.1 ((42:Int32) + (mk.2.2.1 (2:Int32).toNatClampNeg)).toNatClampNeg v1, mk.2.2.2.1, mk.2.2.2.2.1, mk.2.2.2.2.2.1, mk.2.2.2.2.2.2.1, mk.2.2.2.2.2.2.2.1, mk.2.2.2.2.2.2.2.2.1, mk.2.2.2.2.2.2.2.2.2) mg mt mc T)), 0, 0)))
        obtain ⟨g9, hf⟩ := grd_e hf
        refine stp hm 3 (And.intro (gi_in g9) (?_ : sxWP sc cl Q 182 (66, [some (.ref 59), some (.int v1)], [], (cW nw kp im ol sn sr tp (mW (mk.1, mk.2.1, upd (upd mk.2.2.1 ((42:Int32) + (mk.2.2.1 (2:Int32).toNatClampNeg)).toNatClampNeg v1) (2:Int32).toNatClampNeg (((upd mk.2.2.1 ((42:Int32) + (mk.2.2.1 (2:Int32).toNatClampNeg)).toNatClampNeg v1) (2:Int32).toNatClampNeg) + (1:Int32)), mk.2.2.2.1, mk.2.2.2.2.1, mk.2.2.2.2.2.1, mk.2.2.2.2.2.2.1, mk.2.2.2.2.2.2.2.1, mk.2.2.2.2.2.2.2.2.1, mk.2.2.2.2.2.2.2.2.2) mg mt mc T)), 0, 0)))
        obtain ⟨g10, hf⟩ := grd_e hf
        refine stp hm 4 (And.intro (gi_in g10) (?_ : sxWP sc cl Q 182 (72, [some (.ref 59), some (.int v1)], [.int ((upd (upd mk.2.2.1 ((42:Int32) + (mk.2.2.1 (2:Int32).toNatClampNeg)).toNatClampNeg v1) (2:Int32).toNatClampNeg (((upd mk.2.2.1 ((42:Int32) + (mk.2.2.1 (2:Int32).toNatClampNeg)).toNatClampNeg v1) (2:Int32).toNatClampNeg) + (1:Int32))) (2:Int32).toNatClampNeg)], (cW nw kp im ol sn sr tp (mW (mk.1, mk.2.1, upd (upd mk.2.2.1 ((42:Int32) + (mk.2.2.1 (2:Int32).toNatClampNeg)).toNatClampNeg v1) (2:Int32).toNatClampNeg (((upd mk.2.2.1 ((42:Int32) + (mk.2.2.1 (2:Int32).toNatClampNeg)).toNatClampNeg v1) (2:Int32).toNatClampNeg) + (1:Int32)), mk.2.2.2.1, mk.2.2.2.2.1, mk.2.2.2.2.2.1, mk.2.2.2.2.2.2.1, mk.2.2.2.2.2.2.2.1, mk.2.2.2.2.2.2.2.2.1, mk.2.2.2.2.2.2.2.2.2) mg mt mc T)), 0, 0)))
        obtain rfl := Option.some.inj hf
        refine stp hm 1 ?_
        exact h
      · show sxWP sc cl Q 182 (38, [some (.ref 59), some (.int v1)], [], (cW nw kp im ol sn sr tp (mW mk mg mt mc T)), 0, 0)
        obtain rfl := Option.some.inj hf
        refine stp hm 2 ?_
        exact h
    · show sxWP sc cl Q 182 (24, [some (.ref 59), some (.int v1)], [], (cW nw kp im ol sn sr tp (mW mk mg mt mc T)), 0, 0)
      obtain rfl := Option.some.inj hf
      refine stp hm 2 ?_
      exact h
  · show sxWP sc cl Q 182 (9, [some (.ref 59), some (.int v1)], [], (cW nw kp im ol sn sr tp (mW mk mg mt mc T)), 0, 0)
    obtain rfl := Option.some.inj hf
    refine stp hm 2 ?_
    exact h

def C_append_j16  (rsz_j : Int32) (rsg_j : (Nat → Int32)) : Option (Int32 × Int32 × (Nat → Int32)) := some ((0:Int32), rsz_j, rsg_j)
def C_append (v1 : Int32) (rsz : Int32) (rsg : (Nat → Int32)) : Option (Int32 × Int32 × (Nat → Int32)) := if rsz < (0:Int32) then (C_append_j16 rsz rsg) else (if rsz < (100:Int32) then (grd (gi rsz 100) (some ((1:Int32), rsz + (1:Int32), upd rsg rsz.toNatClampNeg v1))) else (C_append_j16 rsz rsg))
set_option maxRecDepth 10000 in
theorem C_append_ok {v1 : Int32} {q : (Int32 × Int32 × (Nat → Int32))} (hc : call = sxE sc (d + 1)) (hf : C_append v1 sr.1 sr.2.2.1 = some q) (h : Q (some (.int q.1)) (cW nw kp im ol sn (q.2.1, sr.2.1, q.2.2, sr.2.2.2) tp (mW mk mg mt mc T))) : call 52 [.ref 43, .int v1] (cW nw kp im ol sn sr tp (mW mk mg mt mc T)) Q := by
  refine ent hc rfl (fun cl hE hm => ?_)
  have J16 : ∀ (rsz_j : Int32) (rsg_j : (Nat → Int32)) (z0 : Option Value) (z1 : Option Value), C_append_j16 rsz_j rsg_j = some q → sxWP sc cl Q 52 (16, [z0, z1], [], (cW nw kp im ol sn (rsz_j, sr.2.1, rsg_j, sr.2.2.2) tp (mW mk mg mt mc T)), 0, 0) := by
    intro rsz_j rsg_j z0 z1 hf
    unfold C_append_j16 at hf
    obtain rfl := Option.some.inj hf
    refine stp hm 2 (And.intro (Or.inl rfl) ?_)
    exact h
  unfold C_append at hf
  refine stp hm 3 (br hf (fun c1 hf => ?_) (fun c1 hf => ?_))
  · show sxWP sc cl Q 52 (16, [some (.ref 43), some (.int v1)], [], (cW nw kp im ol sn sr tp (mW mk mg mt mc T)), 0, 0)
    exact J16 _ _ _ _ hf
  · show sxWP sc cl Q 52 (7, [some (.ref 43), some (.int v1)], [], (cW nw kp im ol sn sr tp (mW mk mg mt mc T)), 0, 0)
    refine stp hm 4 (br hf (fun c2 hf => ?_) (fun c2 hf => ?_))
    · show sxWP sc cl Q 52 (18, [some (.ref 43), some (.int v1)], [], (cW nw kp im ol sn sr tp (mW mk mg mt mc T)), 0, 0)
      obtain ⟨g3, hf⟩ := grd_e hf
      refine stp hm 6 (And.intro (gi_in g3) (?_ : sxWP sc cl Q 52 (28, [some (.ref 43), some (.int v1)], [], (cW nw kp im ol sn (sr.1, sr.2.1, upd sr.2.2.1 sr.1.toNatClampNeg v1, sr.2.2.2) tp (mW mk mg mt mc T)), 0, 0)))
      obtain rfl := Option.some.inj hf
      refine stp hm 8 (And.intro (Or.inr rfl) ?_)
      exact h
    · show sxWP sc cl Q 52 (16, [some (.ref 43), some (.int v1)], [], (cW nw kp im ol sn sr tp (mW mk mg mt mc T)), 0, 0)
      exact J16 _ _ _ _ hf

def X_feed_j10  (rsz_j : Int32) (rsg_j : (Nat → Int32)) : Option (Int32 × Int32 × (Nat → Int32)) := some ((-2:Int32), rsz_j, rsg_j)
def X_feed (v1 : Int32) (rsz : Int32) (rsg : (Nat → Int32)) : Option (Int32 × Int32 × (Nat → Int32)) := if v1 < (0:Int32) then (X_feed_j10 rsz rsg) else (if v1 ≤ (127:Int32) then (Option.bind (C_append v1 rsz rsg) (fun q3 => some (if q3.1 = (0:Int32) then (-4:Int32) else q3.2.1, q3.2.1, q3.2.2))) else (X_feed_j10 rsz rsg))
set_option maxRecDepth 10000 in
theorem X_feed_ok {v1 : Int32} {q : (Int32 × Int32 × (Nat → Int32))} (hc : call = sxE sc (d + 2)) (hf : X_feed v1 sr.1 sr.2.2.1 = some q) (h : Q (some (.int q.1)) (cW nw kp im ol sn (q.2.1, sr.2.1, q.2.2, sr.2.2.2) tp (mW mk mg mt mc T))) : call 97 [.ref 0, .int v1] (cW nw kp im ol sn sr tp (mW mk mg mt mc T)) Q := by
  refine ent hc rfl (fun cl hE hm => ?_)
  have J10 : ∀ (rsz_j : Int32) (rsg_j : (Nat → Int32)) (z0 : Option Value) (z1 : Option Value), X_feed_j10 rsz_j rsg_j = some q → sxWP sc cl Q 97 (10, [z0, z1], [], (cW nw kp im ol sn (rsz_j, sr.2.1, rsg_j, sr.2.2.2) tp (mW mk mg mt mc T)), 0, 0) := by
    intro rsz_j rsg_j z0 z1 hf
    unfold X_feed_j10 at hf
    obtain rfl := Option.some.inj hf
    refine stp hm 2 ?_
    exact h
  unfold X_feed at hf
  refine stp hm 2 (br hf (fun c1 hf => ?_) (fun c1 hf => ?_))
  · show sxWP sc cl Q 97 (10, [some (.ref 0), some (.int v1)], [], (cW nw kp im ol sn sr tp (mW mk mg mt mc T)), 0, 0)
    exact J10 _ _ _ _ hf
  · show sxWP sc cl Q 97 (4, [some (.ref 0), some (.int v1)], [], (cW nw kp im ol sn sr tp (mW mk mg mt mc T)), 0, 0)
    refine stp hm 3 (br hf (fun c2 hf => ?_) (fun c2 hf => ?_))
    · show sxWP sc cl Q 97 (13, [some (.ref 0), some (.int v1)], [], (cW nw kp im ol sn sr tp (mW mk mg mt mc T)), 0, 0)
      obtain ⟨q3, hq3, hf⟩ := bnd hf
      refine stp hm 4 (C_append_ok hE hq3 ?_)
      show sxWP sc cl Q 97 (21, [some (.ref 0), some (.int v1)], [.int q3.1], (cW nw kp im ol sn (q3.2.1, sr.2.1, q3.2.2, sr.2.2.2) tp (mW mk mg mt mc T)), 0, 0)
      have m4 : ∀ (m4_0 : Int32), m4_0 = (if q3.1 = (0:Int32) then (-4:Int32) else q3.2.1) → sxWP sc cl Q 97 (36, [some (.ref 0), some (.int v1)], [.int m4_0], (cW nw kp im ol sn (q3.2.1, sr.2.1, q3.2.2, sr.2.2.2) tp (mW mk mg mt mc T)), 0, 0) := by
        intro m4_0 em4_0
        subst em4_0
        obtain rfl := Option.some.inj hf
        refine stp hm 1 ?_
        exact h
      refine stp hm 1 (bs (c := q3.1 = (0:Int32)) (fun c5 => ?_) (fun c5 => ?_))
      · have c5 : q3.1 = (0:Int32) := c5
        refine stp hm 1 (?_ : sxWP sc cl Q 97 (36, [some (.ref 0), some (.int v1)], [.int (-4:Int32)], (cW nw kp im ol sn (q3.2.1, sr.2.1, q3.2.2, sr.2.2.2) tp (mW mk mg mt mc T)), 0, 0))
        exact m4 _ (by rw [if_pos c5])
      · have c5 : ¬ q3.1 = (0:Int32) := c5
        refine stp hm 4 (?_ : sxWP sc cl Q 97 (36, [some (.ref 0), some (.int v1)], [.int q3.2.1], (cW nw kp im ol sn (q3.2.1, sr.2.1, q3.2.2, sr.2.2.2) tp (mW mk mg mt mc T)), 0, 0))
        exact m4 _ (by rw [if_neg c5])
    · show sxWP sc cl Q 97 (10, [some (.ref 0), some (.int v1)], [], (cW nw kp im ol sn sr tp (mW mk mg mt mc T)), 0, 0)
      exact J10 _ _ _ _ hf

def M_feed (v1 : Int32) (msz : Int32) (mtx : (Nat → Int32)) : Option (Int32 × Int32 × (Nat → Int32)) := if (M_isIn v1 (0:Int32) (127:Int32)) = (0:Int32) then (some ((-2:Int32), msz, mtx)) else (if msz = (100:Int32) then (some ((-4:Int32), msz, mtx)) else (grd (gi msz 100) (some (msz + (1:Int32), msz + (1:Int32), upd mtx msz.toNatClampNeg v1))))
set_option maxRecDepth 10000 in
theorem M_feed_ok {v1 : Int32} {q : (Int32 × Int32 × (Nat → Int32))} (hc : call = sxE sc (d + 2)) (hf : M_feed v1 mk.2.2.2.2.2.2.1 mk.2.2.2.2.2.1 = some q) (h : Q (some (.int q.1)) (cW nw kp im ol sn sr tp (mW (mk.1, mk.2.1, mk.2.2.1, mk.2.2.2.1, mk.2.2.2.2.1, q.2.2, q.2.1, mk.2.2.2.2.2.2.2.1, mk.2.2.2.2.2.2.2.2.1, mk.2.2.2.2.2.2.2.2.2) mg mt mc T))) : call 187 [.ref 59, .int v1] (cW nw kp im ol sn sr tp (mW mk mg mt mc T)) Q := by
  refine ent hc rfl (fun cl hE hm => ?_)
  unfold M_feed at hf
  refine stp hm 4 (M_isIn_ok hE rfl ?_)
  show sxWP sc cl Q 187 (7, [some (.ref 59), some (.int v1)], [.int (M_isIn v1 (0:Int32) (127:Int32))], (cW nw kp im ol sn sr tp (mW mk mg mt mc T)), 0, 0)
  refine stp hm 1 (brn hf (fun c1 hf => ?_) (fun c1 hf => ?_))
  · show sxWP sc cl Q 187 (13, [some (.ref 59), some (.int v1)], [], (cW nw kp im ol sn sr tp (mW mk mg mt mc T)), 0, 0)
    refine stp hm 4 (brn hf (fun c2 hf => ?_) (fun c2 hf => ?_))
    · show sxWP sc cl Q 187 (25, [some (.ref 59), some (.int v1)], [], (cW nw kp im ol sn sr tp (mW mk mg mt mc T)), 0, 0)
      obtain ⟨g3, hf⟩ := grd_e hf
      refine stp hm 6 (And.intro (gi_in g3) (?_ : sxWP sc cl Q 187 (35, [some (.ref 59), some (.int v1)], [], (cW nw kp im ol sn sr tp (mW (mk.1, mk.2.1, mk.2.2.1, mk.2.2.2.1, mk.2.2.2.2.1, upd mk.2.2.2.2.2.1 mk.2.2.2.2.2.2.1.toNatClampNeg v1, mk.2.2.2.2.2.2.1, mk.2.2.2.2.2.2.2.1, mk.2.2.2.2.2.2.2.2.1, mk.2.2.2.2.2.2.2.2.2) mg mt mc T)), 0, 0)))
      obtain rfl := Option.some.inj hf
      refine stp hm 9 ?_
      exact h
    · show sxWP sc cl Q 187 (22, [some (.ref 59), some (.int v1)], [], (cW nw kp im ol sn sr tp (mW mk mg mt mc T)), 0, 0)
      obtain rfl := Option.some.inj hf
      refine stp hm 2 ?_
      exact h
  · show sxWP sc cl Q 187 (10, [some (.ref 59), some (.int v1)], [], (cW nw kp im ol sn sr tp (mW mk mg mt mc T)), 0, 0)
    obtain rfl := Option.some.inj hf
    refine stp hm 2 ?_
    exact h

def C_sign_j28  (k0 : Int32) : Option Int32 := some k0
def C_sign_j27   : Option Int32 := C_sign_j28 (-1:Int32)
def C_sign (v1 : Int32) (rsz : Int32) (rsg : (Nat → Int32)) : Option Int32 := if v1 < (0:Int32) then C_sign_j27 else (if rsz ≤ v1 then C_sign_j27 else (if (100:Int32) ≤ v1 then C_sign_j27 else (grd (gi v1 100) (C_sign_j28 (rsg v1.toNatClampNeg)))))
set_option maxRecDepth 10000 in
theorem C_sign_ok {v1 : Int32} {q : Int32} (hc : call = sxE sc (d + 1)) (hf : C_sign v1 sr.1 sr.2.2.1 = some q) (h : Q (some (.int q)) (cW nw kp im ol sn sr tp (mW mk mg mt mc T))) : call 54 [.ref 43, .int v1] (cW nw kp im ol sn sr tp (mW mk mg mt mc T)) Q := by
  refine ent hc rfl (fun cl hE hm => ?_)
  have J28 : ∀ (k0 : Int32) (z0 : Option Value) (z1 : Option Value), C_sign_j28 k0 = some q → sxWP sc cl Q 54 (28, [z0, z1], [.int k0], (cW nw kp im ol sn sr tp (mW mk mg mt mc T)), 0, 0) := by
    intro k0 z0 z1 hf
    unfold C_sign_j28 at hf
    obtain rfl := Option.some.inj hf
    refine stp hm 1 ?_
    exact h
  have J27 : ∀  (z0 : Option Value) (z1 : Option Value), C_sign_j27 = some q → sxWP sc cl Q 54 (27, [z0, z1], [], (cW nw kp im ol sn sr tp (mW mk mg mt mc T)), 0, 0) := by
    intro z0 z1 hf
    unfold C_sign_j27 at hf
    refine stp hm 1 (?_ : sxWP sc cl Q 54 (28, [z0, z1], [.int (-1:Int32)], (cW nw kp im ol sn sr tp (mW mk mg mt mc T)), 0, 0))
    exact J28 _ _ _ hf
  unfold C_sign at hf
  refine stp hm 2 (br hf (fun c1 hf => ?_) (fun c1 hf => ?_))
  · show sxWP sc cl Q 54 (27, [some (.ref 43), some (.int v1)], [], (cW nw kp im ol sn sr tp (mW mk mg mt mc T)), 0, 0)
    exact J27 _ _ hf
  · show sxWP sc cl Q 54 (4, [some (.ref 43), some (.int v1)], [], (cW nw kp im ol sn sr tp (mW mk mg mt mc T)), 0, 0)
    refine stp hm 4 (br hf (fun c2 hf => ?_) (fun c2 hf => ?_))
    · show sxWP sc cl Q 54 (27, [some (.ref 43), some (.int v1)], [], (cW nw kp im ol sn sr tp (mW mk mg mt mc T)), 0, 0)
      exact J27 _ _ hf
    · show sxWP sc cl Q 54 (12, [some (.ref 43), some (.int v1)], [], (cW nw kp im ol sn sr tp (mW mk mg mt mc T)), 0, 0)
      refine stp hm 3 (br hf (fun c3 hf => ?_) (fun c3 hf => ?_))
      · show sxWP sc cl Q 54 (27, [some (.ref 43), some (.int v1)], [], (cW nw kp im ol sn sr tp (mW mk mg mt mc T)), 0, 0)
        exact J27 _ _ hf
      · show sxWP sc cl Q 54 (18, [some (.ref 43), some (.int v1)], [], (cW nw kp im ol sn sr tp (mW mk mg mt mc T)), 0, 0)
        obtain ⟨g4, hf⟩ := grd_e hf
        refine stp hm 4 (And.intro (gi_in g4) (?_ : sxWP sc cl Q 54 (24, [some (.ref 43), some (.int v1)], [.int (sr.2.2.1 v1.toNatClampNeg)], (cW nw kp im ol sn sr tp (mW mk mg mt mc T)), 0, 0)))
        refine stp hm 1 (?_ : sxWP sc cl Q 54 (28, [some (.ref 43), some (.int v1)], [.int (sr.2.2.1 v1.toNatClampNeg)], (cW nw kp im ol sn sr tp (mW mk mg mt mc T)), 0, 0))
        exact J28 _ _ _ hf
end PT
