/-! methods as functions (printed by wip/whole/dec) -/
section PT
variable {sc : sxS} {d : Nat} {Q : sxR} {hp : sxH} {call cl : sxX} {nw kp : tSt} {im : Int32} {ol : tOl} {sn : tSn} {sr : tSc} {tp : Nat → tTp} {mk : tMk} {mg : tMg} {mt : tMt} {mc : tMc} {T : sxH}

def X_read_s12  (v1 : Int32) (ora : (Nat → Int32)) (rsz : Int32) (rcl : Int32) (rsg : (Nat → Int32)) (rst : (Nat → Int32)) (s : (Int32 × Int32 × Int64 × Int32 × (Nat → Int32) × Int32 × Int32 × (Nat → Int32) × Int32 × Int64 × Int32 × Int32 × Int32 × Int32 × Int64 × Int64 × (Nat → Int32) × (Nat → Int32) × (Nat → Int32) × (Nat → Int32) × (Nat → Int32) × (Nat → Int32) × (Nat → Int32) × (Nat → Int32))) : Option ((Int32 × Int32 × Int64 × Int32 × (Nat → Int32) × Int32 × Int32 × (Nat → Int32) × Int32 × Int64 × Int32 × Int32 × Int32 × Int32 × Int64 × Int64 × (Nat → Int32) × (Nat → Int32) × (Nat → Int32) × (Nat → Int32) × (Nat → Int32) × (Nat → Int32) × (Nat → Int32) × (Nat → Int32)) ⊕ (Int32 × Int64 × Int32 × (Nat → Int32) × Int32 × Int32 × (Nat → Int32) × Int32 × Int64 × Int32 × Int32 × Int32 × Int32 × Int64 × Int64 × (Nat → Int32) × (Nat → Int32) × (Nat → Int32) × (Nat → Int32) × (Nat → Int32) × (Nat → Int32) × (Nat → Int32) × (Nat → Int32))) := if (0:Int32) ≤ v1 then (some (Sum.inr (s.1, s.2.2.1, s.2.2.2.1, s.2.2.2.2.1, s.2.2.2.2.2.1, s.2.2.2.2.2.2.1, s.2.2.2.2.2.2.2.1, s.2.2.2.2.2.2.2.2.1, s.2.2.2.2.2.2.2.2.2.1, s.2.2.2.2.2.2.2.2.2.2.1, s.2.2.2.2.2.2.2.2.2.2.2.1, s.2.2.2.2.2.2.2.2.2.2.2.2.1, s.2.2.2.2.2.2.2.2.2.2.2.2.2.1, s.2.2.2.2.2.2.2.2.2.2.2.2.2.2.1, s.2.2.2.2.2.2.2.2.2.2.2.2.2.2.2.1, s.2.2.2.2.2.2.2.2.2.2.2.2.2.2.2.2.1, s.2.2.2.2.2.2.2.2.2.2.2.2.2.2.2.2.2.1, s.2.2.2.2.2.2.2.2.2.2.2.2.2.2.2.2.2.2.1, s.2.2.2.2.2.2.2.2.2.2.2.2.2.2.2.2.2.2.2.1, s.2.2.2.2.2.2.2.2.2.2.2.2.2.2.2.2.2.2.2.2.1, s.2.2.2.2.2.2.2.2.2.2.2.2.2.2.2.2.2.2.2.2.2.1, s.2.2.2.2.2.2.2.2.2.2.2.2.2.2.2.2.2.2.2.2.2.2.1, s.2.2.2.2.2.2.2.2.2.2.2.2.2.2.2.2.2.2.2.2.2.2.2))) else (if rcl ≤ s.2.1 then (some (Sum.inr (s.1, s.2.2.1, s.2.2.2.1, s.2.2.2.2.1, s.2.2.2.2.2.1, s.2.2.2.2.2.2.1, s.2.2.2.2.2.2.2.1, s.2.2.2.2.2.2.2.2.1, s.2.2.2.2.2.2.2.2.2.1, s.2.2.2.2.2.2.2.2.2.2.1, s.2.2.2.2.2.2.2.2.2.2.2.1, s.2.2.2.2.2.2.2.2.2.2.2.2.1, s.2.2.2.2.2.2.2.2.2.2.2.2.2.1, s.2.2.2.2.2.2.2.2.2.2.2.2.2.2.1, s.2.2.2.2.2.2.2.2.2.2.2.2.2.2.2.1, s.2.2.2.2.2.2.2.2.2.2.2.2.2.2.2.2.1, s.2.2.2.2.2.2.2.2.2.2.2.2.2.2.2.2.2.1, s.2.2.2.2.2.2.2.2.2.2.2.2.2.2.2.2.2.2.1, s.2.2.2.2.2.2.2.2.2.2.2.2.2.2.2.2.2.2.2.1, s.2.2.2.2.2.2.2.2.2.2.2.2.2.2.2.2.2.2.2.2.1, s.2.2.2.2.2.2.2.2.2.2.2.2.2.2.2.2.2.2.2.2.2.1, s.2.2.2.2.2.2.2.2.2.2.2.2.2.2.2.2.2.2.2.2.2.2.1, s.2.2.2.2.2.2.2.2.2.2.2.2.2.2.2.2.2.2.2.2.2.2.2))) else (Option.bind (C_start s.2.1 rst) (fun q3 => Option.bind (X_carriedOut q3 s.2.2.1 s.2.2.2.1 s.2.2.2.2.1 s.2.2.2.2.2.1 s.2.2.2.2.2.2.1 s.2.2.2.2.2.2.2.1 s.2.2.2.2.2.2.2.2.1 s.2.2.2.2.2.2.2.2.2.1 s.2.2.2.2.2.2.2.2.2.2.1 s.2.2.2.2.2.2.2.2.2.2.2.1 s.2.2.2.2.2.2.2.2.2.2.2.2.1 s.2.2.2.2.2.2.2.2.2.2.2.2.2.1 s.2.2.2.2.2.2.2.2.2.2.2.2.2.2.1 s.2.2.2.2.2.2.2.2.2.2.2.2.2.2.2.1 s.2.2.2.2.2.2.2.2.2.2.2.2.2.2.2.2.1 s.2.2.2.2.2.2.2.2.2.2.2.2.2.2.2.2.2.1 s.2.2.2.2.2.2.2.2.2.2.2.2.2.2.2.2.2.2.1 s.2.2.2.2.2.2.2.2.2.2.2.2.2.2.2.2.2.2.2.1 s.2.2.2.2.2.2.2.2.2.2.2.2.2.2.2.2.2.2.2.2.1 s.2.2.2.2.2.2.2.2.2.2.2.2.2.2.2.2.2.2.2.2.2.1 ora s.2.2.2.2.2.2.2.2.2.2.2.2.2.2.2.2.2.2.2.2.2.2.1 s.2.2.2.2.2.2.2.2.2.2.2.2.2.2.2.2.2.2.2.2.2.2.2 rsz rsg) (fun q4 => some (Sum.inl (if q4.1 = (0:Int32) then s.1 else (s.1 + (1:Int32)), s.2.1 + (1:Int32), q4.2.1, q4.2.2.1, q4.2.2.2.1, q4.2.2.2.2.1, q4.2.2.2.2.2.1, q4.2.2.2.2.2.2.1, q4.2.2.2.2.2.2.2.1, q4.2.2.2.2.2.2.2.2.1, q4.2.2.2.2.2.2.2.2.2.1, q4.2.2.2.2.2.2.2.2.2.2.1, q4.2.2.2.2.2.2.2.2.2.2.2.1, q4.2.2.2.2.2.2.2.2.2.2.2.2.1, q4.2.2.2.2.2.2.2.2.2.2.2.2.2.1, q4.2.2.2.2.2.2.2.2.2.2.2.2.2.2.1, q4.2.2.2.2.2.2.2.2.2.2.2.2.2.2.2.1, q4.2.2.2.2.2.2.2.2.2.2.2.2.2.2.2.2.1, q4.2.2.2.2.2.2.2.2.2.2.2.2.2.2.2.2.2.1, q4.2.2.2.2.2.2.2.2.2.2.2.2.2.2.2.2.2.2.1, q4.2.2.2.2.2.2.2.2.2.2.2.2.2.2.2.2.2.2.2.1, q4.2.2.2.2.2.2.2.2.2.2.2.2.2.2.2.2.2.2.2.2.1, q4.2.2.2.2.2.2.2.2.2.2.2.2.2.2.2.2.2.2.2.2.2.1, q4.2.2.2.2.2.2.2.2.2.2.2.2.2.2.2.2.2.2.2.2.2.2))))))
def X_read  (nrg : Int64) (nld : Int32) (nmt : (Nat → Int32)) (nps : Int32) (npl : Int32) (npw : (Nat → Int32)) (okn : Int32) (org : Int64) (osi : Int32) (oti : Int32) (ole : Int32) (oto : Int32) (oow : Int64) (oco : Int64) (ost : (Nat → Int32)) (owa : (Nat → Int32)) (owv : (Nat → Int32)) (owh : (Nat → Int32)) (olo : (Nat → Int32)) (ohi : (Nat → Int32)) (ora : (Nat → Int32)) (odi : (Nat → Int32)) (oqu : (Nat → Int32)) (rsz : Int32) (rsg : (Nat → Int32)) (rst : (Nat → Int32)) : Option (Int32 × Int64 × Int32 × (Nat → Int32) × Int32 × Int32 × (Nat → Int32) × Int32 × Int64 × Int32 × Int32 × Int32 × Int32 × Int64 × Int64 × (Nat → Int32) × (Nat → Int32) × (Nat → Int32) × (Nat → Int32) × (Nat → Int32) × (Nat → Int32) × (Nat → Int32) × (Nat → Int32) × Int32 × Int32 × (Nat → Int32)) := Option.bind (C_fault rsz rsg rst) (fun q1 => Option.bind (wh (X_read_s12 q1.1 ora rsz q1.2.1 rsg q1.2.2) FU ((0:Int32), (0:Int32), nrg, nld, nmt, nps, npl, npw, okn, org, osi, oti, ole, oto, oow, oco, ost, owa, owv, owh, olo, ohi, odi, oqu)) (fun w2 => Option.bind (C_clear) (fun q3 => some (if (0:Int32) ≤ q1.1 then ((-10:Int32) - q1.1) else w2.1, w2.2.1, w2.2.2.1, w2.2.2.2.1, w2.2.2.2.2.1, w2.2.2.2.2.2.1, w2.2.2.2.2.2.2.1, w2.2.2.2.2.2.2.2.1, w2.2.2.2.2.2.2.2.2.1, w2.2.2.2.2.2.2.2.2.2.1, w2.2.2.2.2.2.2.2.2.2.2.1, w2.2.2.2.2.2.2.2.2.2.2.2.1, w2.2.2.2.2.2.2.2.2.2.2.2.2.1, w2.2.2.2.2.2.2.2.2.2.2.2.2.2.1, w2.2.2.2.2.2.2.2.2.2.2.2.2.2.2.1, w2.2.2.2.2.2.2.2.2.2.2.2.2.2.2.2.1, w2.2.2.2.2.2.2.2.2.2.2.2.2.2.2.2.2.1, w2.2.2.2.2.2.2.2.2.2.2.2.2.2.2.2.2.2.1, w2.2.2.2.2.2.2.2.2.2.2.2.2.2.2.2.2.2.2.1, w2.2.2.2.2.2.2.2.2.2.2.2.2.2.2.2.2.2.2.2.1, w2.2.2.2.2.2.2.2.2.2.2.2.2.2.2.2.2.2.2.2.2.1, w2.2.2.2.2.2.2.2.2.2.2.2.2.2.2.2.2.2.2.2.2.2.1, w2.2.2.2.2.2.2.2.2.2.2.2.2.2.2.2.2.2.2.2.2.2.2, q3, q1.2.1, q1.2.2))))
set_option maxRecDepth 10000 in
theorem X_read_l12 {v1 : Int32}   (hE : cl = sxE sc (d + 6)) (hm : CallMono cl) : ∀ (n : Nat) (s : (Int32 × Int32 × Int64 × Int32 × (Nat → Int32) × Int32 × Int32 × (Nat → Int32) × Int32 × Int64 × Int32 × Int32 × Int32 × Int32 × Int64 × Int64 × (Nat → Int32) × (Nat → Int32) × (Nat → Int32) × (Nat → Int32) × (Nat → Int32) × (Nat → Int32) × (Nat → Int32) × (Nat → Int32))) (r : (Int32 × Int64 × Int32 × (Nat → Int32) × Int32 × Int32 × (Nat → Int32) × Int32 × Int64 × Int32 × Int32 × Int32 × Int32 × Int64 × Int64 × (Nat → Int32) × (Nat → Int32) × (Nat → Int32) × (Nat → Int32) × (Nat → Int32) × (Nat → Int32) × (Nat → Int32) × (Nat → Int32))), wh (X_read_s12 v1 ol.2.2.2.2.2.2.2.2.2.2.2.2.2.2.1 sr.1 sr.2.1 sr.2.2.1 sr.2.2.2) n s = some r → (∀ (z3 : Option Value), sxWP sc cl Q 98 (51, [some (.ref 0), some (.int v1), some (.int r.1), z3], [], (cW (r.2.1, r.2.2.1, r.2.2.2.1, (r.2.2.2.2.1, r.2.2.2.2.2.1, r.2.2.2.2.2.2.1, nw.2.2.2.1.2.2.2), nw.2.2.2.2.1, nw.2.2.2.2.2.1, nw.2.2.2.2.2.2) kp im (r.2.2.2.2.2.2.2.1, r.2.2.2.2.2.2.2.2.1, r.2.2.2.2.2.2.2.2.2.1, r.2.2.2.2.2.2.2.2.2.2.1, r.2.2.2.2.2.2.2.2.2.2.2.1, r.2.2.2.2.2.2.2.2.2.2.2.2.1, r.2.2.2.2.2.2.2.2.2.2.2.2.2.1, r.2.2.2.2.2.2.2.2.2.2.2.2.2.2.1, r.2.2.2.2.2.2.2.2.2.2.2.2.2.2.2.1, r.2.2.2.2.2.2.2.2.2.2.2.2.2.2.2.2.1, r.2.2.2.2.2.2.2.2.2.2.2.2.2.2.2.2.2.1, r.2.2.2.2.2.2.2.2.2.2.2.2.2.2.2.2.2.2.1, r.2.2.2.2.2.2.2.2.2.2.2.2.2.2.2.2.2.2.2.1, r.2.2.2.2.2.2.2.2.2.2.2.2.2.2.2.2.2.2.2.2.1, ol.2.2.2.2.2.2.2.2.2.2.2.2.2.2.1, r.2.2.2.2.2.2.2.2.2.2.2.2.2.2.2.2.2.2.2.2.2.1, r.2.2.2.2.2.2.2.2.2.2.2.2.2.2.2.2.2.2.2.2.2.2) sn sr tp (mW mk mg mt mc T)), 0, 0)) → sxWP sc cl Q 98 (12, [some (.ref 0), some (.int v1), some (.int s.1), some (.int s.2.1)], [], (cW (s.2.2.1, s.2.2.2.1, s.2.2.2.2.1, (s.2.2.2.2.2.1, s.2.2.2.2.2.2.1, s.2.2.2.2.2.2.2.1, nw.2.2.2.1.2.2.2), nw.2.2.2.2.1, nw.2.2.2.2.2.1, nw.2.2.2.2.2.2) kp im (s.2.2.2.2.2.2.2.2.1, s.2.2.2.2.2.2.2.2.2.1, s.2.2.2.2.2.2.2.2.2.2.1, s.2.2.2.2.2.2.2.2.2.2.2.1, s.2.2.2.2.2.2.2.2.2.2.2.2.1, s.2.2.2.2.2.2.2.2.2.2.2.2.2.1, s.2.2.2.2.2.2.2.2.2.2.2.2.2.2.1, s.2.2.2.2.2.2.2.2.2.2.2.2.2.2.2.1, s.2.2.2.2.2.2.2.2.2.2.2.2.2.2.2.2.1, s.2.2.2.2.2.2.2.2.2.2.2.2.2.2.2.2.2.1, s.2.2.2.2.2.2.2.2.2.2.2.2.2.2.2.2.2.2.1, s.2.2.2.2.2.2.2.2.2.2.2.2.2.2.2.2.2.2.2.1, s.2.2.2.2.2.2.2.2.2.2.2.2.2.2.2.2.2.2.2.2.1, s.2.2.2.2.2.2.2.2.2.2.2.2.2.2.2.2.2.2.2.2.2.1, ol.2.2.2.2.2.2.2.2.2.2.2.2.2.2.1, s.2.2.2.2.2.2.2.2.2.2.2.2.2.2.2.2.2.2.2.2.2.2.1, s.2.2.2.2.2.2.2.2.2.2.2.2.2.2.2.2.2.2.2.2.2.2.2) sn sr tp (mW mk mg mt mc T)), 0, 0) := by
  refine wh_run (A := fun (s : (Int32 × Int32 × Int64 × Int32 × (Nat → Int32) × Int32 × Int32 × (Nat → Int32) × Int32 × Int64 × Int32 × Int32 × Int32 × Int32 × Int64 × Int64 × (Nat → Int32) × (Nat → Int32) × (Nat → Int32) × (Nat → Int32) × (Nat → Int32) × (Nat → Int32) × (Nat → Int32) × (Nat → Int32))) => sxWP sc cl Q 98 (12, [some (.ref 0), some (.int v1), some (.int s.1), some (.int s.2.1)], [], (cW (s.2.2.1, s.2.2.2.1, s.2.2.2.2.1, (s.2.2.2.2.2.1, s.2.2.2.2.2.2.1, s.2.2.2.2.2.2.2.1, nw.2.2.2.1.2.2.2), nw.2.2.2.2.1, nw.2.2.2.2.2.1, nw.2.2.2.2.2.2) kp im (s.2.2.2.2.2.2.2.2.1, s.2.2.2.2.2.2.2.2.2.1, s.2.2.2.2.2.2.2.2.2.2.1, s.2.2.2.2.2.2.2.2.2.2.2.1, s.2.2.2.2.2.2.2.2.2.2.2.2.1, s.2.2.2.2.2.2.2.2.2.2.2.2.2.1, s.2.2.2.2.2.2.2.2.2.2.2.2.2.2.1, s.2.2.2.2.2.2.2.2.2.2.2.2.2.2.2.1, s.2.2.2.2.2.2.2.2.2.2.2.2.2.2.2.2.1, s.2.2.2.2.2.2.2.2.2.2.2.2.2.2.2.2.2.1, s.2.2.2.2.2.2.2.2.2.2.2.2.2.2.2.2.2.2.1, s.2.2.2.2.2.2.2.2.2.2.2.2.2.2.2.2.2.2.2.1, s.2.2.2.2.2.2.2.2.2.2.2.2.2.2.2.2.2.2.2.2.1, s.2.2.2.2.2.2.2.2.2.2.2.2.2.2.2.2.2.2.2.2.2.1, ol.2.2.2.2.2.2.2.2.2.2.2.2.2.2.1, s.2.2.2.2.2.2.2.2.2.2.2.2.2.2.2.2.2.2.2.2.2.2.1, s.2.2.2.2.2.2.2.2.2.2.2.2.2.2.2.2.2.2.2.2.2.2.2) sn sr tp (mW mk mg mt mc T)), 0, 0)) (B := fun (r : (Int32 × Int64 × Int32 × (Nat → Int32) × Int32 × Int32 × (Nat → Int32) × Int32 × Int64 × Int32 × Int32 × Int32 × Int32 × Int64 × Int64 × (Nat → Int32) × (Nat → Int32) × (Nat → Int32) × (Nat → Int32) × (Nat → Int32) × (Nat → Int32) × (Nat → Int32) × (Nat → Int32))) => ∀ (z3 : Option Value), sxWP sc cl Q 98 (51, [some (.ref 0), some (.int v1), some (.int r.1), z3], [], (cW (r.2.1, r.2.2.1, r.2.2.2.1, (r.2.2.2.2.1, r.2.2.2.2.2.1, r.2.2.2.2.2.2.1, nw.2.2.2.1.2.2.2), nw.2.2.2.2.1, nw.2.2.2.2.2.1, nw.2.2.2.2.2.2) kp im (r.2.2.2.2.2.2.2.1, r.2.2.2.2.2.2.2.2.1, r.2.2.2.2.2.2.2.2.2.1, r.2.2.2.2.2.2.2.2.2.2.1, r.2.2.2.2.2.2.2.2.2.2.2.1, r.2.2.2.2.2.2.2.2.2.2.2.2.1, r.2.2.2.2.2.2.2.2.2.2.2.2.2.1, r.2.2.2.2.2.2.2.2.2.2.2.2.2.2.1, r.2.2.2.2.2.2.2.2.2.2.2.2.2.2.2.1, r.2.2.2.2.2.2.2.2.2.2.2.2.2.2.2.2.1, r.2.2.2.2.2.2.2.2.2.2.2.2.2.2.2.2.2.1, r.2.2.2.2.2.2.2.2.2.2.2.2.2.2.2.2.2.2.1, r.2.2.2.2.2.2.2.2.2.2.2.2.2.2.2.2.2.2.2.1, r.2.2.2.2.2.2.2.2.2.2.2.2.2.2.2.2.2.2.2.2.1, ol.2.2.2.2.2.2.2.2.2.2.2.2.2.2.1, r.2.2.2.2.2.2.2.2.2.2.2.2.2.2.2.2.2.2.2.2.2.1, r.2.2.2.2.2.2.2.2.2.2.2.2.2.2.2.2.2.2.2.2.2.2) sn sr tp (mW mk mg mt mc T)), 0, 0)) (fun s x hf hA hB => ?_)
  unfold X_read_s12 at hf
  refine stp hm 2 (br hf (fun c1 hf => ?_) (fun c1 hf => ?_))
  · show sxWP sc cl Q 98 (51, [some (.ref 0), some (.int v1), some (.int s.1), some (.int s.2.1)], [], (cW (s.2.2.1, s.2.2.2.1, s.2.2.2.2.1, (s.2.2.2.2.2.1, s.2.2.2.2.2.2.1, s.2.2.2.2.2.2.2.1, nw.2.2.2.1.2.2.2), nw.2.2.2.2.1, nw.2.2.2.2.2.1, nw.2.2.2.2.2.2) kp im (s.2.2.2.2.2.2.2.2.1, s.2.2.2.2.2.2.2.2.2.1, s.2.2.2.2.2.2.2.2.2.2.1, s.2.2.2.2.2.2.2.2.2.2.2.1, s.2.2.2.2.2.2.2.2.2.2.2.2.1, s.2.2.2.2.2.2.2.2.2.2.2.2.2.1, s.2.2.2.2.2.2.2.2.2.2.2.2.2.2.1, s.2.2.2.2.2.2.2.2.2.2.2.2.2.2.2.1, s.2.2.2.2.2.2.2.2.2.2.2.2.2.2.2.2.1, s.2.2.2.2.2.2.2.2.2.2.2.2.2.2.2.2.2.1, s.2.2.2.2.2.2.2.2.2.2.2.2.2.2.2.2.2.2.1, s.2.2.2.2.2.2.2.2.2.2.2.2.2.2.2.2.2.2.2.1, s.2.2.2.2.2.2.2.2.2.2.2.2.2.2.2.2.2.2.2.2.1, s.2.2.2.2.2.2.2.2.2.2.2.2.2.2.2.2.2.2.2.2.2.1, ol.2.2.2.2.2.2.2.2.2.2.2.2.2.2.1, s.2.2.2.2.2.2.2.2.2.2.2.2.2.2.2.2.2.2.2.2.2.2.1, s.2.2.2.2.2.2.2.2.2.2.2.2.2.2.2.2.2.2.2.2.2.2.2) sn sr tp (mW mk mg mt mc T)), 0, 0)
    obtain rfl := Option.some.inj hf
    exact hB _ rfl _
  · show sxWP sc cl Q 98 (16, [some (.ref 0), some (.int v1), some (.int s.1), some (.int s.2.1)], [], (cW (s.2.2.1, s.2.2.2.1, s.2.2.2.2.1, (s.2.2.2.2.2.1, s.2.2.2.2.2.2.1, s.2.2.2.2.2.2.2.1, nw.2.2.2.1.2.2.2), nw.2.2.2.2.1, nw.2.2.2.2.2.1, nw.2.2.2.2.2.2) kp im (s.2.2.2.2.2.2.2.2.1, s.2.2.2.2.2.2.2.2.2.1, s.2.2.2.2.2.2.2.2.2.2.1, s.2.2.2.2.2.2.2.2.2.2.2.1, s.2.2.2.2.2.2.2.2.2.2.2.2.1, s.2.2.2.2.2.2.2.2.2.2.2.2.2.1, s.2.2.2.2.2.2.2.2.2.2.2.2.2.2.1, s.2.2.2.2.2.2.2.2.2.2.2.2.2.2.2.1, s.2.2.2.2.2.2.2.2.2.2.2.2.2.2.2.2.1, s.2.2.2.2.2.2.2.2.2.2.2.2.2.2.2.2.2.1, s.2.2.2.2.2.2.2.2.2.2.2.2.2.2.2.2.2.2.1, s.2.2.2.2.2.2.2.2.2.2.2.2.2.2.2.2.2.2.2.1, s.2.2.2.2.2.2.2.2.2.2.2.2.2.2.2.2.2.2.2.2.1, s.2.2.2.2.2.2.2.2.2.2.2.2.2.2.2.2.2.2.2.2.2.1, ol.2.2.2.2.2.2.2.2.2.2.2.2.2.2.1, s.2.2.2.2.2.2.2.2.2.2.2.2.2.2.2.2.2.2.2.2.2.2.1, s.2.2.2.2.2.2.2.2.2.2.2.2.2.2.2.2.2.2.2.2.2.2.2) sn sr tp (mW mk mg mt mc T)), 0, 0)
    refine stp hm 5 (br hf (fun c2 hf => ?_) (fun c2 hf => ?_))
    · show sxWP sc cl Q 98 (51, [some (.ref 0), some (.int v1), some (.int s.1), some (.int s.2.1)], [], (cW (s.2.2.1, s.2.2.2.1, s.2.2.2.2.1, (s.2.2.2.2.2.1, s.2.2.2.2.2.2.1, s.2.2.2.2.2.2.2.1, nw.2.2.2.1.2.2.2), nw.2.2.2.2.1, nw.2.2.2.2.2.1, nw.2.2.2.2.2.2) kp im (s.2.2.2.2.2.2.2.2.1, s.2.2.2.2.2.2.2.2.2.1, s.2.2.2.2.2.2.2.2.2.2.1, s.2.2.2.2.2.2.2.2.2.2.2.1, s.2.2.2.2.2.2.2.2.2.2.2.2.1, s.2.2.2.2.2.2.2.2.2.2.2.2.2.1, s.2.2.2.2.2.2.2.2.2.2.2.2.2.2.1, s.2.2.2.2.2.2.2.2.2.2.2.2.2.2.2.1, s.2.2.2.2.2.2.2.2.2.2.2.2.2.2.2.2.1, s.2.2.2.2.2.2.2.2.2.2.2.2.2.2.2.2.2.1, s.2.2.2.2.2.2.2.2.2.2.2.2.2.2.2.2.2.2.1, s.2.2.2.2.2.2.2.2.2.2.2.2.2.2.2.2.2.2.2.1, s.2.2.2.2.2.2.2.2.2.2.2.2.2.2.2.2.2.2.2.2.1, s.2.2.2.2.2.2.2.2.2.2.2.2.2.2.2.2.2.2.2.2.2.1, ol.2.2.2.2.2.2.2.2.2.2.2.2.2.2.1, s.2.2.2.2.2.2.2.2.2.2.2.2.2.2.2.2.2.2.2.2.2.2.1, s.2.2.2.2.2.2.2.2.2.2.2.2.2.2.2.2.2.2.2.2.2.2.2) sn sr tp (mW mk mg mt mc T)), 0, 0)
      obtain rfl := Option.some.inj hf
      exact hB _ rfl _
    · show sxWP sc cl Q 98 (27, [some (.ref 0), some (.int v1), some (.int s.1), some (.int s.2.1)], [], (cW (s.2.2.1, s.2.2.2.1, s.2.2.2.2.1, (s.2.2.2.2.2.1, s.2.2.2.2.2.2.1, s.2.2.2.2.2.2.2.1, nw.2.2.2.1.2.2.2), nw.2.2.2.2.1, nw.2.2.2.2.2.1, nw.2.2.2.2.2.2) kp im (s.2.2.2.2.2.2.2.2.1, s.2.2.2.2.2.2.2.2.2.1, s.2.2.2.2.2.2.2.2.2.2.1, s.2.2.2.2.2.2.2.2.2.2.2.1, s.2.2.2.2.2.2.2.2.2.2.2.2.1, s.2.2.2.2.2.2.2.2.2.2.2.2.2.1, s.2.2.2.2.2.2.2.2.2.2.2.2.2.2.1, s.2.2.2.2.2.2.2.2.2.2.2.2.2.2.2.1, s.2.2.2.2.2.2.2.2.2.2.2.2.2.2.2.2.1, s.2.2.2.2.2.2.2.2.2.2.2.2.2.2.2.2.2.1, s.2.2.2.2.2.2.2.2.2.2.2.2.2.2.2.2.2.2.1, s.2.2.2.2.2.2.2.2.2.2.2.2.2.2.2.2.2.2.2.1, s.2.2.2.2.2.2.2.2.2.2.2.2.2.2.2.2.2.2.2.2.1, s.2.2.2.2.2.2.2.2.2.2.2.2.2.2.2.2.2.2.2.2.2.1, ol.2.2.2.2.2.2.2.2.2.2.2.2.2.2.1, s.2.2.2.2.2.2.2.2.2.2.2.2.2.2.2.2.2.2.2.2.2.2.1, s.2.2.2.2.2.2.2.2.2.2.2.2.2.2.2.2.2.2.2.2.2.2.2) sn sr tp (mW mk mg mt mc T)), 0, 0)
      obtain ⟨q3, hq3, hf⟩ := bnd hf
      refine stp hm 5 (C_start_ok hE hq3 ?_)
      show sxWP sc cl Q 98 (36, [some (.ref 0), some (.int v1), some (.int s.1), some (.int s.2.1)], [.int q3, .ref 0], (cW (s.2.2.1, s.2.2.2.1, s.2.2.2.2.1, (s.2.2.2.2.2.1, s.2.2.2.2.2.2.1, s.2.2.2.2.2.2.2.1, nw.2.2.2.1.2.2.2), nw.2.2.2.2.1, nw.2.2.2.2.2.1, nw.2.2.2.2.2.2) kp im (s.2.2.2.2.2.2.2.2.1, s.2.2.2.2.2.2.2.2.2.1, s.2.2.2.2.2.2.2.2.2.2.1, s.2.2.2.2.2.2.2.2.2.2.2.1, s.2.2.2.2.2.2.2.2.2.2.2.2.1, s.2.2.2.2.2.2.2.2.2.2.2.2.2.1, s.2.2.2.2.2.2.2.2.2.2.2.2.2.2.1, s.2.2.2.2.2.2.2.2.2.2.2.2.2.2.2.1, s.2.2.2.2.2.2.2.2.2.2.2.2.2.2.2.2.1, s.2.2.2.2.2.2.2.2.2.2.2.2.2.2.2.2.2.1, s.2.2.2.2.2.2.2.2.2.2.2.2.2.2.2.2.2.2.1, s.2.2.2.2.2.2.2.2.2.2.2.2.2.2.2.2.2.2.2.1, s.2.2.2.2.2.2.2.2.2.2.2.2.2.2.2.2.2.2.2.2.1, s.2.2.2.2.2.2.2.2.2.2.2.2.2.2.2.2.2.2.2.2.2.1, ol.2.2.2.2.2.2.2.2.2.2.2.2.2.2.1, s.2.2.2.2.2.2.2.2.2.2.2.2.2.2.2.2.2.2.2.2.2.2.1, s.2.2.2.2.2.2.2.2.2.2.2.2.2.2.2.2.2.2.2.2.2.2.2) sn sr tp (mW mk mg mt mc T)), 0, 0)
      obtain ⟨q4, hq4, hf⟩ := bnd hf
      refine stp hm 1 (X_carriedOut_ok hE hq4 ?_)
      show sxWP sc cl Q 98 (39, [some (.ref 0), some (.int v1), some (.int s.1), some (.int s.2.1)], [.int q4.1], (cW (q4.2.1, q4.2.2.1, q4.2.2.2.1, (q4.2.2.2.2.1, q4.2.2.2.2.2.1, q4.2.2.2.2.2.2.1, nw.2.2.2.1.2.2.2), nw.2.2.2.2.1, nw.2.2.2.2.2.1, nw.2.2.2.2.2.2) kp im (q4.2.2.2.2.2.2.2.1, q4.2.2.2.2.2.2.2.2.1, q4.2.2.2.2.2.2.2.2.2.1, q4.2.2.2.2.2.2.2.2.2.2.1, q4.2.2.2.2.2.2.2.2.2.2.2.1, q4.2.2.2.2.2.2.2.2.2.2.2.2.1, q4.2.2.2.2.2.2.2.2.2.2.2.2.2.1, q4.2.2.2.2.2.2.2.2.2.2.2.2.2.2.1, q4.2.2.2.2.2.2.2.2.2.2.2.2.2.2.2.1, q4.2.2.2.2.2.2.2.2.2.2.2.2.2.2.2.2.1, q4.2.2.2.2.2.2.2.2.2.2.2.2.2.2.2.2.2.1, q4.2.2.2.2.2.2.2.2.2.2.2.2.2.2.2.2.2.2.1, q4.2.2.2.2.2.2.2.2.2.2.2.2.2.2.2.2.2.2.2.1, q4.2.2.2.2.2.2.2.2.2.2.2.2.2.2.2.2.2.2.2.2.1, ol.2.2.2.2.2.2.2.2.2.2.2.2.2.2.1, q4.2.2.2.2.2.2.2.2.2.2.2.2.2.2.2.2.2.2.2.2.2.1, q4.2.2.2.2.2.2.2.2.2.2.2.2.2.2.2.2.2.2.2.2.2.2) sn sr tp (mW mk mg mt mc T)), 0, 0)
      have m5 : ∀ (m5_0 : Int32), m5_0 = (if q4.1 = (0:Int32) then s.1 else (s.1 + (1:Int32))) → sxWP sc cl Q 98 (45, [some (.ref 0), some (.int v1), some (.int m5_0), some (.int s.2.1)], [], (cW (q4.2.1, q4.2.2.1, q4.2.2.2.1, (q4.2.2.2.2.1, q4.2.2.2.2.2.1, q4.2.2.2.2.2.2.1, nw.2.2.2.1.2.2.2), nw.2.2.2.2.1, nw.2.2.2.2.2.1, nw.2.2.2.2.2.2) kp im (q4.2.2.2.2.2.2.2.1, q4.2.2.2.2.2.2.2.2.1, q4.2.2.2.2.2.2.2.2.2.1, q4.2.2.2.2.2.2.2.2.2.2.1, q4.2.2.2.2.2.2.2.2.2.2.2.1, q4.2.2.2.2.2.2.2.2.2.2.2.2.1, q4.2.2.2.2.2.2.2.2.2.2.2.2.2.1, q4.2.2.2.2.2.2.2.2.2.2.2.2.2.2.1, q4.2.2.2.2.2.2.2.2.2.2.2.2.2.2.2.1, q4.2.2.2.2.2.2.2.2.2.2.2.2.2.2.2.2.1, q4.2.2.2.2.2.2.2.2.2.2.2.2.2.2.2.2.2.1, q4.2.2.2.2.2.2.2.2.2.2.2.2.2.2.2.2.2.2.1, q4.2.2.2.2.2.2.2.2.2.2.2.2.2.2.2.2.2.2.2.1, q4.2.2.2.2.2.2.2.2.2.2.2.2.2.2.2.2.2.2.2.2.1, ol.2.2.2.2.2.2.2.2.2.2.2.2.2.2.1, q4.2.2.2.2.2.2.2.2.2.2.2.2.2.2.2.2.2.2.2.2.2.1, q4.2.2.2.2.2.2.2.2.2.2.2.2.2.2.2.2.2.2.2.2.2.2) sn sr tp (mW mk mg mt mc T)), 0, 0) := by
        intro m5_0 em5_0
        subst em5_0
        obtain rfl := Option.some.inj hf
        refine stp hm 2 (?_ : sxWP sc cl Q 98 (12, [some (.ref 0), some (.int v1), some (.int (if q4.1 = (0:Int32) then s.1 else (s.1 + (1:Int32)))), some (.int (s.2.1 + (1:Int32)))], [], (cW (q4.2.1, q4.2.2.1, q4.2.2.2.1, (q4.2.2.2.2.1, q4.2.2.2.2.2.1, q4.2.2.2.2.2.2.1, nw.2.2.2.1.2.2.2), nw.2.2.2.2.1, nw.2.2.2.2.2.1, nw.2.2.2.2.2.2) kp im (q4.2.2.2.2.2.2.2.1, q4.2.2.2.2.2.2.2.2.1, q4.2.2.2.2.2.2.2.2.2.1, q4.2.2.2.2.2.2.2.2.2.2.1, q4.2.2.2.2.2.2.2.2.2.2.2.1, q4.2.2.2.2.2.2.2.2.2.2.2.2.1, q4.2.2.2.2.2.2.2.2.2.2.2.2.2.1, q4.2.2.2.2.2.2.2.2.2.2.2.2.2.2.1, q4.2.2.2.2.2.2.2.2.2.2.2.2.2.2.2.1, q4.2.2.2.2.2.2.2.2.2.2.2.2.2.2.2.2.1, q4.2.2.2.2.2.2.2.2.2.2.2.2.2.2.2.2.2.1, q4.2.2.2.2.2.2.2.2.2.2.2.2.2.2.2.2.2.2.1, q4.2.2.2.2.2.2.2.2.2.2.2.2.2.2.2.2.2.2.2.1, q4.2.2.2.2.2.2.2.2.2.2.2.2.2.2.2.2.2.2.2.2.1, ol.2.2.2.2.2.2.2.2.2.2.2.2.2.2.1, q4.2.2.2.2.2.2.2.2.2.2.2.2.2.2.2.2.2.2.2.2.2.1, q4.2.2.2.2.2.2.2.2.2.2.2.2.2.2.2.2.2.2.2.2.2.2) sn sr tp (mW mk mg mt mc T)), 0, 0))
        exact hA _ rfl
      refine stp hm 1 (bs (c := q4.1 = (0:Int32)) (fun c6 => ?_) (fun c6 => ?_))
      · have c6 : q4.1 = (0:Int32) := c6
        exact m5 _ (by rw [if_pos c6])
      · have c6 : ¬ q4.1 = (0:Int32) := c6
        refine stp hm 1 (?_ : sxWP sc cl Q 98 (45, [some (.ref 0), some (.int v1), some (.int (s.1 + (1:Int32))), some (.int s.2.1)], [], (cW (q4.2.1, q4.2.2.1, q4.2.2.2.1, (q4.2.2.2.2.1, q4.2.2.2.2.2.1, q4.2.2.2.2.2.2.1, nw.2.2.2.1.2.2.2), nw.2.2.2.2.1, nw.2.2.2.2.2.1, nw.2.2.2.2.2.2) kp im (q4.2.2.2.2.2.2.2.1, q4.2.2.2.2.2.2.2.2.1, q4.2.2.2.2.2.2.2.2.2.1, q4.2.2.2.2.2.2.2.2.2.2.1, q4.2.2.2.2.2.2.2.2.2.2.2.1, q4.2.2.2.2.2.2.2.2.2.2.2.2.1, q4.2.2.2.2.2.2.2.2.2.2.2.2.2.1, q4.2.2.2.2.2.2.2.2.2.2.2.2.2.2.1, q4.2.2.2.2.2.2.2.2.2.2.2.2.2.2.2.1, q4.2.2.2.2.2.2.2.2.2.2.2.2.2.2.2.2.1, q4.2.2.2.2.2.2.2.2.2.2.2.2.2.2.2.2.2.1, q4.2.2.2.2.2.2.2.2.2.2.2.2.2.2.2.2.2.2.1, q4.2.2.2.2.2.2.2.2.2.2.2.2.2.2.2.2.2.2.2.1, q4.2.2.2.2.2.2.2.2.2.2.2.2.2.2.2.2.2.2.2.2.1, ol.2.2.2.2.2.2.2.2.2.2.2.2.2.2.1, q4.2.2.2.2.2.2.2.2.2.2.2.2.2.2.2.2.2.2.2.2.2.1, q4.2.2.2.2.2.2.2.2.2.2.2.2.2.2.2.2.2.2.2.2.2.2) sn sr tp (mW mk mg mt mc T)), 0, 0))
        exact m5 _ (by rw [if_neg c6])
set_option maxRecDepth 10000 in
theorem X_read_ok  {q : (Int32 × Int64 × Int32 × (Nat → Int32) × Int32 × Int32 × (Nat → Int32) × Int32 × Int64 × Int32 × Int32 × Int32 × Int32 × Int64 × Int64 × (Nat → Int32) × (Nat → Int32) × (Nat → Int32) × (Nat → Int32) × (Nat → Int32) × (Nat → Int32) × (Nat → Int32) × (Nat → Int32) × Int32 × Int32 × (Nat → Int32))} (hc : call = sxE sc (d + 7)) (hf : X_read nw.1 nw.2.1 nw.2.2.1 nw.2.2.2.1.1 nw.2.2.2.1.2.1 nw.2.2.2.1.2.2.1 ol.1 ol.2.1 ol.2.2.1 ol.2.2.2.1 ol.2.2.2.2.1 ol.2.2.2.2.2.1 ol.2.2.2.2.2.2.1 ol.2.2.2.2.2.2.2.1 ol.2.2.2.2.2.2.2.2.1 ol.2.2.2.2.2.2.2.2.2.1 ol.2.2.2.2.2.2.2.2.2.2.1 ol.2.2.2.2.2.2.2.2.2.2.2.1 ol.2.2.2.2.2.2.2.2.2.2.2.2.1 ol.2.2.2.2.2.2.2.2.2.2.2.2.2.1 ol.2.2.2.2.2.2.2.2.2.2.2.2.2.2.1 ol.2.2.2.2.2.2.2.2.2.2.2.2.2.2.2.1 ol.2.2.2.2.2.2.2.2.2.2.2.2.2.2.2.2 sr.1 sr.2.2.1 sr.2.2.2 = some q) (h : Q (some (.int q.1)) (cW (q.2.1, q.2.2.1, q.2.2.2.1, (q.2.2.2.2.1, q.2.2.2.2.2.1, q.2.2.2.2.2.2.1, nw.2.2.2.1.2.2.2), nw.2.2.2.2.1, nw.2.2.2.2.2.1, nw.2.2.2.2.2.2) kp im (q.2.2.2.2.2.2.2.1, q.2.2.2.2.2.2.2.2.1, q.2.2.2.2.2.2.2.2.2.1, q.2.2.2.2.2.2.2.2.2.2.1, q.2.2.2.2.2.2.2.2.2.2.2.1, q.2.2.2.2.2.2.2.2.2.2.2.2.1, q.2.2.2.2.2.2.2.2.2.2.2.2.2.1, q.2.2.2.2.2.2.2.2.2.2.2.2.2.2.1, q.2.2.2.2.2.2.2.2.2.2.2.2.2.2.2.1, q.2.2.2.2.2.2.2.2.2.2.2.2.2.2.2.2.1, q.2.2.2.2.2.2.2.2.2.2.2.2.2.2.2.2.2.1, q.2.2.2.2.2.2.2.2.2.2.2.2.2.2.2.2.2.2.1, q.2.2.2.2.2.2.2.2.2.2.2.2.2.2.2.2.2.2.2.1, q.2.2.2.2.2.2.2.2.2.2.2.2.2.2.2.2.2.2.2.2.1, ol.2.2.2.2.2.2.2.2.2.2.2.2.2.2.1, q.2.2.2.2.2.2.2.2.2.2.2.2.2.2.2.2.2.2.2.2.2.1, q.2.2.2.2.2.2.2.2.2.2.2.2.2.2.2.2.2.2.2.2.2.2.1) sn (q.2.2.2.2.2.2.2.2.2.2.2.2.2.2.2.2.2.2.2.2.2.2.2.1, q.2.2.2.2.2.2.2.2.2.2.2.2.2.2.2.2.2.2.2.2.2.2.2.2.1, sr.2.2.1, q.2.2.2.2.2.2.2.2.2.2.2.2.2.2.2.2.2.2.2.2.2.2.2.2.2) tp (mW mk mg mt mc T))) : call 98 [.ref 0] (cW nw kp im ol sn sr tp (mW mk mg mt mc T)) Q := by
  refine ent hc rfl (fun cl hE hm => ?_)
  unfold X_read at hf
  obtain ⟨q1, hq1, hf⟩ := bnd hf
  refine stp hm 3 (C_fault_ok hE hq1 ?_)
  show sxWP sc cl Q 98 (7, [some (.ref 0), none, none, none], [.int q1.1], (cW nw kp im ol sn (sr.1, q1.2.1, sr.2.2.1, q1.2.2) tp (mW mk mg mt mc T)), 0, 0)
  obtain ⟨w2, hw2, hf⟩ := bnd hf
  refine stp hm 5 (?_ : sxWP sc cl Q 98 (12, [some (.ref 0), some (.int q1.1), some (.int (0:Int32)), some (.int (0:Int32))], [], (cW nw kp im ol sn (sr.1, q1.2.1, sr.2.2.1, q1.2.2) tp (mW mk mg mt mc T)), 0, 0))
  refine X_read_l12 hE hm _ _ _ hw2 ?_
  intro w2_z3
  show sxWP sc cl Q 98 (51, [some (.ref 0), some (.int q1.1), some (.int w2.1), w2_z3], [], (cW (w2.2.1, w2.2.2.1, w2.2.2.2.1, (w2.2.2.2.2.1, w2.2.2.2.2.2.1, w2.2.2.2.2.2.2.1, nw.2.2.2.1.2.2.2), nw.2.2.2.2.1, nw.2.2.2.2.2.1, nw.2.2.2.2.2.2) kp im (w2.2.2.2.2.2.2.2.1, w2.2.2.2.2.2.2.2.2.1, w2.2.2.2.2.2.2.2.2.2.1, w2.2.2.2.2.2.2.2.2.2.2.1, w2.2.2.2.2.2.2.2.2.2.2.2.1, w2.2.2.2.2.2.2.2.2.2.2.2.2.1, w2.2.2.2.2.2.2.2.2.2.2.2.2.2.1, w2.2.2.2.2.2.2.2.2.2.2.2.2.2.2.1, w2.2.2.2.2.2.2.2.2.2.2.2.2.2.2.2.1, w2.2.2.2.2.2.2.2.2.2.2.2.2.2.2.2.2.1, w2.2.2.2.2.2.2.2.2.2.2.2.2.2.2.2.2.2.1, w2.2.2.2.2.2.2.2.2.2.2.2.2.2.2.2.2.2.2.1, w2.2.2.2.2.2.2.2.2.2.2.2.2.2.2.2.2.2.2.2.1, w2.2.2.2.2.2.2.2.2.2.2.2.2.2.2.2.2.2.2.2.2.1, ol.2.2.2.2.2.2.2.2.2.2.2.2.2.2.1, w2.2.2.2.2.2.2.2.2.2.2.2.2.2.2.2.2.2.2.2.2.2.1, w2.2.2.2.2.2.2.2.2.2.2.2.2.2.2.2.2.2.2.2.2.2.2) sn (sr.1, q1.2.1, sr.2.2.1, q1.2.2) tp (mW mk mg mt mc T)), 0, 0)
  obtain ⟨q3, hq3, hf⟩ := bnd hf
  refine stp hm 3 (C_clear_ok hE hq3 ?_)
  show sxWP sc cl Q 98 (58, [some (.ref 0), some (.int q1.1), some (.int w2.1), w2_z3], [], (cW (w2.2.1, w2.2.2.1, w2.2.2.2.1, (w2.2.2.2.2.1, w2.2.2.2.2.2.1, w2.2.2.2.2.2.2.1, nw.2.2.2.1.2.2.2), nw.2.2.2.2.1, nw.2.2.2.2.2.1, nw.2.2.2.2.2.2) kp im (w2.2.2.2.2.2.2.2.1, w2.2.2.2.2.2.2.2.2.1, w2.2.2.2.2.2.2.2.2.2.1, w2.2.2.2.2.2.2.2.2.2.2.1, w2.2.2.2.2.2.2.2.2.2.2.2.1, w2.2.2.2.2.2.2.2.2.2.2.2.2.1, w2.2.2.2.2.2.2.2.2.2.2.2.2.2.1, w2.2.2.2.2.2.2.2.2.2.2.2.2.2.2.1, w2.2.2.2.2.2.2.2.2.2.2.2.2.2.2.2.1, w2.2.2.2.2.2.2.2.2.2.2.2.2.2.2.2.2.1, w2.2.2.2.2.2.2.2.2.2.2.2.2.2.2.2.2.2.1, w2.2.2.2.2.2.2.2.2.2.2.2.2.2.2.2.2.2.2.1, w2.2.2.2.2.2.2.2.2.2.2.2.2.2.2.2.2.2.2.2.1, w2.2.2.2.2.2.2.2.2.2.2.2.2.2.2.2.2.2.2.2.2.1, ol.2.2.2.2.2.2.2.2.2.2.2.2.2.2.1, w2.2.2.2.2.2.2.2.2.2.2.2.2.2.2.2.2.2.2.2.2.2.1, w2.2.2.2.2.2.2.2.2.2.2.2.2.2.2.2.2.2.2.2.2.2.2) sn (q3, q1.2.1, sr.2.2.1, q1.2.2) tp (mW mk mg mt mc T)), 0, 0)
  have m4 : ∀ (m4_0 : Int32), m4_0 = (if (0:Int32) ≤ q1.1 then ((-10:Int32) - q1.1) else w2.1) → sxWP sc cl Q 98 (70, [some (.ref 0), some (.int q1.1), some (.int w2.1), w2_z3], [.int m4_0], (cW (w2.2.1, w2.2.2.1, w2.2.2.2.1, (w2.2.2.2.2.1, w2.2.2.2.2.2.1, w2.2.2.2.2.2.2.1, nw.2.2.2.1.2.2.2), nw.2.2.2.2.1, nw.2.2.2.2.2.1, nw.2.2.2.2.2.2) kp im (w2.2.2.2.2.2.2.2.1, w2.2.2.2.2.2.2.2.2.1, w2.2.2.2.2.2.2.2.2.2.1, w2.2.2.2.2.2.2.2.2.2.2.1, w2.2.2.2.2.2.2.2.2.2.2.2.1, w2.2.2.2.2.2.2.2.2.2.2.2.2.1, w2.2.2.2.2.2.2.2.2.2.2.2.2.2.1, w2.2.2.2.2.2.2.2.2.2.2.2.2.2.2.1, w2.2.2.2.2.2.2.2.2.2.2.2.2.2.2.2.1, w2.2.2.2.2.2.2.2.2.2.2.2.2.2.2.2.2.1, w2.2.2.2.2.2.2.2.2.2.2.2.2.2.2.2.2.2.1, w2.2.2.2.2.2.2.2.2.2.2.2.2.2.2.2.2.2.2.1, w2.2.2.2.2.2.2.2.2.2.2.2.2.2.2.2.2.2.2.2.1, w2.2.2.2.2.2.2.2.2.2.2.2.2.2.2.2.2.2.2.2.2.1, ol.2.2.2.2.2.2.2.2.2.2.2.2.2.2.1, w2.2.2.2.2.2.2.2.2.2.2.2.2.2.2.2.2.2.2.2.2.2.1, w2.2.2.2.2.2.2.2.2.2.2.2.2.2.2.2.2.2.2.2.2.2.2) sn (q3, q1.2.1, sr.2.2.1, q1.2.2) tp (mW mk mg mt mc T)), 0, 0) := by
    intro m4_0 em4_0
    subst em4_0
    obtain rfl := Option.some.inj hf
    refine stp hm 1 ?_
    exact h
  refine stp hm 2 (bs (c := (0:Int32) ≤ q1.1) (fun c5 => ?_) (fun c5 => ?_))
  · have c5 : (0:Int32) ≤ q1.1 := c5
    refine stp hm 3 (?_ : sxWP sc cl Q 98 (70, [some (.ref 0), some (.int q1.1), some (.int w2.1), w2_z3], [.int ((-10:Int32) - q1.1)], (cW (w2.2.1, w2.2.2.1, w2.2.2.2.1, (w2.2.2.2.2.1, w2.2.2.2.2.2.1, w2.2.2.2.2.2.2.1, nw.2.2.2.1.2.2.2), nw.2.2.2.2.1, nw.2.2.2.2.2.1, nw.2.2.2.2.2.2) kp im (w2.2.2.2.2.2.2.2.1, w2.2.2.2.2.2.2.2.2.1, w2.2.2.2.2.2.2.2.2.2.1, w2.2.2.2.2.2.2.2.2.2.2.1, w2.2.2.2.2.2.2.2.2.2.2.2.1, w2.2.2.2.2.2.2.2.2.2.2.2.2.1, w2.2.2.2.2.2.2.2.2.2.2.2.2.2.1, w2.2.2.2.2.2.2.2.2.2.2.2.2.2.2.1, w2.2.2.2.2.2.2.2.2.2.2.2.2.2.2.2.1, w2.2.2.2.2.2.2.2.2.2.2.2.2.2.2.2.2.1, w2.2.2.2.2.2.2.2.2.2.2.2.2.2.2.2.2.2.1, w2.2.2.2.2.2.2.2.2.2.2.2.2.2.2.2.2.2.2.1, w2.2.2.2.2.2.2.2.2.2.2.2.2.2.2.2.2.2.2.2.1, w2.2.2.2.2.2.2.2.2.2.2.2.2.2.2.2.2.2.2.2.2.1, ol.2.2.2.2.2.2.2.2.2.2.2.2.2.2.1, w2.2.2.2.2.2.2.2.2.2.2.2.2.2.2.2.2.2.2.2.2.2.1, w2.2.2.2.2.2.2.2.2.2.2.2.2.2.2.2.2.2.2.2.2.2.2) sn (q3, q1.2.1, sr.2.2.1, q1.2.2) tp (mW mk mg mt mc T)), 0, 0))
    exact m4 _ (by rw [if_pos c5])
  · have c5 : ¬ (0:Int32) ≤ q1.1 := c5
    refine stp hm 2 (?_ : sxWP sc cl Q 98 (70, [some (.ref 0), some (.int q1.1), some (.int w2.1), w2_z3], [.int w2.1], (cW (w2.2.1, w2.2.2.1, w2.2.2.2.1, (w2.2.2.2.2.1, w2.2.2.2.2.2.1, w2.2.2.2.2.2.2.1, nw.2.2.2.1.2.2.2), nw.2.2.2.2.1, nw.2.2.2.2.2.1, nw.2.2.2.2.2.2) kp im (w2.2.2.2.2.2.2.2.1, w2.2.2.2.2.2.2.2.2.1, w2.2.2.2.2.2.2.2.2.2.1, w2.2.2.2.2.2.2.2.2.2.2.1, w2.2.2.2.2.2.2.2.2.2.2.2.1, w2.2.2.2.2.2.2.2.2.2.2.2.2.1, w2.2.2.2.2.2.2.2.2.2.2.2.2.2.1, w2.2.2.2.2.2.2.2.2.2.2.2.2.2.2.1, w2.2.2.2.2.2.2.2.2.2.2.2.2.2.2.2.1, w2.2.2.2.2.2.2.2.2.2.2.2.2.2.2.2.2.1, w2.2.2.2.2.2.2.2.2.2.2.2.2.2.2.2.2.2.1, w2.2.2.2.2.2.2.2.2.2.2.2.2.2.2.2.2.2.2.1, w2.2.2.2.2.2.2.2.2.2.2.2.2.2.2.2.2.2.2.2.1, w2.2.2.2.2.2.2.2.2.2.2.2.2.2.2.2.2.2.2.2.2.1, ol.2.2.2.2.2.2.2.2.2.2.2.2.2.2.1, w2.2.2.2.2.2.2.2.2.2.2.2.2.2.2.2.2.2.2.2.2.2.1, w2.2.2.2.2.2.2.2.2.2.2.2.2.2.2.2.2.2.2.2.2.2.2) sn (q3, q1.2.1, sr.2.2.1, q1.2.2) tp (mW mk mg mt mc T)), 0, 0))
    exact m4 _ (by rw [if_neg c5])

def M_here_j24  (k0 : Int32) : Option Int32 := some k0
def M_here  (msz : Int32) (tat : Int32) (mtx : (Nat → Int32)) : Option Int32 := if msz ≤ tat then (M_here_j24 (-1:Int32)) else (grd (gi tat 100) (M_here_j24 (mtx tat.toNatClampNeg)))
set_option maxRecDepth 10000 in
theorem M_here_ok  {q : Int32} (hc : call = sxE sc (d + 1)) (hf : M_here mk.2.2.2.2.2.2.1 mt.1 mk.2.2.2.2.2.1 = some q) (h : Q (some (.int q)) (cW nw kp im ol sn sr tp (mW mk mg mt mc T))) : call 188 [.ref 59] (cW nw kp im ol sn sr tp (mW mk mg mt mc T)) Q := by
  refine ent hc rfl (fun cl hE hm => ?_)
  have J24 : ∀ (k0 : Int32) (z0 : Option Value), M_here_j24 k0 = some q → sxWP sc cl Q 188 (24, [z0], [.int k0], (cW nw kp im ol sn sr tp (mW mk mg mt mc T)), 0, 0) := by
    intro k0 z0 hf
    unfold M_here_j24 at hf
    obtain rfl := Option.some.inj hf
    refine stp hm 1 ?_
    exact h
  unfold M_here at hf
  refine stp hm 5 (br hf (fun c1 hf => ?_) (fun c1 hf => ?_))
  · show sxWP sc cl Q 188 (23, [some (.ref 59)], [], (cW nw kp im ol sn sr tp (mW mk mg mt mc T)), 0, 0)
    refine stp hm 1 (?_ : sxWP sc cl Q 188 (24, [some (.ref 59)], [.int (-1:Int32)], (cW nw kp im ol sn sr tp (mW mk mg mt mc T)), 0, 0))
    exact J24 _ _ hf
  · show sxWP sc cl Q 188 (11, [some (.ref 59)], [], (cW nw kp im ol sn sr tp (mW mk mg mt mc T)), 0, 0)
    obtain ⟨g2, hf⟩ := grd_e hf
    refine stp hm 5 (And.intro (gi_in g2) (?_ : sxWP sc cl Q 188 (20, [some (.ref 59)], [.int (mk.2.2.2.2.2.1 mt.1.toNatClampNeg)], (cW nw kp im ol sn sr tp (mW mk mg mt mc T)), 0, 0)))
    refine stp hm 1 (?_ : sxWP sc cl Q 188 (24, [some (.ref 59)], [.int (mk.2.2.2.2.2.1 mt.1.toNatClampNeg)], (cW nw kp im ol sn sr tp (mW mk mg mt mc T)), 0, 0))
    exact J24 _ _ hf

def M_wants (v0 : Int32)  : Int32 := if v0 = (102:Int32) then (4:Int32) else (if v0 = (101:Int32) then (4:Int32) else (if v0 = (99:Int32) then (2:Int32) else (if v0 = (116:Int32) then (2:Int32) else (if v0 = (119:Int32) then (2:Int32) else (0:Int32)))))
set_option maxRecDepth 10000 in
theorem M_wants_ok {v0 : Int32} {r : Int32} (hc : call = sxE sc (d + 1)) (hf : M_wants v0 = r) (h : Q (some (.int r)) hp) : call 190 [.int v0] hp Q := by
  refine ent hc rfl (fun cl hE hm => ?_)
  unfold M_wants at hf
  have m1 : ∀ (m1_0 : Int32), m1_0 = (if v0 = (102:Int32) then (4:Int32) else (if v0 = (101:Int32) then (4:Int32) else (if v0 = (99:Int32) then (2:Int32) else (if v0 = (116:Int32) then (2:Int32) else (if v0 = (119:Int32) then (2:Int32) else (0:Int32)))))) → sxWP sc cl Q 190 (39, [some (.int v0)], [.int m1_0], hp, 0, 0) := by
    intro m1_0 em1_0
    subst em1_0
    subst hf
    refine stp hm 1 ?_
    exact h
  refine stp hm 3 (bs (c := v0 = (102:Int32)) (fun c2 => ?_) (fun c2 => ?_))
  · have c2 : v0 = (102:Int32) := c2
    refine stp hm 2 (?_ : sxWP sc cl Q 190 (39, [some (.int v0)], [.int (4:Int32)], hp, 0, 0))
    exact m1 _ (by rw [if_pos c2])
  · have c2 : ¬ v0 = (102:Int32) := c2
    refine stp hm 3 (bsn (c := v0 = (101:Int32)) (fun c3 => ?_) (fun c3 => ?_))
    · have c3 : ¬ v0 = (101:Int32) := c3
      refine stp hm 3 (bs (c := v0 = (99:Int32)) (fun c4 => ?_) (fun c4 => ?_))
      · have c4 : v0 = (99:Int32) := c4
        refine stp hm 2 (?_ : sxWP sc cl Q 190 (39, [some (.int v0)], [.int (2:Int32)], hp, 0, 0))
        exact m1 _ (by rw [if_neg c2, if_neg c3, if_pos c4])
      · have c4 : ¬ v0 = (99:Int32) := c4
        refine stp hm 3 (bs (c := v0 = (116:Int32)) (fun c5 => ?_) (fun c5 => ?_))
        · have c5 : v0 = (116:Int32) := c5
          refine stp hm 2 (?_ : sxWP sc cl Q 190 (39, [some (.int v0)], [.int (2:Int32)], hp, 0, 0))
          exact m1 _ (by rw [if_neg c2, if_neg c3, if_neg c4, if_pos c5])
        · have c5 : ¬ v0 = (116:Int32) := c5
          refine stp hm 3 (bsn (c := v0 = (119:Int32)) (fun c6 => ?_) (fun c6 => ?_))
          · have c6 : ¬ v0 = (119:Int32) := c6
            refine stp hm 1 (?_ : sxWP sc cl Q 190 (39, [some (.int v0)], [.int (0:Int32)], hp, 0, 0))
            exact m1 _ (by rw [if_neg c2, if_neg c3, if_neg c4, if_neg c5, if_neg c6])
          · have c6 : v0 = (119:Int32) := c6
            refine stp hm 2 (?_ : sxWP sc cl Q 190 (39, [some (.int v0)], [.int (2:Int32)], hp, 0, 0))
            exact m1 _ (by rw [if_neg c2, if_neg c3, if_neg c4, if_neg c5, if_pos c6])
    · have c3 : v0 = (101:Int32) := c3
      refine stp hm 2 (?_ : sxWP sc cl Q 190 (39, [some (.int v0)], [.int (4:Int32)], hp, 0, 0))
      exact m1 _ (by rw [if_neg c2, if_pos c3])

def M_isLetter (v0 : Int32)  : Int32 := if (0:Int32) < (M_wants v0) then (1:Int32) else (if v0 = (109:Int32) then (1:Int32) else (if v0 = (108:Int32) then (1:Int32) else (if v0 = (103:Int32) then (1:Int32) else (0:Int32))))
set_option maxRecDepth 10000 in
theorem M_isLetter_ok {v0 : Int32} {r : Int32} (hc : call = sxE sc (d + 2)) (hf : M_isLetter v0 = r) (h : Q (some (.int r)) hp) : call 191 [.int v0] hp Q := by
  refine ent hc rfl (fun cl hE hm => ?_)
  unfold M_isLetter at hf
  refine stp hm 2 (M_wants_ok hE rfl ?_)
  show sxWP sc cl Q 191 (4, [some (.int v0)], [.int (M_wants v0)], hp, 0, 0)
  have m1 : ∀ (m1_0 : Int32), m1_0 = (if (0:Int32) < (M_wants v0) then (1:Int32) else (if v0 = (109:Int32) then (1:Int32) else (if v0 = (108:Int32) then (1:Int32) else (if v0 = (103:Int32) then (1:Int32) else (0:Int32))))) → sxWP sc cl Q 191 (30, [some (.int v0)], [.int m1_0], hp, 0, 0) := by
    intro m1_0 em1_0
    subst em1_0
    subst hf
    refine stp hm 1 (And.intro (by (repeat' split) <;> first | exact Or.inl rfl | exact Or.inr rfl) ?_)
    exact h
  refine stp hm 1 (bs (c := (0:Int32) < (M_wants v0)) (fun c2 => ?_) (fun c2 => ?_))
  · have c2 : (0:Int32) < (M_wants v0) := c2
    refine stp hm 2 (?_ : sxWP sc cl Q 191 (30, [some (.int v0)], [.int (1:Int32)], hp, 0, 0))
    exact m1 _ (by rw [if_pos c2])
  · have c2 : ¬ (0:Int32) < (M_wants v0) := c2
    refine stp hm 3 (bs (c := v0 = (109:Int32)) (fun c3 => ?_) (fun c3 => ?_))
    · have c3 : v0 = (109:Int32) := c3
      refine stp hm 2 (?_ : sxWP sc cl Q 191 (30, [some (.int v0)], [.int (1:Int32)], hp, 0, 0))
      exact m1 _ (by rw [if_neg c2, if_pos c3])
    · have c3 : ¬ v0 = (109:Int32) := c3
      refine stp hm 3 (bs (c := v0 = (108:Int32)) (fun c4 => ?_) (fun c4 => ?_))
      · have c4 : v0 = (108:Int32) := c4
        refine stp hm 2 (?_ : sxWP sc cl Q 191 (30, [some (.int v0)], [.int (1:Int32)], hp, 0, 0))
        exact m1 _ (by rw [if_neg c2, if_neg c3, if_pos c4])
      · have c4 : ¬ v0 = (108:Int32) := c4
        refine stp hm 3 (bsn (c := v0 = (103:Int32)) (fun c5 => ?_) (fun c5 => ?_))
        · have c5 : ¬ v0 = (103:Int32) := c5
          refine stp hm 1 (?_ : sxWP sc cl Q 191 (30, [some (.int v0)], [.int (0:Int32)], hp, 0, 0))
          exact m1 _ (by rw [if_neg c2, if_neg c3, if_neg c4, if_neg c5])
        · have c5 : v0 = (103:Int32) := c5
          refine stp hm 2 (?_ : sxWP sc cl Q 191 (30, [some (.int v0)], [.int (1:Int32)], hp, 0, 0))
          exact m1 _ (by rw [if_neg c2, if_neg c3, if_neg c4, if_pos c5])
theorem M_isLetter_z {v0 : Int32}  : M_isLetter v0 = 0 ∨ M_isLetter v0 = 1 := by
  unfold M_isLetter
  (repeat' split) <;> first | exact Or.inl rfl | exact Or.inr rfl

def M_fails_j16  (tfa_j : Int32) : Option Int32 := some tfa_j
def M_fails  (tat : Int32) (tfa : Int32) : Option Int32 := if tfa = (-1:Int32) then (M_fails_j16 tat) else (M_fails_j16 tfa)
set_option maxRecDepth 10000 in
theorem M_fails_ok  {q : Int32} (hc : call = sxE sc (d + 1)) (hf : M_fails mt.1 mt.2.1 = some q) (h : Q none (cW nw kp im ol sn sr tp (mW mk mg (mt.1, q, mt.2.2) mc T))) : call 189 [.ref 59] (cW nw kp im ol sn sr tp (mW mk mg mt mc T)) Q := by
  refine ent hc rfl (fun cl hE hm => ?_)
  have J16 : ∀ (tfa_j : Int32) (z0 : Option Value), M_fails_j16 tfa_j = some q → sxWP sc cl Q 189 (16, [z0], [], (cW nw kp im ol sn sr tp (mW mk mg (mt.1, tfa_j, mt.2.2) mc T)), 0, 0) := by
    intro tfa_j z0 hf
    unfold M_fails_j16 at hf
    obtain rfl := Option.some.inj hf
    refine stp hm 1 ?_
    exact h
  unfold M_fails at hf
  refine stp hm 4 (brn hf (fun c1 hf => ?_) (fun c1 hf => ?_))
  · show sxWP sc cl Q 189 (16, [some (.ref 59)], [], (cW nw kp im ol sn sr tp (mW mk mg mt mc T)), 0, 0)
    exact J16 _ _ hf
  · show sxWP sc cl Q 189 (8, [some (.ref 59)], [], (cW nw kp im ol sn sr tp (mW mk mg mt mc T)), 0, 0)
    refine stp hm 4 (?_ : sxWP sc cl Q 189 (16, [some (.ref 59)], [], (cW nw kp im ol sn sr tp (mW mk mg (mt.1, mt.1, mt.2.2) mc T)), 0, 0))
    exact J16 _ _ hf

def M_digit_j22  (tat_j : Int32) (tfa_j : Int32) : Option (Int32 × Int32 × Int32) := Option.bind (M_fails tat_j tfa_j) (fun q1 => some ((0:Int32), tat_j, q1))
def M_digit  (msz : Int32) (tat : Int32) (tfa : Int32) (mtx : (Nat → Int32)) : Option (Int32 × Int32 × Int32) := if tfa = (-1:Int32) then (Option.bind (M_here msz tat mtx) (fun q3 => if (M_isIn q3 (48:Int32) (57:Int32)) = (0:Int32) then (M_digit_j22 tat tfa) else (grd (gi ((tat + (1:Int32)) - (1:Int32)) 100) (some ((mtx ((tat + (1:Int32)) - (1:Int32)).toNatClampNeg) - (48:Int32), tat + (1:Int32), tfa))))) else (M_digit_j22 tat tfa)
set_option maxRecDepth 10000 in
theorem M_digit_ok  {q : (Int32 × Int32 × Int32)} (hc : call = sxE sc (d + 2)) (hf : M_digit mk.2.2.2.2.2.2.1 mt.1 mt.2.1 mk.2.2.2.2.2.1 = some q) (h : Q (some (.int q.1)) (cW nw kp im ol sn sr tp (mW mk mg (q.2.1, q.2.2, mt.2.2) mc T))) : call 192 [.ref 59] (cW nw kp im ol sn sr tp (mW mk mg mt mc T)) Q := by
  refine ent hc rfl (fun cl hE hm => ?_)
  have J22 : ∀ (tat_j : Int32) (tfa_j : Int32), M_digit_j22 tat_j tfa_j = some q → sxWP sc cl Q 192 (22, [some (.ref 59)], [], (cW nw kp im ol sn sr tp (mW mk mg (tat_j, tfa_j, mt.2.2) mc T)), 0, 0) := by
    intro tat_j tfa_j hf
    unfold M_digit_j22 at hf
    obtain ⟨q1, hq1, hf⟩ := bnd hf
    refine stp hm 2 (M_fails_ok hE hq1 ?_)
    show sxWP sc cl Q 192 (26, [some (.ref 59)], [], (cW nw kp im ol sn sr tp (mW mk mg (tat_j, q1, mt.2.2) mc T)), 0, 0)
    obtain rfl := Option.some.inj hf
    refine stp hm 2 ?_
    exact h
  unfold M_digit at hf
  refine stp hm 4 (brn hf (fun c2 hf => ?_) (fun c2 hf => ?_))
  · show sxWP sc cl Q 192 (22, [some (.ref 59)], [], (cW nw kp im ol sn sr tp (mW mk mg mt mc T)), 0, 0)
    exact J22 _ _ hf
  · show sxWP sc cl Q 192 (8, [some (.ref 59)], [], (cW nw kp im ol sn sr tp (mW mk mg mt mc T)), 0, 0)
    obtain ⟨q3, hq3, hf⟩ := bnd hf
    refine stp hm 2 (M_here_ok hE hq3 ?_)
    show sxWP sc cl Q 192 (12, [some (.ref 59)], [.int q3], (cW nw kp im ol sn sr tp (mW mk mg mt mc T)), 0, 0)
    refine stp hm 3 (M_isIn_ok hE rfl ?_)
    show sxWP sc cl Q 192 (19, [some (.ref 59)], [.int (M_isIn q3 (48:Int32) (57:Int32))], (cW nw kp im ol sn sr tp (mW mk mg mt mc T)), 0, 0)
    refine stp hm 1 (brn hf (fun c4 hf => ?_) (fun c4 hf => ?_))
    · show sxWP sc cl Q 192 (28, [some (.ref 59)], [], (cW nw kp im ol sn sr tp (mW mk mg mt mc T)), 0, 0)
      obtain ⟨g5, hf⟩ := grd_e hf
      refine stp hm 13 (And.intro (gi_in g5) (?_ : sxWP sc cl Q 192 (49, [some (.ref 59)], [.int (mk.2.2.2.2.2.1 ((mt.1 + (1:Int32)) - (1:Int32)).toNatClampNeg)], (cW nw kp im ol sn sr tp (mW mk mg (mt.1 + (1:Int32), mt.2.1, mt.2.2) mc T)), 0, 0)))
      obtain rfl := Option.some.inj hf
      refine stp hm 3 ?_
      exact h
    · show sxWP sc cl Q 192 (22, [some (.ref 59)], [], (cW nw kp im ol sn sr tp (mW mk mg mt mc T)), 0, 0)
      exact J22 _ _ hf

def J_String_isLatin1   : Int32 := (1:Int32)
set_option maxRecDepth 10000 in
theorem J_String_isLatin1_ok  {r : Int32} (hc : call = sxE sc (d + 1)) (hf : J_String_isLatin1 = r) (h : Q (some (.int r)) hp) : call 251 [.ref 1000004] hp Q := by
  refine ent hc rfl (fun cl hE hm => ?_)
  unfold J_String_isLatin1 at hf
  refine stp hm 2 (bF (by decide) (?_ : sxWP sc cl Q 251 (6, [some (.ref 1000004)], [], hp, 0, 0)))
  refine stp hm 3 (bNF (by decide) (?_ : sxWP sc cl Q 251 (13, [some (.ref 1000004)], [], hp, 0, 0)))
  subst hf
  refine stp hm 3 (And.intro (Or.inr rfl) ?_)
  exact h
theorem J_String_isLatin1_z   : J_String_isLatin1 = 0 ∨ J_String_isLatin1 = 1 := by
  unfold J_String_isLatin1
  (repeat' split) <;> first | exact Or.inl rfl | exact Or.inr rfl

def J_Preconditions_checkIndex_j9   : Option Int32 := none
def J_Preconditions_checkIndex (v0 : Int32) (v1 : Int32)  : Option Int32 := if v0 < (0:Int32) then J_Preconditions_checkIndex_j9 else (if v0 < v1 then (some v0) else J_Preconditions_checkIndex_j9)
set_option maxRecDepth 10000 in
theorem J_Preconditions_checkIndex_ok {v0 : Int32} {v1 : Int32} {q : Int32} (hc : call = sxE sc (d + 1)) (hf : J_Preconditions_checkIndex v0 v1 = some q) (h : Q (some (.int q)) (cW nw kp im ol sn sr tp (mW mk mg mt mc T))) : call 256 [.int v0, .int v1, .retAddr 0] (cW nw kp im ol sn sr tp (mW mk mg mt mc T)) Q := by
  refine ent hc rfl (fun cl hE hm => ?_)
  have J9 : ∀ (v0 : Int32) (v1 : Int32), J_Preconditions_checkIndex_j9 = some q → sxWP sc cl Q 256 (9, [some (.int v0), some (.int v1), some (.retAddr 0)], [], (cW nw kp im ol sn sr tp (mW mk mg mt mc T)), 0, 0) := by
    intro v0 v1 hf
    unfold J_Preconditions_checkIndex_j9 at hf
    cases hf
  unfold J_Preconditions_checkIndex at hf
  refine stp hm 2 (br hf (fun c1 hf => ?_) (fun c1 hf => ?_))
  · show sxWP sc cl Q 256 (9, [some (.int v0), some (.int v1), some (.retAddr 0)], [], (cW nw kp im ol sn sr tp (mW mk mg mt mc T)), 0, 0)
    exact J9 _ _ hf
  · show sxWP sc cl Q 256 (4, [some (.int v0), some (.int v1), some (.retAddr 0)], [], (cW nw kp im ol sn sr tp (mW mk mg mt mc T)), 0, 0)
    refine stp hm 3 (br hf (fun c2 hf => ?_) (fun c2 hf => ?_))
    · show sxWP sc cl Q 256 (16, [some (.int v0), some (.int v1), some (.retAddr 0)], [], (cW nw kp im ol sn sr tp (mW mk mg mt mc T)), 0, 0)
      obtain rfl := Option.some.inj hf
      refine stp hm 2 ?_
      exact h
    · show sxWP sc cl Q 256 (9, [some (.int v0), some (.int v1), some (.retAddr 0)], [], (cW nw kp im ol sn sr tp (mW mk mg mt mc T)), 0, 0)
      exact J9 _ _ hf

def J_String_checkIndex (v0 : Int32) (v1 : Int32)  : Option Unit := Option.bind (J_Preconditions_checkIndex v0 v1) (fun q1 => some ())
set_option maxRecDepth 10000 in
theorem J_String_checkIndex_ok {v0 : Int32} {v1 : Int32} {q : Unit} (hc : call = sxE sc (d + 2)) (hf : J_String_checkIndex v0 v1 = some q) (h : Q none (cW nw kp im ol sn sr tp (mW mk mg mt mc T))) : call 252 [.int v0, .int v1] (cW nw kp im ol sn sr tp (mW mk mg mt mc T)) Q := by
  refine ent hc rfl (fun cl hE hm => ?_)
  unfold J_String_checkIndex at hf
  obtain ⟨q1, hq1, hf⟩ := bnd hf
  refine stp hm 4 (J_Preconditions_checkIndex_ok hE hq1 ?_)
  show sxWP sc cl Q 252 (8, [some (.int v0), some (.int v1)], [.int q1], (cW nw kp im ol sn sr tp (mW mk mg mt mc T)), 0, 0)
  obtain rfl := Option.some.inj hf
  refine stp hm 2 ?_
  exact h

def J_StringLatin1_charAt (v1 : Int32)  : Option Int32 := Option.bind (J_String_checkIndex v1 (Int32.ofNat 4)) (fun q1 => grd (gi v1 4) (grd (cb ((((sxRDLU v1.toNatClampNeg) &&& (255:Int32)).toUInt32 % 65536).toInt32)) (some ((((sxRDLU v1.toNatClampNeg) &&& (255:Int32)).toUInt32 % 65536).toInt32))))
set_option maxRecDepth 10000 in
theorem J_StringLatin1_charAt_ok {v1 : Int32} {q : Int32} (hc : call = sxE sc (d + 3)) (hf : J_StringLatin1_charAt v1 = some q) (h : Q (some (.int q)) (cW nw kp im ol sn sr tp (mW mk mg mt mc T))) : call 253 [.ref 1000005, .int v1] (cW nw kp im ol sn sr tp (mW mk mg mt mc T)) Q := by
  refine ent hc rfl (fun cl hE hm => ?_)
  unfold J_StringLatin1_charAt at hf
  obtain ⟨q1, hq1, hf⟩ := bnd hf
  refine stp hm 4 (J_String_checkIndex_ok hE hq1 ?_)
  show sxWP sc cl Q 253 (6, [some (.ref 1000005), some (.int v1)], [], (cW nw kp im ol sn sr tp (mW mk mg mt mc T)), 0, 0)
  obtain ⟨g2, hf⟩ := grd_e hf
  refine stp hm 3 (And.intro (gi_in g2) (?_ : sxWP sc cl Q 253 (9, [some (.ref 1000005), some (.int v1)], [.int (sxRDLU v1.toNatClampNeg)], (cW nw kp im ol sn sr tp (mW mk mg mt mc T)), 0, 0)))
  obtain ⟨g0, hf⟩ := grd_e hf
  obtain rfl := Option.some.inj hf
  refine stp hm 4 (And.intro (cb_e g0) ?_)
  exact h

def J_String_charAt (v1 : Int32)  : Option Int32 := if J_String_isLatin1 = (0:Int32) then none else (Option.bind (J_StringLatin1_charAt v1) (fun q2 => grd (cb q2) (some q2)))
set_option maxRecDepth 10000 in
theorem J_String_charAt_ok {v1 : Int32} {q : Int32} (hc : call = sxE sc (d + 4)) (hf : J_String_charAt v1 = some q) (h : Q (some (.int q)) (cW nw kp im ol sn sr tp (mW mk mg mt mc T))) : call 250 [.ref 1000004, .int v1] (cW nw kp im ol sn sr tp (mW mk mg mt mc T)) Q := by
  refine ent hc rfl (fun cl hE hm => ?_)
  unfold J_String_charAt at hf
  refine stp hm 2 (J_String_isLatin1_ok hE rfl ?_)
  show sxWP sc cl Q 250 (4, [some (.ref 1000004), some (.int v1)], [.int J_String_isLatin1], (cW nw kp im ol sn sr tp (mW mk mg mt mc T)), 0, 0)
  refine stp hm 1 (br hf (fun c1 hf => ?_) (fun c1 hf => ?_))
  · show sxWP sc cl Q 250 (16, [some (.ref 1000004), some (.int v1)], [], (cW nw kp im ol sn sr tp (mW mk mg mt mc T)), 0, 0)
    cases hf
  · show sxWP sc cl Q 250 (7, [some (.ref 1000004), some (.int v1)], [], (cW nw kp im ol sn sr tp (mW mk mg mt mc T)), 0, 0)
    obtain ⟨q2, hq2, hf⟩ := bnd hf
    refine stp hm 4 (J_StringLatin1_charAt_ok hE hq2 ?_)
    show sxWP sc cl Q 250 (15, [some (.ref 1000004), some (.int v1)], [.int q2], (cW nw kp im ol sn sr tp (mW mk mg mt mc T)), 0, 0)
    obtain ⟨g0, hf⟩ := grd_e hf
    obtain rfl := Option.some.inj hf
    refine stp hm 1 (And.intro (cb_e g0) ?_)
    exact h

def M_wayOf_s2  (v0 : Int32) (s : Int32) : Option (Int32 ⊕ (Int32 ⊕ Unit)) := if (4:Int32) ≤ s then (some (Sum.inr (Sum.inr ()))) else (Option.bind (J_String_charAt s) (fun q2 => if q2 = v0 then (some (Sum.inr (Sum.inl s))) else (some (Sum.inl (s + (1:Int32))))))
def M_wayOf (v0 : Int32)  : Option Int32 := Option.bind (wh (M_wayOf_s2 v0) FU (0:Int32)) (Sum.elim (fun w1_0a => some w1_0a) (fun w1_0b => some (-1:Int32)))
set_option maxRecDepth 10000 in
theorem M_wayOf_l2 {v0 : Int32}   (hE : cl = sxE sc (d + 4)) (hm : CallMono cl) : ∀ (n : Nat) (s : Int32) (r : (Int32 ⊕ Unit)), wh (M_wayOf_s2 v0) n s = some r → ((∀ p0, r = Sum.inl p0 → ∀ (z0 : Option Value), sxWP sc cl Q 193 (17, [z0, some (.int p0)], [], (cW nw kp im ol sn sr tp (mW mk mg mt mc T)), 0, 0)) ∧ (∀ p0, r = Sum.inr p0 → ∀ (z0 z1 : Option Value), sxWP sc cl Q 193 (25, [z0, z1], [], (cW nw kp im ol sn sr tp (mW mk mg mt mc T)), 0, 0))) → sxWP sc cl Q 193 (2, [some (.int v0), some (.int s)], [], (cW nw kp im ol sn sr tp (mW mk mg mt mc T)), 0, 0) := by
  refine wh_run (A := fun (s : Int32) => sxWP sc cl Q 193 (2, [some (.int v0), some (.int s)], [], (cW nw kp im ol sn sr tp (mW mk mg mt mc T)), 0, 0)) (B := fun (r : (Int32 ⊕ Unit)) => (∀ p0, r = Sum.inl p0 → ∀ (z0 : Option Value), sxWP sc cl Q 193 (17, [z0, some (.int p0)], [], (cW nw kp im ol sn sr tp (mW mk mg mt mc T)), 0, 0)) ∧ (∀ p0, r = Sum.inr p0 → ∀ (z0 z1 : Option Value), sxWP sc cl Q 193 (25, [z0, z1], [], (cW nw kp im ol sn sr tp (mW mk mg mt mc T)), 0, 0))) (fun s x hf hA hB => ?_)
  unfold M_wayOf_s2 at hf
  refine stp hm 3 (br hf (fun c1 hf => ?_) (fun c1 hf => ?_))
  · show sxWP sc cl Q 193 (25, [some (.int v0), some (.int s)], [], (cW nw kp im ol sn sr tp (mW mk mg mt mc T)), 0, 0)
    obtain rfl := Option.some.inj hf
    exact (hB _ rfl).2 _ rfl _ _
  · show sxWP sc cl Q 193 (7, [some (.int v0), some (.int s)], [], (cW nw kp im ol sn sr tp (mW mk mg mt mc T)), 0, 0)
    obtain ⟨q2, hq2, hf⟩ := bnd hf
    refine stp hm 3 (J_String_charAt_ok hE hq2 ?_)
    show sxWP sc cl Q 193 (13, [some (.int v0), some (.int s)], [.int q2], (cW nw kp im ol sn sr tp (mW mk mg mt mc T)), 0, 0)
    refine stp hm 2 (brn hf (fun c3 hf => ?_) (fun c3 hf => ?_))
    · show sxWP sc cl Q 193 (19, [some (.int v0), some (.int s)], [], (cW nw kp im ol sn sr tp (mW mk mg mt mc T)), 0, 0)
      obtain rfl := Option.some.inj hf
      refine stp hm 2 (?_ : sxWP sc cl Q 193 (2, [some (.int v0), some (.int (s + (1:Int32)))], [], (cW nw kp im ol sn sr tp (mW mk mg mt mc T)), 0, 0))
      exact hA _ rfl
    · show sxWP sc cl Q 193 (17, [some (.int v0), some (.int s)], [], (cW nw kp im ol sn sr tp (mW mk mg mt mc T)), 0, 0)
      obtain rfl := Option.some.inj hf
      exact (hB _ rfl).1 _ rfl _
set_option maxRecDepth 10000 in
theorem M_wayOf_ok {v0 : Int32} {q : Int32} (hc : call = sxE sc (d + 5)) (hf : M_wayOf v0 = some q) (h : Q (some (.int q)) (cW nw kp im ol sn sr tp (mW mk mg mt mc T))) : call 193 [.int v0] (cW nw kp im ol sn sr tp (mW mk mg mt mc T)) Q := by
  refine ent hc rfl (fun cl hE hm => ?_)
  unfold M_wayOf at hf
  obtain ⟨w1, hw1, hf⟩ := bnd hf
  refine stp hm 2 (?_ : sxWP sc cl Q 193 (2, [some (.int v0), some (.int (0:Int32))], [], (cW nw kp im ol sn sr tp (mW mk mg mt mc T)), 0, 0))
  refine M_wayOf_l2 hE hm _ _ _ hw1 ?_
  refine ⟨fun w1_0a e0 => ?_, fun w1_0b e0 => ?_⟩
  · subst e0
    replace hf : (some w1_0a) = some q := hf
    intro w1_z0
    show sxWP sc cl Q 193 (17, [w1_z0, some (.int w1_0a)], [], (cW nw kp im ol sn sr tp (mW mk mg mt mc T)), 0, 0)
    obtain rfl := Option.some.inj hf
    refine stp hm 2 ?_
    exact h
  · subst e0
    replace hf : (some (-1:Int32)) = some q := hf
    intro w1_z0 w1_z1
    show sxWP sc cl Q 193 (25, [w1_z0, w1_z1], [], (cW nw kp im ol sn sr tp (mW mk mg mt mc T)), 0, 0)
    obtain rfl := Option.some.inj hf
    refine stp hm 2 ?_
    exact h

def M_ways_s2  (v1 : Int32) (msz : Int32) (tfa : Int32) (mtx : (Nat → Int32)) (s : (Int32 × Int32 × (Nat → Int32))) : Option ((Int32 × Int32 × (Nat → Int32)) ⊕ (Int32 × Int32 × (Nat → Int32))) := if tfa = (-1:Int32) then (if (20:Int32) ≤ s.1 then (some (Sum.inr (s.1, s.2.1, s.2.2))) else (Option.bind (M_here msz s.2.1 mtx) (fun q3 => Option.bind (M_wayOf q3) (fun q4 => if q4 = (-1:Int32) then (some (Sum.inr (s.1, s.2.1, s.2.2))) else (Option.bind (M_here msz s.2.1 mtx) (fun q6 => Option.bind (M_wayOf q6) (fun q7 => grd (gi ((v1 + (6:Int32)) + s.1) 312) (some (Sum.inl (s.1 + (1:Int32), s.2.1 + (1:Int32), upd s.2.2 ((v1 + (6:Int32)) + s.1).toNatClampNeg q7)))))))))) else (some (Sum.inr (s.1, s.2.1, s.2.2)))
def M_ways_j69  (v1 : Int32) (v2 : Int32) (tat_j : Int32) (tfa_j : Int32) (tto_j : (Nat → Int32)) : Option (Int32 × Int32 × (Nat → Int32)) := grd (gi (v1 + (5:Int32)) 312) (some (tat_j, tfa_j, upd tto_j (v1 + (5:Int32)).toNatClampNeg v2))
def M_ways (v1 : Int32) (msz : Int32) (tat : Int32) (tfa : Int32) (mtx : (Nat → Int32)) (tto : (Nat → Int32)) : Option (Int32 × Int32 × (Nat → Int32)) := Option.bind (wh (M_ways_s2 v1 msz tfa mtx) FU ((0:Int32), tat, tto)) (fun w2 => if w2.1 = (0:Int32) then (Option.bind (M_fails w2.2.1 tfa) (fun q4 => M_ways_j69 v1 w2.1 w2.2.1 q4 w2.2.2)) else (M_ways_j69 v1 w2.1 w2.2.1 tfa w2.2.2))
set_option maxRecDepth 10000 in
theorem M_ways_l2 {v1 : Int32}   (hE : cl = sxE sc (d + 5)) (hm : CallMono cl) : ∀ (n : Nat) (s : (Int32 × Int32 × (Nat → Int32))) (r : (Int32 × Int32 × (Nat → Int32))), wh (M_ways_s2 v1 mk.2.2.2.2.2.2.1 mt.2.1 mk.2.2.2.2.2.1) n s = some r → (sxWP sc cl Q 194 (61, [some (.ref 59), some (.int v1), some (.int r.1)], [], (cW nw kp im ol sn sr tp (mW mk mg (r.2.1, mt.2.1, r.2.2) mc T)), 0, 0)) → sxWP sc cl Q 194 (2, [some (.ref 59), some (.int v1), some (.int s.1)], [], (cW nw kp im ol sn sr tp (mW mk mg (s.2.1, mt.2.1, s.2.2) mc T)), 0, 0) := by
  refine wh_run (A := fun (s : (Int32 × Int32 × (Nat → Int32))) => sxWP sc cl Q 194 (2, [some (.ref 59), some (.int v1), some (.int s.1)], [], (cW nw kp im ol sn sr tp (mW mk mg (s.2.1, mt.2.1, s.2.2) mc T)), 0, 0)) (B := fun (r : (Int32 × Int32 × (Nat → Int32))) => sxWP sc cl Q 194 (61, [some (.ref 59), some (.int v1), some (.int r.1)], [], (cW nw kp im ol sn sr tp (mW mk mg (r.2.1, mt.2.1, r.2.2) mc T)), 0, 0)) (fun s x hf hA hB => ?_)
  unfold M_ways_s2 at hf
  refine stp hm 4 (brn hf (fun c1 hf => ?_) (fun c1 hf => ?_))
  · show sxWP sc cl Q 194 (61, [some (.ref 59), some (.int v1), some (.int s.1)], [], (cW nw kp im ol sn sr tp (mW mk mg (s.2.1, mt.2.1, s.2.2) mc T)), 0, 0)
    obtain rfl := Option.some.inj hf
    exact hB _ rfl
  · show sxWP sc cl Q 194 (10, [some (.ref 59), some (.int v1), some (.int s.1)], [], (cW nw kp im ol sn sr tp (mW mk mg (s.2.1, mt.2.1, s.2.2) mc T)), 0, 0)
    refine stp hm 3 (br hf (fun c2 hf => ?_) (fun c2 hf => ?_))
    · show sxWP sc cl Q 194 (61, [some (.ref 59), some (.int v1), some (.int s.1)], [], (cW nw kp im ol sn sr tp (mW mk mg (s.2.1, mt.2.1, s.2.2) mc T)), 0, 0)
      obtain rfl := Option.some.inj hf
      exact hB _ rfl
    · show sxWP sc cl Q 194 (16, [some (.ref 59), some (.int v1), some (.int s.1)], [], (cW nw kp im ol sn sr tp (mW mk mg (s.2.1, mt.2.1, s.2.2) mc T)), 0, 0)
      obtain ⟨q3, hq3, hf⟩ := bnd hf
      refine stp hm 2 (M_here_ok hE hq3 ?_)
      show sxWP sc cl Q 194 (20, [some (.ref 59), some (.int v1), some (.int s.1)], [.int q3], (cW nw kp im ol sn sr tp (mW mk mg (s.2.1, mt.2.1, s.2.2) mc T)), 0, 0)
      obtain ⟨q4, hq4, hf⟩ := bnd hf
      refine stp hm 1 (M_wayOf_ok hE hq4 ?_)
      show sxWP sc cl Q 194 (23, [some (.ref 59), some (.int v1), some (.int s.1)], [.int q4], (cW nw kp im ol sn sr tp (mW mk mg (s.2.1, mt.2.1, s.2.2) mc T)), 0, 0)
      refine stp hm 2 (br hf (fun c5 hf => ?_) (fun c5 hf => ?_))
      · show sxWP sc cl Q 194 (61, [some (.ref 59), some (.int v1), some (.int s.1)], [], (cW nw kp im ol sn sr tp (mW mk mg (s.2.1, mt.2.1, s.2.2) mc T)), 0, 0)
        obtain rfl := Option.some.inj hf
        exact hB _ rfl
      · show sxWP sc cl Q 194 (27, [some (.ref 59), some (.int v1), some (.int s.1)], [], (cW nw kp im ol sn sr tp (mW mk mg (s.2.1, mt.2.1, s.2.2) mc T)), 0, 0)
        obtain ⟨q6, hq6, hf⟩ := bnd hf
        refine stp hm 9 (M_here_ok hE hq6 ?_)
        show sxWP sc cl Q 194 (41, [some (.ref 59), some (.int v1), some (.int s.1)], [.int q6, .int ((v1 + (6:Int32)) + s.1), .ref 77], (cW nw kp im ol sn sr tp (mW mk mg (s.2.1, mt.2.1, s.2.2) mc T)), 0, 0)
        obtain ⟨q7, hq7, hf⟩ := bnd hf
        refine stp hm 1 (M_wayOf_ok hE hq7 ?_)
        show sxWP sc cl Q 194 (44, [some (.ref 59), some (.int v1), some (.int s.1)], [.int q7, .int ((v1 + (6:Int32)) + s.1), .ref 77], (cW nw kp im ol sn sr tp (mW mk mg (s.2.1, mt.2.1, s.2.2) mc T)), 0, 0)
        obtain ⟨g8, hf⟩ := grd_e hf
        refine stp hm 1 (And.intro (gi_in g8) (?_ : sxWP sc cl Q 194 (45, [some (.ref 59), some (.int v1), some (.int s.1)], [], (cW nw kp im ol sn sr tp (mW mk mg (s.2.1, mt.2.1, upd s.2.2 ((v1 + (6:Int32)) + s.1).toNatClampNeg q7) mc T)), 0, 0)))
        obtain rfl := Option.some.inj hf
        refine stp hm 8 (?_ : sxWP sc cl Q 194 (2, [some (.ref 59), some (.int v1), some (.int (s.1 + (1:Int32)))], [], (cW nw kp im ol sn sr tp (mW mk mg (s.2.1 + (1:Int32), mt.2.1, upd s.2.2 ((v1 + (6:Int32)) + s.1).toNatClampNeg q7) mc T)), 0, 0))
        exact hA _ rfl
set_option maxRecDepth 10000 in
theorem M_ways_ok {v1 : Int32} {q : (Int32 × Int32 × (Nat → Int32))} (hc : call = sxE sc (d + 6)) (hf : M_ways v1 mk.2.2.2.2.2.2.1 mt.1 mt.2.1 mk.2.2.2.2.2.1 mt.2.2 = some q) (h : Q none (cW nw kp im ol sn sr tp (mW mk mg (q.1, q.2.1, q.2.2) mc T))) : call 194 [.ref 59, .int v1] (cW nw kp im ol sn sr tp (mW mk mg mt mc T)) Q := by
  refine ent hc rfl (fun cl hE hm => ?_)
  have J69 : ∀ (v1 : Int32) (v2 : Int32) (tat_j : Int32) (tfa_j : Int32) (tto_j : (Nat → Int32)), M_ways_j69 v1 v2 tat_j tfa_j tto_j = some q → sxWP sc cl Q 194 (69, [some (.ref 59), some (.int v1), some (.int v2)], [], (cW nw kp im ol sn sr tp (mW mk mg (tat_j, tfa_j, tto_j) mc T)), 0, 0) := by
    intro v1 v2 tat_j tfa_j tto_j hf
    unfold M_ways_j69 at hf
    obtain ⟨g1, hf⟩ := grd_e hf
    refine stp hm 7 (And.intro (gi_in g1) (?_ : sxWP sc cl Q 194 (78, [some (.ref 59), some (.int v1), some (.int v2)], [], (cW nw kp im ol sn sr tp (mW mk mg (tat_j, tfa_j, upd tto_j (v1 + (5:Int32)).toNatClampNeg v2) mc T)), 0, 0)))
    obtain rfl := Option.some.inj hf
    refine stp hm 1 ?_
    exact h
  unfold M_ways at hf
  obtain ⟨w2, hw2, hf⟩ := bnd hf
  refine stp hm 2 (?_ : sxWP sc cl Q 194 (2, [some (.ref 59), some (.int v1), some (.int (0:Int32))], [], (cW nw kp im ol sn sr tp (mW mk mg mt mc T)), 0, 0))
  refine M_ways_l2 hE hm _ _ _ hw2 ?_
  show sxWP sc cl Q 194 (61, [some (.ref 59), some (.int v1), some (.int w2.1)], [], (cW nw kp im ol sn sr tp (mW mk mg (w2.2.1, mt.2.1, w2.2.2) mc T)), 0, 0)
  refine stp hm 2 (brn hf (fun c3 hf => ?_) (fun c3 hf => ?_))
  · show sxWP sc cl Q 194 (69, [some (.ref 59), some (.int v1), some (.int w2.1)], [], (cW nw kp im ol sn sr tp (mW mk mg (w2.2.1, mt.2.1, w2.2.2) mc T)), 0, 0)
    exact J69 _ _ _ _ _ hf
  · show sxWP sc cl Q 194 (65, [some (.ref 59), some (.int v1), some (.int w2.1)], [], (cW nw kp im ol sn sr tp (mW mk mg (w2.2.1, mt.2.1, w2.2.2) mc T)), 0, 0)
    obtain ⟨q4, hq4, hf⟩ := bnd hf
    refine stp hm 2 (M_fails_ok hE hq4 ?_)
    show sxWP sc cl Q 194 (69, [some (.ref 59), some (.int v1), some (.int w2.1)], [], (cW nw kp im ol sn sr tp (mW mk mg (w2.2.1, q4, w2.2.2) mc T)), 0, 0)
    exact J69 _ _ _ _ _ hf

def M_clauses_s53  (v3 : Int32) (msz : Int32) (mtx : (Nat → Int32)) (s : (Int32 × Int32 × Int32 × (Nat → Int32))) : Option ((Int32 × Int32 × Int32 × (Nat → Int32)) ⊕ (Int32 × Int32 × (Nat → Int32))) := grd (gi v3 312) (if (M_wants (s.2.2.2 v3.toNatClampNeg)) ≤ s.1 then (some (Sum.inr (s.2.1, s.2.2.1, s.2.2.2))) else (Option.bind (M_digit msz s.2.1 s.2.2.1 mtx) (fun q3 => grd (gi ((v3 + (1:Int32)) + s.1) 312) (some (Sum.inl (s.1 + (1:Int32), q3.2.1, q3.2.2, upd s.2.2.2 ((v3 + (1:Int32)) + s.1).toNatClampNeg q3.1))))))
def M_clauses_j135  (v1 : Int32) (k0 : Int32) (tat_j : Int32) (tfa_j : Int32) (tto_j : (Nat → Int32)) : Option ((Int32 × Int32 × Int32 × Int32 × (Nat → Int32)) ⊕ (Int32 × Int32 × Int32 × (Nat → Int32))) := some (Sum.inl (v1, k0, tat_j + (if k0 = (0:Int32) then (0:Int32) else (1:Int32)), tfa_j, tto_j))
def M_clauses_j134  (v1 : Int32) (tat_j : Int32) (tfa_j : Int32) (tto_j : (Nat → Int32)) : Option ((Int32 × Int32 × Int32 × Int32 × (Nat → Int32)) ⊕ (Int32 × Int32 × Int32 × (Nat → Int32))) := M_clauses_j135 v1 (0:Int32) tat_j tfa_j tto_j
def M_clauses_j104  (v1 : Int32) (tat_j : Int32) (tfa_j : Int32) (tto_j : (Nat → Int32)) (msz : Int32) (mtx : (Nat → Int32)) : Option ((Int32 × Int32 × Int32 × Int32 × (Nat → Int32)) ⊕ (Int32 × Int32 × Int32 × (Nat → Int32))) := if tfa_j = (-1:Int32) then (Option.bind (M_here msz tat_j mtx) (fun q4 => some (Sum.inl (v1 + (1:Int32), if q4 = (59:Int32) then (if (12:Int32) ≤ (v1 + (1:Int32)) then (0:Int32) else (1:Int32)) else (0:Int32), tat_j + (if (if q4 = (59:Int32) then (if (12:Int32) ≤ (v1 + (1:Int32)) then (0:Int32) else (1:Int32)) else (0:Int32)) = (0:Int32) then (0:Int32) else (1:Int32)), tfa_j, tto_j)))) else (M_clauses_j134 (v1 + (1:Int32)) tat_j tfa_j tto_j)
def M_clauses_j50  (v1 : Int32) (v3 : Int32) (tat_j : Int32) (tfa_j : Int32) (tto_j : (Nat → Int32)) (msz : Int32) (mtx : (Nat → Int32)) : Option ((Int32 × Int32 × Int32 × Int32 × (Nat → Int32)) ⊕ (Int32 × Int32 × Int32 × (Nat → Int32))) := Option.bind (wh (M_clauses_s53 v3 msz mtx) FU ((0:Int32), tat_j, tfa_j, tto_j)) (fun w10 => grd (gi v3 312) (if (w10.2.2 v3.toNatClampNeg) = (119:Int32) then (Option.bind (M_ways v3 msz w10.1 w10.2.1 mtx w10.2.2) (fun q13 => M_clauses_j104 v1 q13.1 q13.2.1 q13.2.2 msz mtx)) else (M_clauses_j104 v1 w10.1 w10.2.1 w10.2.2 msz mtx)))
def M_clauses_s4   (msz : Int32) (mtx : (Nat → Int32)) (s : (Int32 × Int32 × Int32 × Int32 × (Nat → Int32))) : Option ((Int32 × Int32 × Int32 × Int32 × (Nat → Int32)) ⊕ (Int32 × Int32 × Int32 × (Nat → Int32))) := if s.2.1 = (0:Int32) then (some (Sum.inr (s.1, s.2.2.1, s.2.2.2.1, s.2.2.2.2))) else (Option.bind (M_here msz s.2.2.1 mtx) (fun q15 => grd (gi ((26:Int32) * s.1) 312) (Option.bind (M_here msz s.2.2.1 mtx) (fun q17 => if (M_isLetter q17) = (0:Int32) then (Option.bind (M_fails s.2.2.1 s.2.2.2.1) (fun q19 => M_clauses_j50 s.1 ((26:Int32) * s.1) s.2.2.1 q19 (upd s.2.2.2.2 ((26:Int32) * s.1).toNatClampNeg q15) msz mtx)) else (M_clauses_j50 s.1 ((26:Int32) * s.1) (s.2.2.1 + (1:Int32)) s.2.2.2.1 (upd s.2.2.2.2 ((26:Int32) * s.1).toNatClampNeg q15) msz mtx)))))
def M_clauses_j172  (v1 : Int32) (tat_j : Int32) (tfa_j : Int32) (tto_j : (Nat → Int32)) : Option (Int32 × Int32 × Int32 × (Nat → Int32)) := some (v1, tat_j, tfa_j, tto_j)
def M_clauses  (msz : Int32) (tat : Int32) (tfa : Int32) (mtx : (Nat → Int32)) (tto : (Nat → Int32)) : Option (Int32 × Int32 × Int32 × (Nat → Int32)) := Option.bind (wh (M_clauses_s4 msz mtx) FU ((0:Int32), (1:Int32), tat, tfa, tto)) (fun w1 => if msz ≤ w1.2.1 then (M_clauses_j172 w1.1 w1.2.1 w1.2.2.1 w1.2.2.2) else (Option.bind (M_fails w1.2.1 w1.2.2.1) (fun q3 => M_clauses_j172 w1.1 w1.2.1 q3 w1.2.2.2)))
set_option maxRecDepth 10000 in
theorem M_clauses_l53 {v1 : Int32} {v3 : Int32}   (hE : cl = sxE sc (d + 6)) (hm : CallMono cl) : ∀ (n : Nat) (s : (Int32 × Int32 × Int32 × (Nat → Int32))) (r : (Int32 × Int32 × (Nat → Int32))), wh (M_clauses_s53 v3 mk.2.2.2.2.2.2.1 mk.2.2.2.2.2.1) n s = some r → (∀ (z2 z4 : Option Value), sxWP sc cl Q 195 (88, [some (.ref 59), some (.int v1), z2, some (.int v3), z4], [], (cW nw kp im ol sn sr tp (mW mk mg (r.1, r.2.1, r.2.2) mc T)), 0, 0)) → ∀ (z2 : Option Value), sxWP sc cl Q 195 (53, [some (.ref 59), some (.int v1), z2, some (.int v3), some (.int s.1)], [], (cW nw kp im ol sn sr tp (mW mk mg (s.2.1, s.2.2.1, s.2.2.2) mc T)), 0, 0) := by
  refine wh_run (A := fun (s : (Int32 × Int32 × Int32 × (Nat → Int32))) => ∀ (z2 : Option Value), sxWP sc cl Q 195 (53, [some (.ref 59), some (.int v1), z2, some (.int v3), some (.int s.1)], [], (cW nw kp im ol sn sr tp (mW mk mg (s.2.1, s.2.2.1, s.2.2.2) mc T)), 0, 0)) (B := fun (r : (Int32 × Int32 × (Nat → Int32))) => ∀ (z2 z4 : Option Value), sxWP sc cl Q 195 (88, [some (.ref 59), some (.int v1), z2, some (.int v3), z4], [], (cW nw kp im ol sn sr tp (mW mk mg (r.1, r.2.1, r.2.2) mc T)), 0, 0)) (fun s x hf hA hB => ?_)
  intro z2
  unfold M_clauses_s53 at hf
  obtain ⟨g1, hf⟩ := grd_e hf
  refine stp hm 5 (And.intro (gi_in g1) (?_ : sxWP sc cl Q 195 (61, [some (.ref 59), some (.int v1), z2, some (.int v3), some (.int s.1)], [.int (s.2.2.2 v3.toNatClampNeg), .int s.1], (cW nw kp im ol sn sr tp (mW mk mg (s.2.1, s.2.2.1, s.2.2.2) mc T)), 0, 0)))
  refine stp hm 1 (M_wants_ok hE rfl ?_)
  show sxWP sc cl Q 195 (64, [some (.ref 59), some (.int v1), z2, some (.int v3), some (.int s.1)], [.int (M_wants (s.2.2.2 v3.toNatClampNeg)), .int s.1], (cW nw kp im ol sn sr tp (mW mk mg (s.2.1, s.2.2.1, s.2.2.2) mc T)), 0, 0)
  refine stp hm 1 (br hf (fun c2 hf => ?_) (fun c2 hf => ?_))
  · show sxWP sc cl Q 195 (88, [some (.ref 59), some (.int v1), z2, some (.int v3), some (.int s.1)], [], (cW nw kp im ol sn sr tp (mW mk mg (s.2.1, s.2.2.1, s.2.2.2) mc T)), 0, 0)
    obtain rfl := Option.some.inj hf
    exact hB _ rfl _ _
  · show sxWP sc cl Q 195 (67, [some (.ref 59), some (.int v1), z2, some (.int v3), some (.int s.1)], [], (cW nw kp im ol sn sr tp (mW mk mg (s.2.1, s.2.2.1, s.2.2.2) mc T)), 0, 0)
    obtain ⟨q3, hq3, hf⟩ := bnd hf
    refine stp hm 9 (M_digit_ok hE hq3 ?_)
    show sxWP sc cl Q 195 (81, [some (.ref 59), some (.int v1), z2, some (.int v3), some (.int s.1)], [.int q3.1, .int ((v3 + (1:Int32)) + s.1), .ref 77], (cW nw kp im ol sn sr tp (mW mk mg (q3.2.1, q3.2.2, s.2.2.2) mc T)), 0, 0)
    obtain ⟨g4, hf⟩ := grd_e hf
    refine stp hm 1 (And.intro (gi_in g4) (?_ : sxWP sc cl Q 195 (82, [some (.ref 59), some (.int v1), z2, some (.int v3), some (.int s.1)], [], (cW nw kp im ol sn sr tp (mW mk mg (q3.2.1, q3.2.2, upd s.2.2.2 ((v3 + (1:Int32)) + s.1).toNatClampNeg q3.1) mc T)), 0, 0)))
    obtain rfl := Option.some.inj hf
    refine stp hm 2 (?_ : sxWP sc cl Q 195 (53, [some (.ref 59), some (.int v1), z2, some (.int v3), some (.int (s.1 + (1:Int32)))], [], (cW nw kp im ol sn sr tp (mW mk mg (q3.2.1, q3.2.2, upd s.2.2.2 ((v3 + (1:Int32)) + s.1).toNatClampNeg q3.1) mc T)), 0, 0))
    exact hA _ rfl _
set_option maxRecDepth 10000 in
theorem M_clauses_l4    (hE : cl = sxE sc (d + 6)) (hm : CallMono cl) : ∀ (n : Nat) (s : (Int32 × Int32 × Int32 × Int32 × (Nat → Int32))) (r : (Int32 × Int32 × Int32 × (Nat → Int32))), wh (M_clauses_s4 mk.2.2.2.2.2.2.1 mk.2.2.2.2.2.1) n s = some r → (∀ (z2 z3 z4 : Option Value), sxWP sc cl Q 195 (157, [some (.ref 59), some (.int r.1), z2, z3, z4], [], (cW nw kp im ol sn sr tp (mW mk mg (r.2.1, r.2.2.1, r.2.2.2) mc T)), 0, 0)) → ∀ (z3 z4 : Option Value), sxWP sc cl Q 195 (4, [some (.ref 59), some (.int s.1), some (.int s.2.1), z3, z4], [], (cW nw kp im ol sn sr tp (mW mk mg (s.2.2.1, s.2.2.2.1, s.2.2.2.2) mc T)), 0, 0) := by
  refine wh_run (A := fun (s : (Int32 × Int32 × Int32 × Int32 × (Nat → Int32))) => ∀ (z3 z4 : Option Value), sxWP sc cl Q 195 (4, [some (.ref 59), some (.int s.1), some (.int s.2.1), z3, z4], [], (cW nw kp im ol sn sr tp (mW mk mg (s.2.2.1, s.2.2.2.1, s.2.2.2.2) mc T)), 0, 0)) (B := fun (r : (Int32 × Int32 × Int32 × (Nat → Int32))) => ∀ (z2 z3 z4 : Option Value), sxWP sc cl Q 195 (157, [some (.ref 59), some (.int r.1), z2, z3, z4], [], (cW nw kp im ol sn sr tp (mW mk mg (r.2.1, r.2.2.1, r.2.2.2) mc T)), 0, 0)) (fun s x hf hA hB => ?_)
  intro z3 z4
  have J135 : ∀ (v1 : Int32) (k0 : Int32) (tat_j : Int32) (tfa_j : Int32) (tto_j : (Nat → Int32)) (z2 : Option Value) (z3 : Option Value) (z4 : Option Value), M_clauses_j135 v1 k0 tat_j tfa_j tto_j = some x → sxWP sc cl Q 195 (135, [some (.ref 59), some (.int v1), z2, z3, z4], [.int k0], (cW nw kp im ol sn sr tp (mW mk mg (tat_j, tfa_j, tto_j) mc T)), 0, 0) := by
    intro v1 k0 tat_j tfa_j tto_j z2 z3 z4 hf
    unfold M_clauses_j135 at hf
    have m1 : ∀ (m1_0 : Int32), m1_0 = (if k0 = (0:Int32) then (0:Int32) else (1:Int32)) → sxWP sc cl Q 195 (150, [some (.ref 59), some (.int v1), some (.int k0), z3, z4], [.int m1_0, .int tat_j, .ref 59], (cW nw kp im ol sn sr tp (mW mk mg (tat_j, tfa_j, tto_j) mc T)), 0, 0) := by
      intro m1_0 em1_0
      subst em1_0
      obtain rfl := Option.some.inj hf
      refine stp hm 3 (?_ : sxWP sc cl Q 195 (4, [some (.ref 59), some (.int v1), some (.int k0), z3, z4], [], (cW nw kp im ol sn sr tp (mW mk mg (tat_j + (if k0 = (0:Int32) then (0:Int32) else (1:Int32)), tfa_j, tto_j) mc T)), 0, 0))
      exact hA _ rfl _ _
    refine stp hm 6 (bs (c := k0 = (0:Int32)) (fun c2 => ?_) (fun c2 => ?_))
    · have c2 : k0 = (0:Int32) := c2
      refine stp hm 1 (?_ : sxWP sc cl Q 195 (150, [some (.ref 59), some (.int v1), some (.int k0), z3, z4], [.int (0:Int32), .int tat_j, .ref 59], (cW nw kp im ol sn sr tp (mW mk mg (tat_j, tfa_j, tto_j) mc T)), 0, 0))
      exact m1 _ (by rw [if_pos c2])
    · have c2 : ¬ k0 = (0:Int32) := c2
      refine stp hm 2 (?_ : sxWP sc cl Q 195 (150, [some (.ref 59), some (.int v1), some (.int k0), z3, z4], [.int (1:Int32), .int tat_j, .ref 59], (cW nw kp im ol sn sr tp (mW mk mg (tat_j, tfa_j, tto_j) mc T)), 0, 0))
      exact m1 _ (by rw [if_neg c2])
  have J134 : ∀ (v1 : Int32) (tat_j : Int32) (tfa_j : Int32) (tto_j : (Nat → Int32)) (z2 : Option Value) (z3 : Option Value) (z4 : Option Value), M_clauses_j134 v1 tat_j tfa_j tto_j = some x → sxWP sc cl Q 195 (134, [some (.ref 59), some (.int v1), z2, z3, z4], [], (cW nw kp im ol sn sr tp (mW mk mg (tat_j, tfa_j, tto_j) mc T)), 0, 0) := by
    intro v1 tat_j tfa_j tto_j z2 z3 z4 hf
    unfold M_clauses_j134 at hf
    refine stp hm 1 (?_ : sxWP sc cl Q 195 (135, [some (.ref 59), some (.int v1), z2, z3, z4], [.int (0:Int32)], (cW nw kp im ol sn sr tp (mW mk mg (tat_j, tfa_j, tto_j) mc T)), 0, 0))
    exact J135 _ _ _ _ _ _ _ _ hf
  have J104 : ∀ (v1 : Int32) (tat_j : Int32) (tfa_j : Int32) (tto_j : (Nat → Int32)) (z2 : Option Value) (z3 : Option Value) (z4 : Option Value), M_clauses_j104 v1 tat_j tfa_j tto_j mk.2.2.2.2.2.2.1 mk.2.2.2.2.2.1 = some x → sxWP sc cl Q 195 (104, [some (.ref 59), some (.int v1), z2, z3, z4], [], (cW nw kp im ol sn sr tp (mW mk mg (tat_j, tfa_j, tto_j) mc T)), 0, 0) := by
    intro v1 tat_j tfa_j tto_j z2 z3 z4 hf
    unfold M_clauses_j104 at hf
    refine stp hm 5 (brn hf (fun c3 hf => ?_) (fun c3 hf => ?_))
    · show sxWP sc cl Q 195 (134, [some (.ref 59), some (.int (v1 + (1:Int32))), z2, z3, z4], [], (cW nw kp im ol sn sr tp (mW mk mg (tat_j, tfa_j, tto_j) mc T)), 0, 0)
      exact J134 _ _ _ _ _ _ _ hf
    · show sxWP sc cl Q 195 (115, [some (.ref 59), some (.int (v1 + (1:Int32))), z2, z3, z4], [], (cW nw kp im ol sn sr tp (mW mk mg (tat_j, tfa_j, tto_j) mc T)), 0, 0)
      obtain ⟨q4, hq4, hf⟩ := bnd hf
      refine stp hm 2 (M_here_ok hE hq4 ?_)
      show sxWP sc cl Q 195 (119, [some (.ref 59), some (.int (v1 + (1:Int32))), z2, z3, z4], [.int q4], (cW nw kp im ol sn sr tp (mW mk mg (tat_j, tfa_j, tto_j) mc T)), 0, 0)
      have m5 : ∀ (m5_0 : Int32), m5_0 = (if q4 = (59:Int32) then (if (12:Int32) ≤ (v1 + (1:Int32)) then (0:Int32) else (1:Int32)) else (0:Int32)) → sxWP sc cl Q 195 (135, [some (.ref 59), some (.int (v1 + (1:Int32))), z2, z3, z4], [.int m5_0], (cW nw kp im ol sn sr tp (mW mk mg (tat_j, tfa_j, tto_j) mc T)), 0, 0) := by
        intro m5_0 em5_0
        subst em5_0
        have m6 : ∀ (m6_0 : Int32), m6_0 = (if (if q4 = (59:Int32) then (if (12:Int32) ≤ (v1 + (1:Int32)) then (0:Int32) else (1:Int32)) else (0:Int32)) = (0:Int32) then (0:Int32) else (1:Int32)) → sxWP sc cl Q 195 (150, [some (.ref 59), some (.int (v1 + (1:Int32))), some (.int (if q4 = (59:Int32) then (if (12:Int32) ≤ (v1 + (1:Int32)) then (0:Int32) else (1:Int32)) else (0:Int32))), z3, z4], [.int m6_0, .int tat_j, .ref 59], (cW nw kp im ol sn sr tp (mW mk mg (tat_j, tfa_j, tto_j) mc T)), 0, 0) := by
          intro m6_0 em6_0
          subst em6_0
          obtain rfl := Option.some.inj hf
          refine stp hm 3 (?_ : sxWP sc cl Q 195 (4, [some (.ref 59), some (.int (v1 + (1:Int32))), some (.int (if q4 = (59:Int32) then (if (12:Int32) ≤ (v1 + (1:Int32)) then (0:Int32) else (1:Int32)) else (0:Int32))), z3, z4], [], (cW nw kp im ol sn sr tp (mW mk mg (tat_j + (if (if q4 = (59:Int32) then (if (12:Int32) ≤ (v1 + (1:Int32)) then (0:Int32) else (1:Int32)) else (0:Int32)) = (0:Int32) then (0:Int32) else (1:Int32)), tfa_j, tto_j) mc T)), 0, 0))
          exact hA _ rfl _ _
        refine stp hm 6 (bs (c := (if q4 = (59:Int32) then (if (12:Int32) ≤ (v1 + (1:Int32)) then (0:Int32) else (1:Int32)) else (0:Int32)) = (0:Int32)) (fun c7 => ?_) (fun c7 => ?_))
        · have c7 : (if q4 = (59:Int32) then (if (12:Int32) ≤ (v1 + (1:Int32)) then (0:Int32) else (1:Int32)) else (0:Int32)) = (0:Int32) := c7
          refine stp hm 1 (?_ : sxWP sc cl Q 195 (150, [some (.ref 59), some (.int (v1 + (1:Int32))), some (.int (if q4 = (59:Int32) then (if (12:Int32) ≤ (v1 + (1:Int32)) then (0:Int32) else (1:Int32)) else (0:Int32))), z3, z4], [.int (0:Int32), .int tat_j, .ref 59], (cW nw kp im ol sn sr tp (mW mk mg (tat_j, tfa_j, tto_j) mc T)), 0, 0))
          exact m6 _ (by rw [if_pos c7])
        · have c7 : ¬ (if q4 = (59:Int32) then (if (12:Int32) ≤ (v1 + (1:Int32)) then (0:Int32) else (1:Int32)) else (0:Int32)) = (0:Int32) := c7
          refine stp hm 2 (?_ : sxWP sc cl Q 195 (150, [some (.ref 59), some (.int (v1 + (1:Int32))), some (.int (if q4 = (59:Int32) then (if (12:Int32) ≤ (v1 + (1:Int32)) then (0:Int32) else (1:Int32)) else (0:Int32))), z3, z4], [.int (1:Int32), .int tat_j, .ref 59], (cW nw kp im ol sn sr tp (mW mk mg (tat_j, tfa_j, tto_j) mc T)), 0, 0))
          exact m6 _ (by rw [if_neg c7])
      refine stp hm 2 (bsn (c := q4 = (59:Int32)) (fun c8 => ?_) (fun c8 => ?_))
      · have c8 : ¬ q4 = (59:Int32) := c8
        refine stp hm 1 (?_ : sxWP sc cl Q 195 (135, [some (.ref 59), some (.int (v1 + (1:Int32))), z2, z3, z4], [.int (0:Int32)], (cW nw kp im ol sn sr tp (mW mk mg (tat_j, tfa_j, tto_j) mc T)), 0, 0))
        exact m5 _ (by rw [if_neg c8])
      · have c8 : q4 = (59:Int32) := c8
        refine stp hm 3 (bs (c := (12:Int32) ≤ (v1 + (1:Int32))) (fun c9 => ?_) (fun c9 => ?_))
        · have c9 : (12:Int32) ≤ (v1 + (1:Int32)) := c9
          refine stp hm 1 (?_ : sxWP sc cl Q 195 (135, [some (.ref 59), some (.int (v1 + (1:Int32))), z2, z3, z4], [.int (0:Int32)], (cW nw kp im ol sn sr tp (mW mk mg (tat_j, tfa_j, tto_j) mc T)), 0, 0))
          exact m5 _ (by rw [if_pos c8, if_pos c9])
        · have c9 : ¬ (12:Int32) ≤ (v1 + (1:Int32)) := c9
          refine stp hm 2 (?_ : sxWP sc cl Q 195 (135, [some (.ref 59), some (.int (v1 + (1:Int32))), z2, z3, z4], [.int (1:Int32)], (cW nw kp im ol sn sr tp (mW mk mg (tat_j, tfa_j, tto_j) mc T)), 0, 0))
          exact m5 _ (by rw [if_pos c8, if_neg c9])
  have J50 : ∀ (v1 : Int32) (v3 : Int32) (tat_j : Int32) (tfa_j : Int32) (tto_j : (Nat → Int32)) (z2 : Option Value) (z4 : Option Value), M_clauses_j50 v1 v3 tat_j tfa_j tto_j mk.2.2.2.2.2.2.1 mk.2.2.2.2.2.1 = some x → sxWP sc cl Q 195 (50, [some (.ref 59), some (.int v1), z2, some (.int v3), z4], [], (cW nw kp im ol sn sr tp (mW mk mg (tat_j, tfa_j, tto_j) mc T)), 0, 0) := by
    intro v1 v3 tat_j tfa_j tto_j z2 z4 hf
    unfold M_clauses_j50 at hf
    obtain ⟨w10, hw10, hf⟩ := bnd hf
    refine stp hm 2 (?_ : sxWP sc cl Q 195 (53, [some (.ref 59), some (.int v1), z2, some (.int v3), some (.int (0:Int32))], [], (cW nw kp im ol sn sr tp (mW mk mg (tat_j, tfa_j, tto_j) mc T)), 0, 0))
    refine M_clauses_l53 hE hm _ _ _ hw10 ?_ _
    intro w10_z2 w10_z4
    show sxWP sc cl Q 195 (88, [some (.ref 59), some (.int v1), w10_z2, some (.int v3), w10_z4], [], (cW nw kp im ol sn sr tp (mW mk mg (w10.1, w10.2.1, w10.2.2) mc T)), 0, 0)
    obtain ⟨g11, hf⟩ := grd_e hf
    refine stp hm 4 (And.intro (gi_in g11) (?_ : sxWP sc cl Q 195 (94, [some (.ref 59), some (.int v1), w10_z2, some (.int v3), w10_z4], [.int (w10.2.2 v3.toNatClampNeg)], (cW nw kp im ol sn sr tp (mW mk mg (w10.1, w10.2.1, w10.2.2) mc T)), 0, 0)))
    refine stp hm 2 (brn hf (fun c12 hf => ?_) (fun c12 hf => ?_))
    · show sxWP sc cl Q 195 (104, [some (.ref 59), some (.int v1), w10_z2, some (.int v3), w10_z4], [], (cW nw kp im ol sn sr tp (mW mk mg (w10.1, w10.2.1, w10.2.2) mc T)), 0, 0)
      exact J104 _ _ _ _ _ _ _ hf
    · show sxWP sc cl Q 195 (99, [some (.ref 59), some (.int v1), w10_z2, some (.int v3), w10_z4], [], (cW nw kp im ol sn sr tp (mW mk mg (w10.1, w10.2.1, w10.2.2) mc T)), 0, 0)
      obtain ⟨q13, hq13, hf⟩ := bnd hf
      refine stp hm 3 (M_ways_ok hE hq13 ?_)
      show sxWP sc cl Q 195 (104, [some (.ref 59), some (.int v1), w10_z2, some (.int v3), w10_z4], [], (cW nw kp im ol sn sr tp (mW mk mg (q13.1, q13.2.1, q13.2.2) mc T)), 0, 0)
      exact J104 _ _ _ _ _ _ _ hf
  unfold M_clauses_s4 at hf
  refine stp hm 2 (br hf (fun c14 hf => ?_) (fun c14 hf => ?_))
  · show sxWP sc cl Q 195 (157, [some (.ref 59), some (.int s.1), some (.int s.2.1), z3, z4], [], (cW nw kp im ol sn sr tp (mW mk mg (s.2.2.1, s.2.2.2.1, s.2.2.2.2) mc T)), 0, 0)
    obtain rfl := Option.some.inj hf
    exact hB _ rfl _ _ _
  · show sxWP sc cl Q 195 (8, [some (.ref 59), some (.int s.1), some (.int s.2.1), z3, z4], [], (cW nw kp im ol sn sr tp (mW mk mg (s.2.2.1, s.2.2.2.1, s.2.2.2.2) mc T)), 0, 0)
    obtain ⟨q15, hq15, hf⟩ := bnd hf
    refine stp hm 9 (M_here_ok hE hq15 ?_)
    show sxWP sc cl Q 195 (22, [some (.ref 59), some (.int s.1), some (.int s.2.1), some (.int ((26:Int32) * s.1)), z4], [.int q15, .int ((26:Int32) * s.1), .ref 77], (cW nw kp im ol sn sr tp (mW mk mg (s.2.2.1, s.2.2.2.1, s.2.2.2.2) mc T)), 0, 0)
    obtain ⟨g16, hf⟩ := grd_e hf
    refine stp hm 1 (And.intro (gi_in g16) (?_ : sxWP sc cl Q 195 (23, [some (.ref 59), some (.int s.1), some (.int s.2.1), some (.int ((26:Int32) * s.1)), z4], [], (cW nw kp im ol sn sr tp (mW mk mg (s.2.2.1, s.2.2.2.1, upd s.2.2.2.2 ((26:Int32) * s.1).toNatClampNeg q15) mc T)), 0, 0)))
    obtain ⟨q17, hq17, hf⟩ := bnd hf
    refine stp hm 2 (M_here_ok hE hq17 ?_)
    show sxWP sc cl Q 195 (27, [some (.ref 59), some (.int s.1), some (.int s.2.1), some (.int ((26:Int32) * s.1)), z4], [.int q17], (cW nw kp im ol sn sr tp (mW mk mg (s.2.2.1, s.2.2.2.1, upd s.2.2.2.2 ((26:Int32) * s.1).toNatClampNeg q15) mc T)), 0, 0)
    refine stp hm 1 (M_isLetter_ok hE rfl ?_)
    show sxWP sc cl Q 195 (30, [some (.ref 59), some (.int s.1), some (.int s.2.1), some (.int ((26:Int32) * s.1)), z4], [.int (M_isLetter q17)], (cW nw kp im ol sn sr tp (mW mk mg (s.2.2.1, s.2.2.2.1, upd s.2.2.2.2 ((26:Int32) * s.1).toNatClampNeg q15) mc T)), 0, 0)
    refine stp hm 1 (br hf (fun c18 hf => ?_) (fun c18 hf => ?_))
    · show sxWP sc cl Q 195 (46, [some (.ref 59), some (.int s.1), some (.int s.2.1), some (.int ((26:Int32) * s.1)), z4], [], (cW nw kp im ol sn sr tp (mW mk mg (s.2.2.1, s.2.2.2.1, upd s.2.2.2.2 ((26:Int32) * s.1).toNatClampNeg q15) mc T)), 0, 0)
      obtain ⟨q19, hq19, hf⟩ := bnd hf
      refine stp hm 2 (M_fails_ok hE hq19 ?_)
      show sxWP sc cl Q 195 (50, [some (.ref 59), some (.int s.1), some (.int s.2.1), some (.int ((26:Int32) * s.1)), z4], [], (cW nw kp im ol sn sr tp (mW mk mg (s.2.2.1, q19, upd s.2.2.2.2 ((26:Int32) * s.1).toNatClampNeg q15) mc T)), 0, 0)
      exact J50 _ _ _ _ _ _ _ hf
    · show sxWP sc cl Q 195 (33, [some (.ref 59), some (.int s.1), some (.int s.2.1), some (.int ((26:Int32) * s.1)), z4], [], (cW nw kp im ol sn sr tp (mW mk mg (s.2.2.1, s.2.2.2.1, upd s.2.2.2.2 ((26:Int32) * s.1).toNatClampNeg q15) mc T)), 0, 0)
      refine stp hm 7 (?_ : sxWP sc cl Q 195 (50, [some (.ref 59), some (.int s.1), some (.int s.2.1), some (.int ((26:Int32) * s.1)), z4], [], (cW nw kp im ol sn sr tp (mW mk mg (s.2.2.1 + (1:Int32), s.2.2.2.1, upd s.2.2.2.2 ((26:Int32) * s.1).toNatClampNeg q15) mc T)), 0, 0))
      exact J50 _ _ _ _ _ _ _ hf
set_option maxRecDepth 10000 in
theorem M_clauses_ok  {q : (Int32 × Int32 × Int32 × (Nat → Int32))} (hc : call = sxE sc (d + 7)) (hf : M_clauses mk.2.2.2.2.2.2.1 mt.1 mt.2.1 mk.2.2.2.2.2.1 mt.2.2 = some q) (h : Q (some (.int q.1)) (cW nw kp im ol sn sr tp (mW mk mg (q.2.1, q.2.2.1, q.2.2.2) mc T))) : call 195 [.ref 59] (cW nw kp im ol sn sr tp (mW mk mg mt mc T)) Q := by
  refine ent hc rfl (fun cl hE hm => ?_)
  have J172 : ∀ (v1 : Int32) (tat_j : Int32) (tfa_j : Int32) (tto_j : (Nat → Int32)) (z0 : Option Value) (z2 : Option Value) (z3 : Option Value) (z4 : Option Value), M_clauses_j172 v1 tat_j tfa_j tto_j = some q → sxWP sc cl Q 195 (172, [z0, some (.int v1), z2, z3, z4], [], (cW nw kp im ol sn sr tp (mW mk mg (tat_j, tfa_j, tto_j) mc T)), 0, 0) := by
    intro v1 tat_j tfa_j tto_j z0 z2 z3 z4 hf
    unfold M_clauses_j172 at hf
    obtain rfl := Option.some.inj hf
    refine stp hm 2 ?_
    exact h
  unfold M_clauses at hf
  obtain ⟨w1, hw1, hf⟩ := bnd hf
  refine stp hm 4 (?_ : sxWP sc cl Q 195 (4, [some (.ref 59), some (.int (0:Int32)), some (.int (1:Int32)), none, none], [], (cW nw kp im ol sn sr tp (mW mk mg mt mc T)), 0, 0))
  refine M_clauses_l4 hE hm _ _ _ hw1 ?_ _ _
  intro w1_z2 w1_z3 w1_z4
  show sxWP sc cl Q 195 (157, [some (.ref 59), some (.int w1.1), w1_z2, w1_z3, w1_z4], [], (cW nw kp im ol sn sr tp (mW mk mg (w1.2.1, w1.2.2.1, w1.2.2.2) mc T)), 0, 0)
  refine stp hm 5 (br hf (fun c2 hf => ?_) (fun c2 hf => ?_))
  · show sxWP sc cl Q 195 (172, [some (.ref 59), some (.int w1.1), w1_z2, w1_z3, w1_z4], [], (cW nw kp im ol sn sr tp (mW mk mg (w1.2.1, w1.2.2.1, w1.2.2.2) mc T)), 0, 0)
    exact J172 _ _ _ _ _ _ _ _ hf
  · show sxWP sc cl Q 195 (168, [some (.ref 59), some (.int w1.1), w1_z2, w1_z3, w1_z4], [], (cW nw kp im ol sn sr tp (mW mk mg (w1.2.1, w1.2.2.1, w1.2.2.2) mc T)), 0, 0)
    obtain ⟨q3, hq3, hf⟩ := bnd hf
    refine stp hm 2 (M_fails_ok hE hq3 ?_)
    show sxWP sc cl Q 195 (172, [some (.ref 59), some (.int w1.1), w1_z2, w1_z3, w1_z4], [], (cW nw kp im ol sn sr tp (mW mk mg (w1.2.1, q3, w1.2.2.2) mc T)), 0, 0)
    exact J172 _ _ _ _ _ _ _ _ hf

def M_walks_s51  (v1 : Int32) (tto : (Nat → Int32)) (s : (Int32 × Int32)) : Option ((Int32 × Int32) ⊕ (Unit ⊕ Unit)) := grd (gi (v1 + (5:Int32)) 312) (if (tto (v1 + (5:Int32)).toNatClampNeg) ≤ s.2 then (some (Sum.inr (Sum.inr ()))) else (grd (gi ((v1 + (6:Int32)) + s.2) 312) (if (M_onBy s.1 (tto ((v1 + (6:Int32)) + s.2).toNatClampNeg)) = (-1:Int32) then (some (Sum.inr (Sum.inl ()))) else (some (Sum.inl (M_onBy s.1 (tto ((v1 + (6:Int32)) + s.2).toNatClampNeg), s.2 + (1:Int32)))))))
def M_walks_s126  (v1 : Int32) (tto : (Nat → Int32)) (s : (Int32 × (Nat → Int32))) : Option ((Int32 × (Nat → Int32)) ⊕ (Nat → Int32)) := grd (gi (v1 + (5:Int32)) 312) (if (tto (v1 + (5:Int32)).toNatClampNeg) ≤ s.1 then (some (Sum.inr s.2)) else (grd (gi ((v1 + (6:Int32)) + s.1) 312) (grd (gi ((42:Int32) + s.1) 122) (some (Sum.inl (s.1 + (1:Int32), upd s.2 ((42:Int32) + s.1).toNatClampNeg (tto ((v1 + (6:Int32)) + s.1).toNatClampNeg)))))))
def M_walks_j38  (ms_j : (Nat → Int32)) : Option (Int32 × (Nat → Int32)) := some ((0:Int32), ms_j)
def M_walks (v1 : Int32) (ms : (Nat → Int32)) (tto : (Nat → Int32)) : Option (Int32 × (Nat → Int32)) := grd (gi (v1 + (1:Int32)) 312) (grd (gi (v1 + (2:Int32)) 312) (if (M_isIn (tto (v1 + (1:Int32)).toNatClampNeg) (0:Int32) (6:Int32)) = (0:Int32) then (M_walks_j38 ms) else (if (M_isIn (tto (v1 + (2:Int32)).toNatClampNeg) (0:Int32) (6:Int32)) = (0:Int32) then (M_walks_j38 ms) else (Option.bind (wh (M_walks_s51 v1 tto) FU (((7:Int32) * (tto (v1 + (1:Int32)).toNatClampNeg)) + (tto (v1 + (2:Int32)).toNatClampNeg), (0:Int32))) (Sum.elim (fun w5_0a => some ((0:Int32), ms)) (fun w5_0b => grd (gi (1:Int32) 122) (grd (gi (v1 + (5:Int32)) 312) (grd (gi (2:Int32) 122) (Option.bind (wh (M_walks_s126 v1 tto) FU ((0:Int32), upd (upd ms (1:Int32).toNatClampNeg (((7:Int32) * (tto (v1 + (1:Int32)).toNatClampNeg)) + (tto (v1 + (2:Int32)).toNatClampNeg))) (2:Int32).toNatClampNeg (tto (v1 + (5:Int32)).toNatClampNeg))) (fun w9 => some ((1:Int32), w9)))))))))))
set_option maxRecDepth 10000 in
theorem M_walks_l51 {v1 : Int32} {v2 : Int32} {v3 : Int32}   (hE : cl = sxE sc (d + 2)) (hm : CallMono cl) : ∀ (n : Nat) (s : (Int32 × Int32)) (r : (Unit ⊕ Unit)), wh (M_walks_s51 v1 mt.2.2) n s = some r → ((∀ p0, r = Sum.inl p0 → ∀ (z0 z1 z2 z3 z4 z5 : Option Value), sxWP sc cl Q 197 (89, [z0, z1, z2, z3, z4, z5], [], (cW nw kp im ol sn sr tp (mW mk mg mt mc T)), 0, 0)) ∧ (∀ p0, r = Sum.inr p0 → ∀ (z4 z5 : Option Value), sxWP sc cl Q 197 (97, [some (.ref 59), some (.int v1), some (.int v2), some (.int v3), z4, z5], [], (cW nw kp im ol sn sr tp (mW mk mg mt mc T)), 0, 0))) → sxWP sc cl Q 197 (51, [some (.ref 59), some (.int v1), some (.int v2), some (.int v3), some (.int s.1), some (.int s.2)], [], (cW nw kp im ol sn sr tp (mW mk mg mt mc T)), 0, 0) := by
  refine wh_run (A := fun (s : (Int32 × Int32)) => sxWP sc cl Q 197 (51, [some (.ref 59), some (.int v1), some (.int v2), some (.int v3), some (.int s.1), some (.int s.2)], [], (cW nw kp im ol sn sr tp (mW mk mg mt mc T)), 0, 0)) (B := fun (r : (Unit ⊕ Unit)) => (∀ p0, r = Sum.inl p0 → ∀ (z0 z1 z2 z3 z4 z5 : Option Value), sxWP sc cl Q 197 (89, [z0, z1, z2, z3, z4, z5], [], (cW nw kp im ol sn sr tp (mW mk mg mt mc T)), 0, 0)) ∧ (∀ p0, r = Sum.inr p0 → ∀ (z4 z5 : Option Value), sxWP sc cl Q 197 (97, [some (.ref 59), some (.int v1), some (.int v2), some (.int v3), z4, z5], [], (cW nw kp im ol sn sr tp (mW mk mg mt mc T)), 0, 0))) (fun s x hf hA hB => ?_)
  unfold M_walks_s51 at hf
  obtain ⟨g1, hf⟩ := grd_e hf
  refine stp hm 7 (And.intro (gi_in g1) (?_ : sxWP sc cl Q 197 (61, [some (.ref 59), some (.int v1), some (.int v2), some (.int v3), some (.int s.1), some (.int s.2)], [.int (mt.2.2 (v1 + (5:Int32)).toNatClampNeg), .int s.2], (cW nw kp im ol sn sr tp (mW mk mg mt mc T)), 0, 0)))
  refine stp hm 1 (br hf (fun c2 hf => ?_) (fun c2 hf => ?_))
  · show sxWP sc cl Q 197 (97, [some (.ref 59), some (.int v1), some (.int v2), some (.int v3), some (.int s.1), some (.int s.2)], [], (cW nw kp im ol sn sr tp (mW mk mg mt mc T)), 0, 0)
    obtain rfl := Option.some.inj hf
    exact (hB _ rfl).2 _ rfl _ _
  · show sxWP sc cl Q 197 (64, [some (.ref 59), some (.int v1), some (.int v2), some (.int v3), some (.int s.1), some (.int s.2)], [], (cW nw kp im ol sn sr tp (mW mk mg mt mc T)), 0, 0)
    obtain ⟨g3, hf⟩ := grd_e hf
    refine stp hm 9 (And.intro (gi_in g3) (?_ : sxWP sc cl Q 197 (78, [some (.ref 59), some (.int v1), some (.int v2), some (.int v3), some (.int s.1), some (.int s.2)], [.int (mt.2.2 ((v1 + (6:Int32)) + s.2).toNatClampNeg), .int s.1], (cW nw kp im ol sn sr tp (mW mk mg mt mc T)), 0, 0)))
    refine stp hm 1 (M_onBy_ok hE rfl ?_)
    show sxWP sc cl Q 197 (81, [some (.ref 59), some (.int v1), some (.int v2), some (.int v3), some (.int s.1), some (.int s.2)], [.int (M_onBy s.1 (mt.2.2 ((v1 + (6:Int32)) + s.2).toNatClampNeg))], (cW nw kp im ol sn sr tp (mW mk mg mt mc T)), 0, 0)
    refine stp hm 4 (brn hf (fun c4 hf => ?_) (fun c4 hf => ?_))
    · show sxWP sc cl Q 197 (91, [some (.ref 59), some (.int v1), some (.int v2), some (.int v3), some (.int (M_onBy s.1 (mt.2.2 ((v1 + (6:Int32)) + s.2).toNatClampNeg))), some (.int s.2)], [], (cW nw kp im ol sn sr tp (mW mk mg mt mc T)), 0, 0)
      obtain rfl := Option.some.inj hf
      refine stp hm 2 (?_ : sxWP sc cl Q 197 (51, [some (.ref 59), some (.int v1), some (.int v2), some (.int v3), some (.int (M_onBy s.1 (mt.2.2 ((v1 + (6:Int32)) + s.2).toNatClampNeg))), some (.int (s.2 + (1:Int32)))], [], (cW nw kp im ol sn sr tp (mW mk mg mt mc T)), 0, 0))
      exact hA _ rfl
    · show sxWP sc cl Q 197 (89, [some (.ref 59), some (.int v1), some (.int v2), some (.int v3), some (.int (M_onBy s.1 (mt.2.2 ((v1 + (6:Int32)) + s.2).toNatClampNeg))), some (.int s.2)], [], (cW nw kp im ol sn sr tp (mW mk mg mt mc T)), 0, 0)
      obtain rfl := Option.some.inj hf
      exact (hB _ rfl).1 _ rfl _ _ _ _ _ _
set_option maxRecDepth 10000 in
theorem M_walks_l126 {v1 : Int32}   (hE : cl = sxE sc (d + 2)) (hm : CallMono cl) : ∀ (n : Nat) (s : (Int32 × (Nat → Int32))) (r : (Nat → Int32)), wh (M_walks_s126 v1 mt.2.2) n s = some r → (∀ (z0 z1 z2 z3 z4 z5 : Option Value), sxWP sc cl Q 197 (167, [z0, z1, z2, z3, z4, z5], [], (cW nw kp im ol sn sr tp (mW (mk.1, mk.2.1, r, mk.2.2.2.1, mk.2.2.2.2.1, mk.2.2.2.2.2.1, mk.2.2.2.2.2.2.1, mk.2.2.2.2.2.2.2.1, mk.2.2.2.2.2.2.2.2.1, mk.2.2.2.2.2.2.2.2.2) mg mt mc T)), 0, 0)) → ∀ (z2 z3 z4 : Option Value), sxWP sc cl Q 197 (126, [some (.ref 59), some (.int v1), z2, z3, z4, some (.int s.1)], [], (cW nw kp im ol sn sr tp (mW (mk.1, mk.2.1, s.2, mk.2.2.2.1, mk.2.2.2.2.1, mk.2.2.2.2.2.1, mk.2.2.2.2.2.2.1, mk.2.2.2.2.2.2.2.1, mk.2.2.2.2.2.2.2.2.1, mk.2.2.2.2.2.2.2.2.2) mg mt mc T)), 0, 0) := by
  refine wh_run (A := fun (s : (Int32 × (Nat → Int32))) => ∀ (z2 z3 z4 : Option Value), sxWP sc cl Q 197 (126, [some (.ref 59), some (.int v1), z2, z3, z4, some (.int s.1)], [], (cW nw kp im ol sn sr tp (mW (mk.1, mk.2.1, s.2, mk.2.2.2.1, mk.2.2.2.2.1, mk.2.2.2.2.2.1, mk.2.2.2.2.2.2.1, mk.2.2.2.2.2.2.2.1, mk.2.2.2.2.2.2.2.2.1, mk.2.2.2.2.2.2.2.2.2) mg mt mc T)), 0, 0)) (B := fun (r : (Nat → Int32)) => ∀ (z0 z1 z2 z3 z4 z5 : Option Value), sxWP sc cl Q 197 (167, [z0, z1, z2, z3, z4, z5], [], (cW nw kp im ol sn sr tp (mW (mk.1, mk.2.1, r, mk.2.2.2.1, mk.2.2.2.2.1, mk.2.2.2.2.2.1, mk.2.2.2.2.2.2.1, mk.2.2.2.2.2.2.2.1, mk.2.2.2.2.2.2.2.2.1, mk.2.2.2.2.2.2.2.2.2) mg mt mc T)), 0, 0)) (fun s x hf hA hB => ?_)
  intro z2 z3 z4
  unfold M_walks_s126 at hf
  obtain ⟨g1, hf⟩ := grd_e hf
  refine stp hm 7 (And.intro (gi_in g1) (?_ : sxWP sc cl Q 197 (136, [some (.ref 59), some (.int v1), z2, z3, z4, some (.int s.1)], [.int (mt.2.2 (v1 + (5:Int32)).toNatClampNeg), .int s.1], (cW nw kp im ol sn sr tp (mW (mk.1, mk.2.1, s.2, mk.2.2.2.1, mk.2.2.2.2.1, mk.2.2.2.2.2.1, mk.2.2.2.2.2.2.1, mk.2.2.2.2.2.2.2.1, mk.2.2.2.2.2.2.2.2.1, mk.2.2.2.2.2.2.2.2.2) mg mt mc T)), 0, 0)))
  refine stp hm 1 (br hf (fun c2 hf => ?_) (fun c2 hf => ?_))
  · show sxWP sc cl Q 197 (167, [some (.ref 59), some (.int v1), z2, z3, z4, some (.int s.1)], [], (cW nw kp im ol sn sr tp (mW (mk.1, mk.2.1, s.2, mk.2.2.2.1, mk.2.2.2.2.1, mk.2.2.2.2.2.1, mk.2.2.2.2.2.2.1, mk.2.2.2.2.2.2.2.1, mk.2.2.2.2.2.2.2.2.1, mk.2.2.2.2.2.2.2.2.2) mg mt mc T)), 0, 0)
    obtain rfl := Option.some.inj hf
    exact hB _ rfl _ _ _ _ _ _
  · show sxWP sc cl Q 197 (139, [some (.ref 59), some (.int v1), z2, z3, z4, some (.int s.1)], [], (cW nw kp im ol sn sr tp (mW (mk.1, mk.2.1, s.2, mk.2.2.2.1, mk.2.2.2.2.1, mk.2.2.2.2.2.1, mk.2.2.2.2.2.2.1, mk.2.2.2.2.2.2.2.1, mk.2.2.2.2.2.2.2.2.1, mk.2.2.2.2.2.2.2.2.2) mg mt mc T)), 0, 0)
    obtain ⟨g3, hf⟩ := grd_e hf
    refine stp hm 13 (And.intro (gi_in g3) (?_ : sxWP sc cl Q 197 (160, [some (.ref 59), some (.int v1), z2, z3, z4, some (.int s.1)], [.int (mt.2.2 ((v1 + (6:Int32)) + s.1).toNatClampNeg), .int ((42:Int32) + s.1), .ref 60], (cW nw kp im ol sn sr tp (mW (mk.1, mk.2.1, s.2, mk.2.2.2.1, mk.2.2.2.2.1, mk.2.2.2.2.2.1, mk.2.2.2.2.2.2.1, mk.2.2.2.2.2.2.2.1, mk.2.2.2.2.2.2.2.2.1, mk.2.2.2.2.2.2.2.2.2) mg mt mc T)), 0, 0)))
    obtain ⟨g4, hf⟩ := grd_e hf
    refine stp hm 1 (And.intro (gi_in g4) (?_ : sxWP sc cl Q 197 (161, [some (.ref 59), some (.int v1), z2, z3, z4, some (.int s.1)], [], (cW nw kp im ol sn sr tp (mW (mk.1, mk.2.1, upd s.2 ((42:Int32) + s.1).toNatClampNeg (mt.2.2 ((v1 + (6:Int32)) + s.1).toNatClampNeg), mk.2.2.2.1, mk.2.2.2.2.1, mk.2.2.2.2.2.1, mk.2.2.2.2.2.2.1, mk.2.2.2.2.2.2.2.1, mk.2.2.2.2.2.2.2.2.1, mk.2.2.2.2.2.2.2.2.2) mg mt mc T)), 0, 0)))
    obtain rfl := Option.some.inj hf
    refine stp hm 2 (?_ : sxWP sc cl Q 197 (126, [some (.ref 59), some (.int v1), z2, z3, (sxc2 z4), some (.int (s.1 + (1:Int32)))], [], (cW nw kp im ol sn sr tp (mW (mk.1, mk.2.1, upd s.2 ((42:Int32) + s.1).toNatClampNeg (mt.2.2 ((v1 + (6:Int32)) + s.1).toNatClampNeg), mk.2.2.2.1, mk.2.2.2.2.1, mk.2.2.2.2.2.1, mk.2.2.2.2.2.2.1, mk.2.2.2.2.2.2.2.1, mk.2.2.2.2.2.2.2.2.1, mk.2.2.2.2.2.2.2.2.2) mg mt mc T)), 0, 0))
    exact hA _ rfl _ _ _
set_option maxRecDepth 10000 in
theorem M_walks_ok {v1 : Int32} {q : (Int32 × (Nat → Int32))} (hc : call = sxE sc (d + 3)) (hf : M_walks v1 mk.2.2.1 mt.2.2 = some q) (h : Q (some (.int q.1)) (cW nw kp im ol sn sr tp (mW (mk.1, mk.2.1, q.2, mk.2.2.2.1, mk.2.2.2.2.1, mk.2.2.2.2.2.1, mk.2.2.2.2.2.2.1, mk.2.2.2.2.2.2.2.1, mk.2.2.2.2.2.2.2.2.1, mk.2.2.2.2.2.2.2.2.2) mg mt mc T))) : call 197 [.ref 59, .int v1] (cW nw kp im ol sn sr tp (mW mk mg mt mc T)) Q := by
  refine ent hc rfl (fun cl hE hm => ?_)
  have J38 : ∀ (ms_j : (Nat → Int32)) (z0 : Option Value) (z1 : Option Value) (z2 : Option Value) (z3 : Option Value) (z4 : Option Value) (z5 : Option Value), M_walks_j38 ms_j = some q → sxWP sc cl Q 197 (38, [z0, z1, z2, z3, z4, z5], [], (cW nw kp im ol sn sr tp (mW (mk.1, mk.2.1, ms_j, mk.2.2.2.1, mk.2.2.2.2.1, mk.2.2.2.2.2.1, mk.2.2.2.2.2.2.1, mk.2.2.2.2.2.2.2.1, mk.2.2.2.2.2.2.2.2.1, mk.2.2.2.2.2.2.2.2.2) mg mt mc T)), 0, 0) := by
    intro ms_j z0 z1 z2 z3 z4 z5 hf
    unfold M_walks_j38 at hf
    obtain rfl := Option.some.inj hf
    refine stp hm 2 (And.intro (Or.inl rfl) ?_)
    exact h
  unfold M_walks at hf
  obtain ⟨g1, hf⟩ := grd_e hf
  refine stp hm 6 (And.intro (gi_in g1) (?_ : sxWP sc cl Q 197 (8, [some (.ref 59), some (.int v1), none, none, none, none], [.int (mt.2.2 (v1 + (1:Int32)).toNatClampNeg)], (cW nw kp im ol sn sr tp (mW mk mg mt mc T)), 0, 0)))
  obtain ⟨g2, hf⟩ := grd_e hf
  refine stp hm 7 (And.intro (gi_in g2) (?_ : sxWP sc cl Q 197 (17, [some (.ref 59), some (.int v1), some (.int (mt.2.2 (v1 + (1:Int32)).toNatClampNeg)), none, none, none], [.int (mt.2.2 (v1 + (2:Int32)).toNatClampNeg)], (cW nw kp im ol sn sr tp (mW mk mg mt mc T)), 0, 0)))
  refine stp hm 5 (M_isIn_ok hE rfl ?_)
  show sxWP sc cl Q 197 (25, [some (.ref 59), some (.int v1), some (.int (mt.2.2 (v1 + (1:Int32)).toNatClampNeg)), some (.int (mt.2.2 (v1 + (2:Int32)).toNatClampNeg)), none, none], [.int (M_isIn (mt.2.2 (v1 + (1:Int32)).toNatClampNeg) (0:Int32) (6:Int32))], (cW nw kp im ol sn sr tp (mW mk mg mt mc T)), 0, 0)
  refine stp hm 1 (br hf (fun c3 hf => ?_) (fun c3 hf => ?_))
  · show sxWP sc cl Q 197 (38, [some (.ref 59), some (.int v1), some (.int (mt.2.2 (v1 + (1:Int32)).toNatClampNeg)), some (.int (mt.2.2 (v1 + (2:Int32)).toNatClampNeg)), none, none], [], (cW nw kp im ol sn sr tp (mW mk mg mt mc T)), 0, 0)
    exact J38 _ _ _ _ _ _ _ hf
  · show sxWP sc cl Q 197 (28, [some (.ref 59), some (.int v1), some (.int (mt.2.2 (v1 + (1:Int32)).toNatClampNeg)), some (.int (mt.2.2 (v1 + (2:Int32)).toNatClampNeg)), none, none], [], (cW nw kp im ol sn sr tp (mW mk mg mt mc T)), 0, 0)
    refine stp hm 4 (M_isIn_ok hE rfl ?_)
    show sxWP sc cl Q 197 (35, [some (.ref 59), some (.int v1), some (.int (mt.2.2 (v1 + (1:Int32)).toNatClampNeg)), some (.int (mt.2.2 (v1 + (2:Int32)).toNatClampNeg)), none, none], [.int (M_isIn (mt.2.2 (v1 + (2:Int32)).toNatClampNeg) (0:Int32) (6:Int32))], (cW nw kp im ol sn sr tp (mW mk mg mt mc T)), 0, 0)
    refine stp hm 1 (brn hf (fun c4 hf => ?_) (fun c4 hf => ?_))
    · show sxWP sc cl Q 197 (40, [some (.ref 59), some (.int v1), some (.int (mt.2.2 (v1 + (1:Int32)).toNatClampNeg)), some (.int (mt.2.2 (v1 + (2:Int32)).toNatClampNeg)), none, none], [], (cW nw kp im ol sn sr tp (mW mk mg mt mc T)), 0, 0)
      obtain ⟨w5, hw5, hf⟩ := bnd hf
      refine stp hm 8 (?_ : sxWP sc cl Q 197 (51, [some (.ref 59), some (.int v1), some (.int (mt.2.2 (v1 + (1:Int32)).toNatClampNeg)), some (.int (mt.2.2 (v1 + (2:Int32)).toNatClampNeg)), some (.int (((7:Int32) * (mt.2.2 (v1 + (1:Int32)).toNatClampNeg)) + (mt.2.2 (v1 + (2:Int32)).toNatClampNeg))), some (.int (0:Int32))], [], (cW nw kp im ol sn sr tp (mW mk mg mt mc T)), 0, 0))
      refine M_walks_l51 hE hm _ _ _ hw5 ?_
      refine ⟨fun w5_0a e0 => ?_, fun w5_0b e0 => ?_⟩
      · subst e0
        replace hf : (some ((0:Int32), mk.2.2.1)) = some q := hf
        intro w5_z0 w5_z1 w5_z2 w5_z3 w5_z4 w5_z5
        show sxWP sc cl Q 197 (89, [w5_z0, w5_z1, w5_z2, w5_z3, w5_z4, w5_z5], [], (cW nw kp im ol sn sr tp (mW mk mg mt mc T)), 0, 0)
        obtain rfl := Option.some.inj hf
        refine stp hm 2 (And.intro (Or.inl rfl) ?_)
        exact h
      · subst e0
        replace hf : (grd (gi (1:Int32) 122) (grd (gi (v1 + (5:Int32)) 312) (grd (gi (2:Int32) 122) (Option.bind (wh (M_walks_s126 v1 mt.2.2) FU ((0:Int32), upd (upd mk.2.2.1 (1:Int32).toNatClampNeg (((7:Int32) * (mt.2.2 (v1 + (1:Int32)).toNatClampNeg)) + (mt.2.2 (v1 + (2:Int32)).toNatClampNeg))) (2:Int32).toNatClampNeg (mt.2.2 (v1 + (5:Int32)).toNatClampNeg))) (fun w9 => some ((1:Int32), w9)))))) = some q := hf
        intro w5_z4 w5_z5
        show sxWP sc cl Q 197 (97, [some (.ref 59), some (.int v1), some (.int (mt.2.2 (v1 + (1:Int32)).toNatClampNeg)), some (.int (mt.2.2 (v1 + (2:Int32)).toNatClampNeg)), w5_z4, w5_z5], [], (cW nw kp im ol sn sr tp (mW mk mg mt mc T)), 0, 0)
        obtain ⟨g6, hf⟩ := grd_e hf
        refine stp hm 9 (And.intro (gi_in g6) (?_ : sxWP sc cl Q 197 (109, [some (.ref 59), some (.int v1), some (.int (mt.2.2 (v1 + (1:Int32)).toNatClampNeg)), some (.int (mt.2.2 (v1 + (2:Int32)).toNatClampNeg)), w5_z4, w5_z5], [], (cW nw kp im ol sn sr tp (mW (mk.1, mk.2.1, upd mk.2.2.1 (1:Int32).toNatClampNeg (((7:Int32) * (mt.2.2 (v1 + (1:Int32)).toNatClampNeg)) + (mt.2.2 (v1 + (2:Int32)).toNatClampNeg)), mk.2.2.2.1, mk.2.2.2.2.1, mk.2.2.2.2.2.1, mk.2.2.2.2.2.2.1, mk.2.2.2.2.2.2.2.1, mk.2.2.2.2.2.2.2.2.1, mk.2.2.2.2.2.2.2.2.2) mg mt mc T)), 0, 0)))
        obtain ⟨g7, hf⟩ := grd_e hf
        refine stp hm 9 (And.intro (gi_in g7) (?_ : sxWP sc cl Q 197 (122, [some (.ref 59), some (.int v1), some (.int (mt.2.2 (v1 + (1:Int32)).toNatClampNeg)), some (.int (mt.2.2 (v1 + (2:Int32)).toNatClampNeg)), w5_z4, w5_z5], [.int (mt.2.2 (v1 + (5:Int32)).toNatClampNeg), .int (2:Int32), .ref 60], (cW nw kp im ol sn sr tp (mW (mk.1, mk.2.1, upd mk.2.2.1 (1:Int32).toNatClampNeg (((7:Int32) * (mt.2.2 (v1 + (1:Int32)).toNatClampNeg)) + (mt.2.2 (v1 + (2:Int32)).toNatClampNeg)), mk.2.2.2.1, mk.2.2.2.2.1, mk.2.2.2.2.2.1, mk.2.2.2.2.2.2.1, mk.2.2.2.2.2.2.2.1, mk.2.2.2.2.2.2.2.2.1, mk.2.2.2.2.2.2.2.2.2) mg mt mc T)), 0, 0)))
        obtain ⟨g8, hf⟩ := grd_e hf
        refine stp hm 1 (And.intro (gi_in g8) (?_ : sxWP sc cl Q 197 (123, [some (.ref 59), some (.int v1), some (.int (mt.2.2 (v1 + (1:Int32)).toNatClampNeg)), some (.int (mt.2.2 (v1 + (2:Int32)).toNatClampNeg)), w5_z4, w5_z5], [], (cW nw kp im ol sn sr tp (mW (mk.1, mk.2.1, upd (upd mk.2.2.1 (1:Int32).toNatClampNeg (((7:Int32) * (mt.2.2 (v1 + (1:Int32)).toNatClampNeg)) + (mt.2.2 (v1 + (2:Int32)).toNatClampNeg))) (2:Int32).toNatClampNeg (mt.2.2 (v1 + (5:Int32)).toNatClampNeg), mk.2.2.2.1, mk.2.2.2.2.1, mk.2.2.2.2.2.1, mk.2.2.2.2.2.2.1, mk.2.2.2.2.2.2.2.1, mk.2.2.2.2.2.2.2.2.1, mk.2.2.2.2.2.2.2.2.2) mg mt mc T)), 0, 0)))
        obtain ⟨w9, hw9, hf⟩ := bnd hf
        refine stp hm 2 (?_ : sxWP sc cl Q 197 (126, [some (.ref 59), some (.int v1), some (.int (mt.2.2 (v1 + (1:Int32)).toNatClampNeg)), some (.int (mt.2.2 (v1 + (2:Int32)).toNatClampNeg)), (sxc2 w5_z4), some (.int (0:Int32))], [], (cW nw kp im ol sn sr tp (mW (mk.1, mk.2.1, upd (upd mk.2.2.1 (1:Int32).toNatClampNeg (((7:Int32) * (mt.2.2 (v1 + (1:Int32)).toNatClampNeg)) + (mt.2.2 (v1 + (2:Int32)).toNatClampNeg))) (2:Int32).toNatClampNeg (mt.2.2 (v1 + (5:Int32)).toNatClampNeg), mk.2.2.2.1, mk.2.2.2.2.1, mk.2.2.2.2.2.1, mk.2.2.2.2.2.2.1, mk.2.2.2.2.2.2.2.1, mk.2.2.2.2.2.2.2.2.1, mk.2.2.2.2.2.2.2.2.2) mg mt mc T)), 0, 0))
        refine M_walks_l126 hE hm _ _ _ hw9 ?_ _ _ _
        intro w9_z0 w9_z1 w9_z2 w9_z3 w9_z4 w9_z5
        show sxWP sc cl Q 197 (167, [w9_z0, w9_z1, w9_z2, w9_z3, w9_z4, w9_z5], [], (cW nw kp im ol sn sr tp (mW (mk.1, mk.2.1, w9, mk.2.2.2.1, mk.2.2.2.2.1, mk.2.2.2.2.2.1, mk.2.2.2.2.2.2.1, mk.2.2.2.2.2.2.2.1, mk.2.2.2.2.2.2.2.2.1, mk.2.2.2.2.2.2.2.2.2) mg mt mc T)), 0, 0)
        obtain rfl := Option.some.inj hf
        refine stp hm 2 (And.intro (Or.inr rfl) ?_)
        exact h
    · show sxWP sc cl Q 197 (38, [some (.ref 59), some (.int v1), some (.int (mt.2.2 (v1 + (1:Int32)).toNatClampNeg)), some (.int (mt.2.2 (v1 + (2:Int32)).toNatClampNeg)), none, none], [], (cW nw kp im ol sn sr tp (mW mk mg mt mc T)), 0, 0)
      exact J38 _ _ _ _ _ _ _ hf

def M_mirrored_s4   (mrg : Int64) (s : (Int64 × Int32)) : Option ((Int64 × Int32) ⊕ Int64) := if (36:Int32) ≤ s.2 then (some (Sum.inr s.1)) else (some (Sum.inl (s.1 ||| (if (M_has s.2 mrg) = (0:Int32) then (0:Int64) else ((1:Int64) <<< ((((((s.2 / (6:Int32)) * (6:Int32)) + (6:Int32)) - (1:Int32)) - (s.2 - s.2 / (6:Int32) * (6:Int32))).toInt64 &&& 63))), s.2 + (1:Int32))))
def M_mirrored  (mrg : Int64) : Option Int64 := Option.bind (wh (M_mirrored_s4 mrg) FU ((0:Int64), (0:Int32))) (fun w1 => some w1)
set_option maxRecDepth 10000 in
theorem M_mirrored_l4    (hE : cl = sxE sc (d + 1)) (hm : CallMono cl) : ∀ (n : Nat) (s : (Int64 × Int32)) (r : Int64), wh (M_mirrored_s4 mk.1) n s = some r → (∀ (z0 z3 : Option Value), sxWP sc cl Q 152 (50, [z0, some (.long r), none, z3], [], (cW nw kp im ol sn sr tp (mW mk mg mt mc T)), 0, 0)) → sxWP sc cl Q 152 (4, [some (.ref 59), some (.long s.1), none, some (.int s.2)], [], (cW nw kp im ol sn sr tp (mW mk mg mt mc T)), 0, 0) := by
  refine wh_run (A := fun (s : (Int64 × Int32)) => sxWP sc cl Q 152 (4, [some (.ref 59), some (.long s.1), none, some (.int s.2)], [], (cW nw kp im ol sn sr tp (mW mk mg mt mc T)), 0, 0)) (B := fun (r : Int64) => ∀ (z0 z3 : Option Value), sxWP sc cl Q 152 (50, [z0, some (.long r), none, z3], [], (cW nw kp im ol sn sr tp (mW mk mg mt mc T)), 0, 0)) (fun s x hf hA hB => ?_)
  unfold M_mirrored_s4 at hf
  refine stp hm 3 (br hf (fun c1 hf => ?_) (fun c1 hf => ?_))
  · show sxWP sc cl Q 152 (50, [some (.ref 59), some (.long s.1), none, some (.int s.2)], [], (cW nw kp im ol sn sr tp (mW mk mg mt mc T)), 0, 0)
    obtain rfl := Option.some.inj hf
    exact hB _ rfl _ _
  · show sxWP sc cl Q 152 (10, [some (.ref 59), some (.long s.1), none, some (.int s.2)], [], (cW nw kp im ol sn sr tp (mW mk mg mt mc T)), 0, 0)
    refine stp hm 4 (M_has_ok hE rfl ?_)
    show sxWP sc cl Q 152 (16, [some (.ref 59), some (.long s.1), none, some (.int s.2)], [.int (M_has s.2 mk.1), .long s.1], (cW nw kp im ol sn sr tp (mW mk mg mt mc T)), 0, 0)
    have m2 : ∀ (m2_0 : Int64), m2_0 = (if (M_has s.2 mk.1) = (0:Int32) then (0:Int64) else ((1:Int64) <<< ((((((s.2 / (6:Int32)) * (6:Int32)) + (6:Int32)) - (1:Int32)) - (s.2 - s.2 / (6:Int32) * (6:Int32))).toInt64 &&& 63))) → sxWP sc cl Q 152 (42, [some (.ref 59), some (.long s.1), none, some (.int s.2)], [.long m2_0, .long s.1], (cW nw kp im ol sn sr tp (mW mk mg mt mc T)), 0, 0) := by
      intro m2_0 em2_0
      subst em2_0
      obtain rfl := Option.some.inj hf
      refine stp hm 4 (?_ : sxWP sc cl Q 152 (4, [some (.ref 59), some (.long (s.1 ||| (if (M_has s.2 mk.1) = (0:Int32) then (0:Int64) else ((1:Int64) <<< ((((((s.2 / (6:Int32)) * (6:Int32)) + (6:Int32)) - (1:Int32)) - (s.2 - s.2 / (6:Int32) * (6:Int32))).toInt64 &&& 63))))), none, some (.int (s.2 + (1:Int32)))], [], (cW nw kp im ol sn sr tp (mW mk mg mt mc T)), 0, 0))
      exact hA _ rfl
    refine stp hm 1 (bs (c := (M_has s.2 mk.1) = (0:Int32)) (fun c3 => ?_) (fun c3 => ?_))
    · have c3 : (M_has s.2 mk.1) = (0:Int32) := c3
      refine stp hm 1 (?_ : sxWP sc cl Q 152 (42, [some (.ref 59), some (.long s.1), none, some (.int s.2)], [.long (0:Int64), .long s.1], (cW nw kp im ol sn sr tp (mW mk mg mt mc T)), 0, 0))
      exact m2 _ (by rw [if_pos c3])
    · have c3 : ¬ (M_has s.2 mk.1) = (0:Int32) := c3
      refine stp hm 4 (And.intro (by decide) (?_ : sxWP sc cl Q 152 (24, [some (.ref 59), some (.long s.1), none, some (.int s.2)], [.int (s.2 / (6:Int32)), .long (1:Int64), .long s.1], (cW nw kp im ol sn sr tp (mW mk mg mt mc T)), 0, 0)))
      refine stp hm 9 (And.intro (by decide) (?_ : sxWP sc cl Q 152 (36, [some (.ref 59), some (.long s.1), none, some (.int s.2)], [.int (s.2 - s.2 / (6:Int32) * (6:Int32)), .int ((((s.2 / (6:Int32)) * (6:Int32)) + (6:Int32)) - (1:Int32)), .long (1:Int64), .long s.1], (cW nw kp im ol sn sr tp (mW mk mg mt mc T)), 0, 0)))
      refine stp hm 3 (?_ : sxWP sc cl Q 152 (42, [some (.ref 59), some (.long s.1), none, some (.int s.2)], [.long ((1:Int64) <<< ((((((s.2 / (6:Int32)) * (6:Int32)) + (6:Int32)) - (1:Int32)) - (s.2 - s.2 / (6:Int32) * (6:Int32))).toInt64 &&& 63)), .long s.1], (cW nw kp im ol sn sr tp (mW mk mg mt mc T)), 0, 0))
      exact m2 _ (by rw [if_neg c3])
set_option maxRecDepth 10000 in
theorem M_mirrored_ok  {q : Int64} (hc : call = sxE sc (d + 2)) (hf : M_mirrored mk.1 = some q) (h : Q (some (.long q)) (cW nw kp im ol sn sr tp (mW mk mg mt mc T))) : call 152 [.ref 59] (cW nw kp im ol sn sr tp (mW mk mg mt mc T)) Q := by
  refine ent hc rfl (fun cl hE hm => ?_)
  unfold M_mirrored at hf
  obtain ⟨w1, hw1, hf⟩ := bnd hf
  refine stp hm 4 (?_ : sxWP sc cl Q 152 (4, [some (.ref 59), some (.long (0:Int64)), none, some (.int (0:Int32))], [], (cW nw kp im ol sn sr tp (mW mk mg mt mc T)), 0, 0))
  refine M_mirrored_l4 hE hm _ _ _ hw1 ?_
  intro w1_z0 w1_z3
  show sxWP sc cl Q 152 (50, [w1_z0, some (.long w1), none, w1_z3], [], (cW nw kp im ol sn sr tp (mW mk mg mt mc T)), 0, 0)
  obtain rfl := Option.some.inj hf
  refine stp hm 2 ?_
  exact h

def M_isOnGround (v0 : Int32) (v1 : Int32)  : Int32 := if (M_isIn v0 (0:Int32) (5:Int32)) = (0:Int32) then (0:Int32) else (if (M_isIn v1 (0:Int32) (5:Int32)) = (0:Int32) then (0:Int32) else (1:Int32))
set_option maxRecDepth 10000 in
theorem M_isOnGround_ok {v0 : Int32} {v1 : Int32} {r : Int32} (hc : call = sxE sc (d + 2)) (hf : M_isOnGround v0 v1 = r) (h : Q (some (.int r)) hp) : call 196 [.int v0, .int v1] hp Q := by
  refine ent hc rfl (fun cl hE hm => ?_)
  unfold M_isOnGround at hf
  refine stp hm 4 (M_isIn_ok hE rfl ?_)
  show sxWP sc cl Q 196 (6, [some (.int v0), some (.int v1)], [.int (M_isIn v0 (0:Int32) (5:Int32))], hp, 0, 0)
  have m1 : ∀ (m1_0 : Int32), m1_0 = (if (M_isIn v0 (0:Int32) (5:Int32)) = (0:Int32) then (0:Int32) else (if (M_isIn v1 (0:Int32) (5:Int32)) = (0:Int32) then (0:Int32) else (1:Int32))) → sxWP sc cl Q 196 (23, [some (.int v0), some (.int v1)], [.int m1_0], hp, 0, 0) := by
    intro m1_0 em1_0
    subst em1_0
    subst hf
    refine stp hm 1 (And.intro (by (repeat' split) <;> first | exact Or.inl rfl | exact Or.inr rfl) ?_)
    exact h
  refine stp hm 1 (bs (c := (M_isIn v0 (0:Int32) (5:Int32)) = (0:Int32)) (fun c2 => ?_) (fun c2 => ?_))
  · have c2 : (M_isIn v0 (0:Int32) (5:Int32)) = (0:Int32) := c2
    refine stp hm 1 (?_ : sxWP sc cl Q 196 (23, [some (.int v0), some (.int v1)], [.int (0:Int32)], hp, 0, 0))
    exact m1 _ (by rw [if_pos c2])
  · have c2 : ¬ (M_isIn v0 (0:Int32) (5:Int32)) = (0:Int32) := c2
    refine stp hm 4 (M_isIn_ok hE rfl ?_)
    show sxWP sc cl Q 196 (15, [some (.int v0), some (.int v1)], [.int (M_isIn v1 (0:Int32) (5:Int32))], hp, 0, 0)
    refine stp hm 1 (bs (c := (M_isIn v1 (0:Int32) (5:Int32)) = (0:Int32)) (fun c3 => ?_) (fun c3 => ?_))
    · have c3 : (M_isIn v1 (0:Int32) (5:Int32)) = (0:Int32) := c3
      refine stp hm 1 (?_ : sxWP sc cl Q 196 (23, [some (.int v0), some (.int v1)], [.int (0:Int32)], hp, 0, 0))
      exact m1 _ (by rw [if_neg c2, if_pos c3])
    · have c3 : ¬ (M_isIn v1 (0:Int32) (5:Int32)) = (0:Int32) := c3
      refine stp hm 2 (?_ : sxWP sc cl Q 196 (23, [some (.int v0), some (.int v1)], [.int (1:Int32)], hp, 0, 0))
      exact m1 _ (by rw [if_neg c2, if_neg c3])
theorem M_isOnGround_z {v0 : Int32} {v1 : Int32}  : M_isOnGround v0 v1 = 0 ∨ M_isOnGround v0 v1 = 1 := by
  unfold M_isOnGround
  (repeat' split) <;> first | exact Or.inl rfl | exact Or.inr rfl | exact M_isIn_z
end PT
