/-! methods as functions (printed by wip/whole/dec) -/
section PT
variable {sc : sxS} {d : Nat} {Q : sxR} {hp : sxH} {call cl : sxX} {nw kp : tSt} {im : Int32} {ol : tOl} {sn : tSn} {sr : tSc} {tp : Nat → tTp} {mk : tMk} {mg : tMg} {mt : tMt} {mc : tMc} {T : sxH}

def O_look_j109  (okn_j : Int32) (org_j : Int64) (osi_j : Int32) (oti_j : Int32) (ole_j : Int32) (oto_j : Int32) (oow_j : Int64) (oco_j : Int64) (ost_j : (Nat → Int32)) (owa_j : (Nat → Int32)) (owv_j : (Nat → Int32)) (owh_j : (Nat → Int32)) (olo_j : (Nat → Int32)) (ohi_j : (Nat → Int32)) (odi_j : (Nat → Int32)) (oqu_j : (Nat → Int32)) : Option (Int32 × Int64 × Int32 × Int32 × Int32 × Int32 × Int64 × Int64 × (Nat → Int32) × (Nat → Int32) × (Nat → Int32) × (Nat → Int32) × (Nat → Int32) × (Nat → Int32) × (Nat → Int32) × (Nat → Int32)) := some (okn_j, org_j, osi_j, oti_j, ole_j, oto_j, oow_j, oco_j, ost_j, owa_j, owv_j, owh_j, olo_j, ohi_j, odi_j, oqu_j)
def O_look_j95  (k1 : Int32) (okn_j : Int32) (org_j : Int64) (osi_j : Int32) (ole_j : Int32) (oto_j : Int32) (oow_j : Int64) (oco_j : Int64) (ost_j : (Nat → Int32)) (owa_j : (Nat → Int32)) (owv_j : (Nat → Int32)) (owh_j : (Nat → Int32)) (olo_j : (Nat → Int32)) (ohi_j : (Nat → Int32)) (odi_j : (Nat → Int32)) (oqu_j : (Nat → Int32)) (ora : (Nat → Int32)) : Option (Int32 × Int64 × Int32 × Int32 × Int32 × Int32 × Int64 × Int64 × (Nat → Int32) × (Nat → Int32) × (Nat → Int32) × (Nat → Int32) × (Nat → Int32) × (Nat → Int32) × (Nat → Int32) × (Nat → Int32)) := grd (zb k1) (if k1 = (0:Int32) then (O_look_j109 okn_j org_j osi_j k1 ole_j oto_j oow_j oco_j ost_j owa_j owv_j owh_j olo_j ohi_j odi_j oqu_j) else (Option.bind (O_findLows ole_j ost_j owv_j owh_j olo_j ohi_j ora odi_j oqu_j) (fun q3 => O_look_j109 okn_j org_j osi_j k1 ole_j oto_j oow_j oco_j ost_j owa_j owv_j owh_j q3.1 ohi_j q3.2.1 q3.2.2)))
def O_look_j94  (okn_j : Int32) (org_j : Int64) (osi_j : Int32) (ole_j : Int32) (oto_j : Int32) (oow_j : Int64) (oco_j : Int64) (ost_j : (Nat → Int32)) (owa_j : (Nat → Int32)) (owv_j : (Nat → Int32)) (owh_j : (Nat → Int32)) (olo_j : (Nat → Int32)) (ohi_j : (Nat → Int32)) (odi_j : (Nat → Int32)) (oqu_j : (Nat → Int32)) (ora : (Nat → Int32)) : Option (Int32 × Int64 × Int32 × Int32 × Int32 × Int32 × Int64 × Int64 × (Nat → Int32) × (Nat → Int32) × (Nat → Int32) × (Nat → Int32) × (Nat → Int32) × (Nat → Int32) × (Nat → Int32) × (Nat → Int32)) := O_look_j95 (0:Int32) okn_j org_j osi_j ole_j oto_j oow_j oco_j ost_j owa_j owv_j owh_j olo_j ohi_j odi_j oqu_j ora
def O_look_j68  (okn_j : Int32) (org_j : Int64) (osi_j : Int32) (ole_j : Int32) (oto_j : Int32) (oow_j : Int64) (oco_j : Int64) (ost_j : (Nat → Int32)) (owa_j : (Nat → Int32)) (owv_j : (Nat → Int32)) (owh_j : (Nat → Int32)) (olo_j : (Nat → Int32)) (ohi_j : (Nat → Int32)) (odi_j : (Nat → Int32)) (oqu_j : (Nat → Int32)) (ora : (Nat → Int32)) : Option (Int32 × Int64 × Int32 × Int32 × Int32 × Int32 × Int64 × Int64 × (Nat → Int32) × (Nat → Int32) × (Nat → Int32) × (Nat → Int32) × (Nat → Int32) × (Nat → Int32) × (Nat → Int32) × (Nat → Int32)) := if osi_j = (0:Int32) then (O_look_j94 okn_j org_j osi_j ole_j oto_j oow_j oco_j ost_j owa_j owv_j owh_j olo_j ohi_j odi_j oqu_j ora) else (if oto_j = (0:Int32) then (Option.bind (O_findHighs ole_j oow_j ost_j owv_j owh_j olo_j ohi_j ora odi_j oqu_j) (fun q6 => if (if q6.1 = (0:Int32) then (0:Int32) else (1:Int32)) = (0:Int32) then (O_look_j109 okn_j org_j osi_j (if q6.1 = (0:Int32) then (0:Int32) else (1:Int32)) ole_j oto_j oow_j oco_j ost_j owa_j owv_j owh_j olo_j q6.2.1 q6.2.2.1 q6.2.2.2) else (Option.bind (O_findLows ole_j ost_j owv_j owh_j olo_j q6.2.1 ora q6.2.2.1 q6.2.2.2) (fun q9 => O_look_j109 okn_j org_j osi_j (if q6.1 = (0:Int32) then (0:Int32) else (1:Int32)) ole_j oto_j oow_j oco_j ost_j owa_j owv_j owh_j q9.1 q6.2.1 q9.2.1 q9.2.2)))) else (O_look_j94 okn_j org_j osi_j ole_j oto_j oow_j oco_j ost_j owa_j owv_j owh_j olo_j ohi_j odi_j oqu_j ora))
def O_look_j17  (v1 : Int64) (ost_j : (Nat → Int32)) (owa_j : (Nat → Int32)) (owv_j : (Nat → Int32)) (owh_j : (Nat → Int32)) (olo_j : (Nat → Int32)) (ohi_j : (Nat → Int32)) (odi_j : (Nat → Int32)) (oqu_j : (Nat → Int32)) (ora : (Nat → Int32)) : Option (Int32 × Int64 × Int32 × Int32 × Int32 × Int32 × Int64 × Int64 × (Nat → Int32) × (Nat → Int32) × (Nat → Int32) × (Nat → Int32) × (Nat → Int32) × (Nat → Int32) × (Nat → Int32) × (Nat → Int32)) := Option.bind (G_isSimple v1) (fun q11 => grd (zb q11) (Option.bind (O_findSteps v1 ost_j) (fun q13 => if q11 = (0:Int32) then (O_look_j68 (1:Int32) v1 q11 (0:Int32) (0:Int32) (0:Int64) q13.1 q13.2 owa_j owv_j owh_j olo_j ohi_j odi_j oqu_j ora) else (Option.bind (O_goRound v1 (0:Int32) (0:Int32) (0:Int64) q13.2 owa_j owv_j owh_j) (fun q15 => O_look_j68 (1:Int32) v1 q11 q15.1 q15.2.1 q15.2.2.1 q13.1 q13.2 q15.2.2.2.1 q15.2.2.2.2.1 q15.2.2.2.2.2 olo_j ohi_j odi_j oqu_j ora)))))
def O_look (v1 : Int64) (okn : Int32) (org : Int64) (osi : Int32) (oti : Int32) (ole : Int32) (oto : Int32) (oow : Int64) (oco : Int64) (ost : (Nat → Int32)) (owa : (Nat → Int32)) (owv : (Nat → Int32)) (owh : (Nat → Int32)) (olo : (Nat → Int32)) (ohi : (Nat → Int32)) (ora : (Nat → Int32)) (odi : (Nat → Int32)) (oqu : (Nat → Int32)) : Option (Int32 × Int64 × Int32 × Int32 × Int32 × Int32 × Int64 × Int64 × (Nat → Int32) × (Nat → Int32) × (Nat → Int32) × (Nat → Int32) × (Nat → Int32) × (Nat → Int32) × (Nat → Int32) × (Nat → Int32)) := if okn = (0:Int32) then (O_look_j17 v1 ost owa owv owh olo ohi odi oqu ora) else (if org = v1 then (some (okn, org, osi, oti, ole, oto, oow, oco, ost, owa, owv, owh, olo, ohi, odi, oqu)) else (O_look_j17 v1 ost owa owv owh olo ohi odi oqu ora))
set_option maxRecDepth 10000 in
theorem O_look_ok {v1 : Int64} {q : (Int32 × Int64 × Int32 × Int32 × Int32 × Int32 × Int64 × Int64 × (Nat → Int32) × (Nat → Int32) × (Nat → Int32) × (Nat → Int32) × (Nat → Int32) × (Nat → Int32) × (Nat → Int32) × (Nat → Int32))} (hc : call = sxE sc (d + 4)) (hf : O_look v1 ol.1 ol.2.1 ol.2.2.1 ol.2.2.2.1 ol.2.2.2.2.1 ol.2.2.2.2.2.1 ol.2.2.2.2.2.2.1 ol.2.2.2.2.2.2.2.1 ol.2.2.2.2.2.2.2.2.1 ol.2.2.2.2.2.2.2.2.2.1 ol.2.2.2.2.2.2.2.2.2.2.1 ol.2.2.2.2.2.2.2.2.2.2.2.1 ol.2.2.2.2.2.2.2.2.2.2.2.2.1 ol.2.2.2.2.2.2.2.2.2.2.2.2.2.1 ol.2.2.2.2.2.2.2.2.2.2.2.2.2.2.1 ol.2.2.2.2.2.2.2.2.2.2.2.2.2.2.2.1 ol.2.2.2.2.2.2.2.2.2.2.2.2.2.2.2.2 = some q) (h : Q none (cW nw kp im (q.1, q.2.1, q.2.2.1, q.2.2.2.1, q.2.2.2.2.1, q.2.2.2.2.2.1, q.2.2.2.2.2.2.1, q.2.2.2.2.2.2.2.1, q.2.2.2.2.2.2.2.2.1, q.2.2.2.2.2.2.2.2.2.1, q.2.2.2.2.2.2.2.2.2.2.1, q.2.2.2.2.2.2.2.2.2.2.2.1, q.2.2.2.2.2.2.2.2.2.2.2.2.1, q.2.2.2.2.2.2.2.2.2.2.2.2.2.1, ol.2.2.2.2.2.2.2.2.2.2.2.2.2.2.1, q.2.2.2.2.2.2.2.2.2.2.2.2.2.2.1, q.2.2.2.2.2.2.2.2.2.2.2.2.2.2.2) sn sr tp (mW mk mg mt mc T))) : call 19 [.ref 29, .long v1] (cW nw kp im ol sn sr tp (mW mk mg mt mc T)) Q := by
  refine ent hc rfl (fun cl hE hm => ?_)
  have J109 : ∀ (okn_j : Int32) (org_j : Int64) (osi_j : Int32) (oti_j : Int32) (ole_j : Int32) (oto_j : Int32) (oow_j : Int64) (oco_j : Int64) (ost_j : (Nat → Int32)) (owa_j : (Nat → Int32)) (owv_j : (Nat → Int32)) (owh_j : (Nat → Int32)) (olo_j : (Nat → Int32)) (ohi_j : (Nat → Int32)) (odi_j : (Nat → Int32)) (oqu_j : (Nat → Int32)) (z0 : Option Value) (z1 : Option Value) (z2 : Option Value), O_look_j109 okn_j org_j osi_j oti_j ole_j oto_j oow_j oco_j ost_j owa_j owv_j owh_j olo_j ohi_j odi_j oqu_j = some q → sxWP sc cl Q 19 (109, [z0, z1, z2], [], (cW nw kp im (okn_j, org_j, osi_j, oti_j, ole_j, oto_j, oow_j, oco_j, ost_j, owa_j, owv_j, owh_j, olo_j, ohi_j, ol.2.2.2.2.2.2.2.2.2.2.2.2.2.2.1, odi_j, oqu_j) sn sr tp (mW mk mg mt mc T)), 0, 0) := by
    intro okn_j org_j osi_j oti_j ole_j oto_j oow_j oco_j ost_j owa_j owv_j owh_j olo_j ohi_j odi_j oqu_j z0 z1 z2 hf
    unfold O_look_j109 at hf
    obtain rfl := Option.some.inj hf
    refine stp hm 1 ?_
    exact h
  have J95 : ∀ (k1 : Int32) (okn_j : Int32) (org_j : Int64) (osi_j : Int32) (oti_j : Int32) (ole_j : Int32) (oto_j : Int32) (oow_j : Int64) (oco_j : Int64) (ost_j : (Nat → Int32)) (owa_j : (Nat → Int32)) (owv_j : (Nat → Int32)) (owh_j : (Nat → Int32)) (olo_j : (Nat → Int32)) (ohi_j : (Nat → Int32)) (odi_j : (Nat → Int32)) (oqu_j : (Nat → Int32)) (z1 : Option Value) (z2 : Option Value), O_look_j95 k1 okn_j org_j osi_j ole_j oto_j oow_j oco_j ost_j owa_j owv_j owh_j olo_j ohi_j odi_j oqu_j ol.2.2.2.2.2.2.2.2.2.2.2.2.2.2.1 = some q → sxWP sc cl Q 19 (95, [some (.ref 29), z1, z2], [.int k1, .ref 29], (cW nw kp im (okn_j, org_j, osi_j, oti_j, ole_j, oto_j, oow_j, oco_j, ost_j, owa_j, owv_j, owh_j, olo_j, ohi_j, ol.2.2.2.2.2.2.2.2.2.2.2.2.2.2.1, odi_j, oqu_j) sn sr tp (mW mk mg mt mc T)), 0, 0) := by
    intro k1 okn_j org_j osi_j oti_j ole_j oto_j oow_j oco_j ost_j owa_j owv_j owh_j olo_j ohi_j odi_j oqu_j z1 z2 hf
    unfold O_look_j95 at hf
    obtain ⟨g1, hf⟩ := grd_e hf
    refine stp hm 1 (And.intro (zb_e g1) (?_ : sxWP sc cl Q 19 (98, [some (.ref 29), z1, z2], [], (cW nw kp im (okn_j, org_j, osi_j, k1, ole_j, oto_j, oow_j, oco_j, ost_j, owa_j, owv_j, owh_j, olo_j, ohi_j, ol.2.2.2.2.2.2.2.2.2.2.2.2.2.2.1, odi_j, oqu_j) sn sr tp (mW mk mg mt mc T)), 0, 0)))
    refine stp hm 3 (br hf (fun c2 hf => ?_) (fun c2 hf => ?_))
    · show sxWP sc cl Q 19 (109, [some (.ref 29), z1, z2], [], (cW nw kp im (okn_j, org_j, osi_j, k1, ole_j, oto_j, oow_j, oco_j, ost_j, owa_j, owv_j, owh_j, olo_j, ohi_j, ol.2.2.2.2.2.2.2.2.2.2.2.2.2.2.1, odi_j, oqu_j) sn sr tp (mW mk mg mt mc T)), 0, 0)
      exact J109 _ _ _ _ _ _ _ _ _ _ _ _ _ _ _ _ _ _ _ hf
    · show sxWP sc cl Q 19 (105, [some (.ref 29), z1, z2], [], (cW nw kp im (okn_j, org_j, osi_j, k1, ole_j, oto_j, oow_j, oco_j, ost_j, owa_j, owv_j, owh_j, olo_j, ohi_j, ol.2.2.2.2.2.2.2.2.2.2.2.2.2.2.1, odi_j, oqu_j) sn sr tp (mW mk mg mt mc T)), 0, 0)
      obtain ⟨q3, hq3, hf⟩ := bnd hf
      refine stp hm 2 (O_findLows_ok hE hq3 ?_)
      show sxWP sc cl Q 19 (109, [some (.ref 29), z1, z2], [], (cW nw kp im (okn_j, org_j, osi_j, k1, ole_j, oto_j, oow_j, oco_j, ost_j, owa_j, owv_j, owh_j, q3.1, ohi_j, ol.2.2.2.2.2.2.2.2.2.2.2.2.2.2.1, q3.2.1, q3.2.2) sn sr tp (mW mk mg mt mc T)), 0, 0)
      exact J109 _ _ _ _ _ _ _ _ _ _ _ _ _ _ _ _ _ _ _ hf
  have J94 : ∀ (okn_j : Int32) (org_j : Int64) (osi_j : Int32) (oti_j : Int32) (ole_j : Int32) (oto_j : Int32) (oow_j : Int64) (oco_j : Int64) (ost_j : (Nat → Int32)) (owa_j : (Nat → Int32)) (owv_j : (Nat → Int32)) (owh_j : (Nat → Int32)) (olo_j : (Nat → Int32)) (ohi_j : (Nat → Int32)) (odi_j : (Nat → Int32)) (oqu_j : (Nat → Int32)) (z1 : Option Value) (z2 : Option Value), O_look_j94 okn_j org_j osi_j ole_j oto_j oow_j oco_j ost_j owa_j owv_j owh_j olo_j ohi_j odi_j oqu_j ol.2.2.2.2.2.2.2.2.2.2.2.2.2.2.1 = some q → sxWP sc cl Q 19 (94, [some (.ref 29), z1, z2], [.ref 29], (cW nw kp im (okn_j, org_j, osi_j, oti_j, ole_j, oto_j, oow_j, oco_j, ost_j, owa_j, owv_j, owh_j, olo_j, ohi_j, ol.2.2.2.2.2.2.2.2.2.2.2.2.2.2.1, odi_j, oqu_j) sn sr tp (mW mk mg mt mc T)), 0, 0) := by
    intro okn_j org_j osi_j oti_j ole_j oto_j oow_j oco_j ost_j owa_j owv_j owh_j olo_j ohi_j odi_j oqu_j z1 z2 hf
    unfold O_look_j94 at hf
    refine stp hm 1 (?_ : sxWP sc cl Q 19 (95, [some (.ref 29), z1, z2], [.int (0:Int32), .ref 29], (cW nw kp im (okn_j, org_j, osi_j, oti_j, ole_j, oto_j, oow_j, oco_j, ost_j, owa_j, owv_j, owh_j, olo_j, ohi_j, ol.2.2.2.2.2.2.2.2.2.2.2.2.2.2.1, odi_j, oqu_j) sn sr tp (mW mk mg mt mc T)), 0, 0))
    exact J95 _ _ _ _ _ _ _ _ _ _ _ _ _ _ _ _ _ _ _ hf
  have J68 : ∀ (okn_j : Int32) (org_j : Int64) (osi_j : Int32) (oti_j : Int32) (ole_j : Int32) (oto_j : Int32) (oow_j : Int64) (oco_j : Int64) (ost_j : (Nat → Int32)) (owa_j : (Nat → Int32)) (owv_j : (Nat → Int32)) (owh_j : (Nat → Int32)) (olo_j : (Nat → Int32)) (ohi_j : (Nat → Int32)) (odi_j : (Nat → Int32)) (oqu_j : (Nat → Int32)) (z1 : Option Value) (z2 : Option Value), O_look_j68 okn_j org_j osi_j ole_j oto_j oow_j oco_j ost_j owa_j owv_j owh_j olo_j ohi_j odi_j oqu_j ol.2.2.2.2.2.2.2.2.2.2.2.2.2.2.1 = some q → sxWP sc cl Q 19 (68, [some (.ref 29), z1, z2], [], (cW nw kp im (okn_j, org_j, osi_j, oti_j, ole_j, oto_j, oow_j, oco_j, ost_j, owa_j, owv_j, owh_j, olo_j, ohi_j, ol.2.2.2.2.2.2.2.2.2.2.2.2.2.2.1, odi_j, oqu_j) sn sr tp (mW mk mg mt mc T)), 0, 0) := by
    intro okn_j org_j osi_j oti_j ole_j oto_j oow_j oco_j ost_j owa_j owv_j owh_j olo_j ohi_j odi_j oqu_j z1 z2 hf
    unfold O_look_j68 at hf
    refine stp hm 4 (br hf (fun c4 hf => ?_) (fun c4 hf => ?_))
    · show sxWP sc cl Q 19 (94, [some (.ref 29), z1, z2], [.ref 29], (cW nw kp im (okn_j, org_j, osi_j, oti_j, ole_j, oto_j, oow_j, oco_j, ost_j, owa_j, owv_j, owh_j, olo_j, ohi_j, ol.2.2.2.2.2.2.2.2.2.2.2.2.2.2.1, odi_j, oqu_j) sn sr tp (mW mk mg mt mc T)), 0, 0)
      exact J94 _ _ _ _ _ _ _ _ _ _ _ _ _ _ _ _ _ _ hf
    · show sxWP sc cl Q 19 (76, [some (.ref 29), z1, z2], [.ref 29], (cW nw kp im (okn_j, org_j, osi_j, oti_j, ole_j, oto_j, oow_j, oco_j, ost_j, owa_j, owv_j, owh_j, olo_j, ohi_j, ol.2.2.2.2.2.2.2.2.2.2.2.2.2.2.1, odi_j, oqu_j) sn sr tp (mW mk mg mt mc T)), 0, 0)
      refine stp hm 3 (brn hf (fun c5 hf => ?_) (fun c5 hf => ?_))
      · show sxWP sc cl Q 19 (94, [some (.ref 29), z1, z2], [.ref 29], (cW nw kp im (okn_j, org_j, osi_j, oti_j, ole_j, oto_j, oow_j, oco_j, ost_j, owa_j, owv_j, owh_j, olo_j, ohi_j, ol.2.2.2.2.2.2.2.2.2.2.2.2.2.2.1, odi_j, oqu_j) sn sr tp (mW mk mg mt mc T)), 0, 0)
        exact J94 _ _ _ _ _ _ _ _ _ _ _ _ _ _ _ _ _ _ hf
      · show sxWP sc cl Q 19 (83, [some (.ref 29), z1, z2], [.ref 29], (cW nw kp im (okn_j, org_j, osi_j, oti_j, ole_j, oto_j, oow_j, oco_j, ost_j, owa_j, owv_j, owh_j, olo_j, ohi_j, ol.2.2.2.2.2.2.2.2.2.2.2.2.2.2.1, odi_j, oqu_j) sn sr tp (mW mk mg mt mc T)), 0, 0)
        obtain ⟨q6, hq6, hf⟩ := bnd hf
        refine stp hm 2 (O_findHighs_ok hE hq6 ?_)
        show sxWP sc cl Q 19 (87, [some (.ref 29), z1, z2], [.int q6.1, .ref 29], (cW nw kp im (okn_j, org_j, osi_j, oti_j, ole_j, oto_j, oow_j, oco_j, ost_j, owa_j, owv_j, owh_j, olo_j, q6.2.1, ol.2.2.2.2.2.2.2.2.2.2.2.2.2.2.1, q6.2.2.1, q6.2.2.2) sn sr tp (mW mk mg mt mc T)), 0, 0)
        have m7 : ∀ (m7_0 : Int32), m7_0 = (if q6.1 = (0:Int32) then (0:Int32) else (1:Int32)) → sxWP sc cl Q 19 (95, [some (.ref 29), z1, z2], [.int m7_0, .ref 29], (cW nw kp im (okn_j, org_j, osi_j, oti_j, ole_j, oto_j, oow_j, oco_j, ost_j, owa_j, owv_j, owh_j, olo_j, q6.2.1, ol.2.2.2.2.2.2.2.2.2.2.2.2.2.2.1, q6.2.2.1, q6.2.2.2) sn sr tp (mW mk mg mt mc T)), 0, 0) := by
          intro m7_0 em7_0
          subst em7_0
          refine stp hm 1 (And.intro (by (repeat' split) <;> first | exact Or.inl rfl | exact Or.inr rfl) (?_ : sxWP sc cl Q 19 (98, [some (.ref 29), z1, z2], [], (cW nw kp im (okn_j, org_j, osi_j, if q6.1 = (0:Int32) then (0:Int32) else (1:Int32), ole_j, oto_j, oow_j, oco_j, ost_j, owa_j, owv_j, owh_j, olo_j, q6.2.1, ol.2.2.2.2.2.2.2.2.2.2.2.2.2.2.1, q6.2.2.1, q6.2.2.2) sn sr tp (mW mk mg mt mc T)), 0, 0)))
          refine stp hm 3 (br hf (fun c8 hf => ?_) (fun c8 hf => ?_))
          · show sxWP sc cl Q 19 (109, [some (.ref 29), z1, z2], [], (cW nw kp im (okn_j, org_j, osi_j, if q6.1 = (0:Int32) then (0:Int32) else (1:Int32), ole_j, oto_j, oow_j, oco_j, ost_j, owa_j, owv_j, owh_j, olo_j, q6.2.1, ol.2.2.2.2.2.2.2.2.2.2.2.2.2.2.1, q6.2.2.1, q6.2.2.2) sn sr tp (mW mk mg mt mc T)), 0, 0)
            exact J109 _ _ _ _ _ _ _ _ _ _ _ _ _ _ _ _ _ _ _ hf
          · show sxWP sc cl Q 19 (105, [some (.ref 29), z1, z2], [], (cW nw kp im (okn_j, org_j, osi_j, if q6.1 = (0:Int32) then (0:Int32) else (1:Int32), ole_j, oto_j, oow_j, oco_j, ost_j, owa_j, owv_j, owh_j, olo_j, q6.2.1, ol.2.2.2.2.2.2.2.2.2.2.2.2.2.2.1, q6.2.2.1, q6.2.2.2) sn sr tp (mW mk mg mt mc T)), 0, 0)
            obtain ⟨q9, hq9, hf⟩ := bnd hf
            refine stp hm 2 (O_findLows_ok hE hq9 ?_)
            show sxWP sc cl Q 19 (109, [some (.ref 29), z1, z2], [], (cW nw kp im (okn_j, org_j, osi_j, if q6.1 = (0:Int32) then (0:Int32) else (1:Int32), ole_j, oto_j, oow_j, oco_j, ost_j, owa_j, owv_j, owh_j, q9.1, q6.2.1, ol.2.2.2.2.2.2.2.2.2.2.2.2.2.2.1, q9.2.1, q9.2.2) sn sr tp (mW mk mg mt mc T)), 0, 0)
            exact J109 _ _ _ _ _ _ _ _ _ _ _ _ _ _ _ _ _ _ _ hf
        refine stp hm 1 (bs (c := q6.1 = (0:Int32)) (fun c10 => ?_) (fun c10 => ?_))
        · have c10 : q6.1 = (0:Int32) := c10
          refine stp hm 1 (?_ : sxWP sc cl Q 19 (95, [some (.ref 29), z1, z2], [.int (0:Int32), .ref 29], (cW nw kp im (okn_j, org_j, osi_j, oti_j, ole_j, oto_j, oow_j, oco_j, ost_j, owa_j, owv_j, owh_j, olo_j, q6.2.1, ol.2.2.2.2.2.2.2.2.2.2.2.2.2.2.1, q6.2.2.1, q6.2.2.2) sn sr tp (mW mk mg mt mc T)), 0, 0))
          exact m7 _ (by rw [if_pos c10])
        · have c10 : ¬ q6.1 = (0:Int32) := c10
          refine stp hm 2 (?_ : sxWP sc cl Q 19 (95, [some (.ref 29), z1, z2], [.int (1:Int32), .ref 29], (cW nw kp im (okn_j, org_j, osi_j, oti_j, ole_j, oto_j, oow_j, oco_j, ost_j, owa_j, owv_j, owh_j, olo_j, q6.2.1, ol.2.2.2.2.2.2.2.2.2.2.2.2.2.2.1, q6.2.2.1, q6.2.2.2) sn sr tp (mW mk mg mt mc T)), 0, 0))
          exact m7 _ (by rw [if_neg c10])
  have J17 : ∀ (v1 : Int64) (okn_j : Int32) (org_j : Int64) (osi_j : Int32) (oti_j : Int32) (ole_j : Int32) (oto_j : Int32) (oow_j : Int64) (oco_j : Int64) (ost_j : (Nat → Int32)) (owa_j : (Nat → Int32)) (owv_j : (Nat → Int32)) (owh_j : (Nat → Int32)) (olo_j : (Nat → Int32)) (ohi_j : (Nat → Int32)) (odi_j : (Nat → Int32)) (oqu_j : (Nat → Int32)), O_look_j17 v1 ost_j owa_j owv_j owh_j olo_j ohi_j odi_j oqu_j ol.2.2.2.2.2.2.2.2.2.2.2.2.2.2.1 = some q → sxWP sc cl Q 19 (17, [some (.ref 29), some (.long v1), none], [], (cW nw kp im (okn_j, org_j, osi_j, oti_j, ole_j, oto_j, oow_j, oco_j, ost_j, owa_j, owv_j, owh_j, olo_j, ohi_j, ol.2.2.2.2.2.2.2.2.2.2.2.2.2.2.1, odi_j, oqu_j) sn sr tp (mW mk mg mt mc T)), 0, 0) := by
    intro v1 okn_j org_j osi_j oti_j ole_j oto_j oow_j oco_j ost_j owa_j owv_j owh_j olo_j ohi_j odi_j oqu_j hf
    unfold O_look_j17 at hf
    refine stp hm 3 (And.intro (Or.inr rfl) (?_ : sxWP sc cl Q 19 (22, [some (.ref 29), some (.long v1), none], [], (cW nw kp im ((1:Int32), org_j, osi_j, oti_j, ole_j, oto_j, oow_j, oco_j, ost_j, owa_j, owv_j, owh_j, olo_j, ohi_j, ol.2.2.2.2.2.2.2.2.2.2.2.2.2.2.1, odi_j, oqu_j) sn sr tp (mW mk mg mt mc T)), 0, 0)))
    obtain ⟨q11, hq11, hf⟩ := bnd hf
    refine stp hm 7 (G_isSimple_ok hE hq11 ?_)
    show sxWP sc cl Q 19 (35, [some (.ref 29), some (.long v1), none], [.int q11, .ref 29], (cW nw kp im ((1:Int32), v1, osi_j, oti_j, ole_j, oto_j, oow_j, oco_j, ost_j, owa_j, owv_j, owh_j, olo_j, ohi_j, ol.2.2.2.2.2.2.2.2.2.2.2.2.2.2.1, odi_j, oqu_j) sn sr tp (mW mk mg mt mc T)), 0, 0)
    obtain ⟨g12, hf⟩ := grd_e hf
    refine stp hm 1 (And.intro (zb_e g12) (?_ : sxWP sc cl Q 19 (38, [some (.ref 29), some (.long v1), none], [], (cW nw kp im ((1:Int32), v1, q11, oti_j, ole_j, oto_j, oow_j, oco_j, ost_j, owa_j, owv_j, owh_j, olo_j, ohi_j, ol.2.2.2.2.2.2.2.2.2.2.2.2.2.2.1, odi_j, oqu_j) sn sr tp (mW mk mg mt mc T)), 0, 0)))
    obtain ⟨q13, hq13, hf⟩ := bnd hf
    refine stp hm 2 (O_findSteps_ok hE hq13 ?_)
    show sxWP sc cl Q 19 (42, [some (.ref 29), some (.long v1), none], [], (cW nw kp im ((1:Int32), v1, q11, oti_j, ole_j, oto_j, oow_j, q13.1, q13.2, owa_j, owv_j, owh_j, olo_j, ohi_j, ol.2.2.2.2.2.2.2.2.2.2.2.2.2.2.1, odi_j, oqu_j) sn sr tp (mW mk mg mt mc T)), 0, 0)
    refine stp hm 12 (br hf (fun c14 hf => ?_) (fun c14 hf => ?_))
    · show sxWP sc cl Q 19 (68, [some (.ref 29), some (.long v1), none], [], (cW nw kp im ((1:Int32), v1, q11, oti_j, (0:Int32), (0:Int32), (0:Int64), q13.1, q13.2, owa_j, owv_j, owh_j, olo_j, ohi_j, ol.2.2.2.2.2.2.2.2.2.2.2.2.2.2.1, odi_j, oqu_j) sn sr tp (mW mk mg mt mc T)), 0, 0)
      exact J68 _ _ _ _ _ _ _ _ _ _ _ _ _ _ _ _ _ _ hf
    · show sxWP sc cl Q 19 (64, [some (.ref 29), some (.long v1), none], [], (cW nw kp im ((1:Int32), v1, q11, oti_j, (0:Int32), (0:Int32), (0:Int64), q13.1, q13.2, owa_j, owv_j, owh_j, olo_j, ohi_j, ol.2.2.2.2.2.2.2.2.2.2.2.2.2.2.1, odi_j, oqu_j) sn sr tp (mW mk mg mt mc T)), 0, 0)
      obtain ⟨q15, hq15, hf⟩ := bnd hf
      refine stp hm 2 (O_goRound_ok hE hq15 ?_)
      show sxWP sc cl Q 19 (68, [some (.ref 29), some (.long v1), none], [], (cW nw kp im ((1:Int32), v1, q11, oti_j, q15.1, q15.2.1, q15.2.2.1, q13.1, q13.2, q15.2.2.2.1, q15.2.2.2.2.1, q15.2.2.2.2.2, olo_j, ohi_j, ol.2.2.2.2.2.2.2.2.2.2.2.2.2.2.1, odi_j, oqu_j) sn sr tp (mW mk mg mt mc T)), 0, 0)
      exact J68 _ _ _ _ _ _ _ _ _ _ _ _ _ _ _ _ _ _ hf
  unfold O_look at hf
  refine stp hm 3 (br hf (fun c16 hf => ?_) (fun c16 hf => ?_))
  · show sxWP sc cl Q 19 (17, [some (.ref 29), some (.long v1), none], [], (cW nw kp im ol sn sr tp (mW mk mg mt mc T)), 0, 0)
    exact J17 _ _ _ _ _ _ _ _ _ _ _ _ _ _ _ _ _ hf
  · show sxWP sc cl Q 19 (7, [some (.ref 29), some (.long v1), none], [], (cW nw kp im ol sn sr tp (mW mk mg mt mc T)), 0, 0)
    refine stp hm 5 (brnI (lg_cmp_eq _ _) hf (fun c17 hf => ?_) (fun c17 hf => ?_))
    · show sxWP sc cl Q 19 (17, [some (.ref 29), some (.long v1), none], [], (cW nw kp im ol sn sr tp (mW mk mg mt mc T)), 0, 0)
      exact J17 _ _ _ _ _ _ _ _ _ _ _ _ _ _ _ _ _ hf
    · show sxWP sc cl Q 19 (16, [some (.ref 29), some (.long v1), none], [], (cW nw kp im ol sn sr tp (mW mk mg mt mc T)), 0, 0)
      obtain rfl := Option.some.inj hf
      refine stp hm 1 ?_
      exact h

def J_Arrays_fillI_4_s5  (v1 : Int32) (v3 : Int32) (s : (Int32 × (Nat → Int32))) : Option ((Int32 × (Nat → Int32)) ⊕ (Nat → Int32)) := if v3 ≤ s.1 then (some (Sum.inr s.2)) else (grd (gi s.1 36) (some (Sum.inl (s.1 + (1:Int32), upd s.2 s.1.toNatClampNeg v1))))
def J_Arrays_fillI_4 (v1 : Int32) (nmt : (Nat → Int32)) : Option (Nat → Int32) := Option.bind (wh (J_Arrays_fillI_4_s5 v1 (Int32.ofNat 36)) FU ((0:Int32), nmt)) (fun w1 => some w1)
set_option maxRecDepth 10000 in
theorem J_Arrays_fillI_4_l5 {v1 : Int32} {v3 : Int32}   (hE : cl = sxE sc (d + 0)) (hm : CallMono cl) : ∀ (n : Nat) (s : (Int32 × (Nat → Int32))) (r : (Nat → Int32)), wh (J_Arrays_fillI_4_s5 v1 v3) n s = some r → (∀ (z0 z1 z2 z3 : Option Value), sxWP sc cl Q 255 (20, [z0, z1, z2, z3], [], (cW (nw.1, nw.2.1, r, nw.2.2.2.1, nw.2.2.2.2.1, nw.2.2.2.2.2.1, nw.2.2.2.2.2.2) kp im ol sn sr tp (mW mk mg mt mc T)), 0, 0)) → sxWP sc cl Q 255 (5, [some (.ref 2), some (.int v1), some (.int s.1), some (.int v3)], [], (cW (nw.1, nw.2.1, s.2, nw.2.2.2.1, nw.2.2.2.2.1, nw.2.2.2.2.2.1, nw.2.2.2.2.2.2) kp im ol sn sr tp (mW mk mg mt mc T)), 0, 0) := by
  refine wh_run (A := fun (s : (Int32 × (Nat → Int32))) => sxWP sc cl Q 255 (5, [some (.ref 2), some (.int v1), some (.int s.1), some (.int v3)], [], (cW (nw.1, nw.2.1, s.2, nw.2.2.2.1, nw.2.2.2.2.1, nw.2.2.2.2.2.1, nw.2.2.2.2.2.2) kp im ol sn sr tp (mW mk mg mt mc T)), 0, 0)) (B := fun (r : (Nat → Int32)) => ∀ (z0 z1 z2 z3 : Option Value), sxWP sc cl Q 255 (20, [z0, z1, z2, z3], [], (cW (nw.1, nw.2.1, r, nw.2.2.2.1, nw.2.2.2.2.1, nw.2.2.2.2.2.1, nw.2.2.2.2.2.2) kp im ol sn sr tp (mW mk mg mt mc T)), 0, 0)) (fun s x hf hA hB => ?_)
  unfold J_Arrays_fillI_4_s5 at hf
  refine stp hm 3 (br hf (fun c1 hf => ?_) (fun c1 hf => ?_))
  · show sxWP sc cl Q 255 (20, [some (.ref 2), some (.int v1), some (.int s.1), some (.int v3)], [], (cW (nw.1, nw.2.1, s.2, nw.2.2.2.1, nw.2.2.2.2.1, nw.2.2.2.2.2.1, nw.2.2.2.2.2.2) kp im ol sn sr tp (mW mk mg mt mc T)), 0, 0)
    obtain rfl := Option.some.inj hf
    exact hB _ rfl _ _ _ _
  · show sxWP sc cl Q 255 (10, [some (.ref 2), some (.int v1), some (.int s.1), some (.int v3)], [], (cW (nw.1, nw.2.1, s.2, nw.2.2.2.1, nw.2.2.2.2.1, nw.2.2.2.2.2.1, nw.2.2.2.2.2.2) kp im ol sn sr tp (mW mk mg mt mc T)), 0, 0)
    obtain ⟨g2, hf⟩ := grd_e hf
    refine stp hm 4 (And.intro (gi_in g2) (?_ : sxWP sc cl Q 255 (14, [some (.ref 2), some (.int v1), some (.int s.1), some (.int v3)], [], (cW (nw.1, nw.2.1, upd s.2 s.1.toNatClampNeg v1, nw.2.2.2.1, nw.2.2.2.2.1, nw.2.2.2.2.2.1, nw.2.2.2.2.2.2) kp im ol sn sr tp (mW mk mg mt mc T)), 0, 0)))
    obtain rfl := Option.some.inj hf
    refine stp hm 2 (?_ : sxWP sc cl Q 255 (5, [some (.ref 2), some (.int v1), some (.int (s.1 + (1:Int32))), some (.int v3)], [], (cW (nw.1, nw.2.1, upd s.2 s.1.toNatClampNeg v1, nw.2.2.2.1, nw.2.2.2.2.1, nw.2.2.2.2.2.1, nw.2.2.2.2.2.2) kp im ol sn sr tp (mW mk mg mt mc T)), 0, 0))
    exact hA _ rfl
set_option maxRecDepth 10000 in
theorem J_Arrays_fillI_4_ok {v1 : Int32} {q : (Nat → Int32)} (hc : call = sxE sc (d + 1)) (hf : J_Arrays_fillI_4 v1 nw.2.2.1 = some q) (h : Q none (cW (nw.1, nw.2.1, q, nw.2.2.2.1, nw.2.2.2.2.1, nw.2.2.2.2.2.1, nw.2.2.2.2.2.2) kp im ol sn sr tp (mW mk mg mt mc T))) : call 255 [.ref 2, .int v1] (cW nw kp im ol sn sr tp (mW mk mg mt mc T)) Q := by
  refine ent hc rfl (fun cl hE hm => ?_)
  unfold J_Arrays_fillI_4 at hf
  obtain ⟨w1, hw1, hf⟩ := bnd hf
  refine stp hm 5 (?_ : sxWP sc cl Q 255 (5, [some (.ref 2), some (.int v1), some (.int (0:Int32)), some (.int (Int32.ofNat 36))], [], (cW nw kp im ol sn sr tp (mW mk mg mt mc T)), 0, 0))
  refine J_Arrays_fillI_4_l5 hE hm _ _ _ hw1 ?_
  intro w1_z0 w1_z1 w1_z2 w1_z3
  show sxWP sc cl Q 255 (20, [w1_z0, w1_z1, w1_z2, w1_z3], [], (cW (nw.1, nw.2.1, w1, nw.2.2.2.1, nw.2.2.2.2.1, nw.2.2.2.2.2.1, nw.2.2.2.2.2.2) kp im ol sn sr tp (mW mk mg mt mc T)), 0, 0)
  obtain rfl := Option.some.inj hf
  refine stp hm 1 ?_
  exact h

def S_isInside (v1 : Int32) (v2 : Int32) (nrg : Int64) : Int32 := if (G_holds nrg v1) = (0:Int32) then (0:Int32) else (if (G_holds nrg v2) = (0:Int32) then (0:Int32) else (1:Int32))
set_option maxRecDepth 10000 in
theorem S_isInside_ok {v1 : Int32} {v2 : Int32} {r : Int32} (hc : call = sxE sc (d + 3)) (hf : S_isInside v1 v2 nw.1 = r) (h : Q (some (.int r)) (cW nw kp im ol sn sr tp (mW mk mg mt mc T))) : call 67 [.ref 1, .int v1, .int v2] (cW nw kp im ol sn sr tp (mW mk mg mt mc T)) Q := by
  refine ent hc rfl (fun cl hE hm => ?_)
  unfold S_isInside at hf
  refine stp hm 4 (G_holds_ok hE rfl ?_)
  show sxWP sc cl Q 67 (8, [some (.ref 1), some (.int v1), some (.int v2)], [.int (G_holds nw.1 v1)], (cW nw kp im ol sn sr tp (mW mk mg mt mc T)), 0, 0)
  have m1 : ∀ (m1_0 : Int32), m1_0 = (if (G_holds nw.1 v1) = (0:Int32) then (0:Int32) else (if (G_holds nw.1 v2) = (0:Int32) then (0:Int32) else (1:Int32))) → sxWP sc cl Q 67 (27, [some (.ref 1), some (.int v1), some (.int v2)], [.int m1_0], (cW nw kp im ol sn sr tp (mW mk mg mt mc T)), 0, 0) := by
    intro m1_0 em1_0
    subst em1_0
    subst hf
    refine stp hm 1 (And.intro (by (repeat' split) <;> first | exact Or.inl rfl | exact Or.inr rfl) ?_)
    exact h
  refine stp hm 1 (bs (c := (G_holds nw.1 v1) = (0:Int32)) (fun c2 => ?_) (fun c2 => ?_))
  · have c2 : (G_holds nw.1 v1) = (0:Int32) := c2
    refine stp hm 1 (?_ : sxWP sc cl Q 67 (27, [some (.ref 1), some (.int v1), some (.int v2)], [.int (0:Int32)], (cW nw kp im ol sn sr tp (mW mk mg mt mc T)), 0, 0))
    exact m1 _ (by rw [if_pos c2])
  · have c2 : ¬ (G_holds nw.1 v1) = (0:Int32) := c2
    refine stp hm 4 (G_holds_ok hE rfl ?_)
    show sxWP sc cl Q 67 (19, [some (.ref 1), some (.int v1), some (.int v2)], [.int (G_holds nw.1 v2)], (cW nw kp im ol sn sr tp (mW mk mg mt mc T)), 0, 0)
    refine stp hm 1 (bs (c := (G_holds nw.1 v2) = (0:Int32)) (fun c3 => ?_) (fun c3 => ?_))
    · have c3 : (G_holds nw.1 v2) = (0:Int32) := c3
      refine stp hm 1 (?_ : sxWP sc cl Q 67 (27, [some (.ref 1), some (.int v1), some (.int v2)], [.int (0:Int32)], (cW nw kp im ol sn sr tp (mW mk mg mt mc T)), 0, 0))
      exact m1 _ (by rw [if_neg c2, if_pos c3])
    · have c3 : ¬ (G_holds nw.1 v2) = (0:Int32) := c3
      refine stp hm 2 (?_ : sxWP sc cl Q 67 (27, [some (.ref 1), some (.int v1), some (.int v2)], [.int (1:Int32)], (cW nw kp im ol sn sr tp (mW mk mg mt mc T)), 0, 0))
      exact m1 _ (by rw [if_neg c2, if_neg c3])
theorem S_isInside_z {v1 : Int32} {v2 : Int32} {nrg : Int64} : S_isInside v1 v2 nrg = 0 ∨ S_isInside v1 v2 nrg = 1 := by
  unfold S_isInside
  (repeat' split) <;> first | exact Or.inl rfl | exact Or.inr rfl | exact G_holds_z

def J_Math_abs (v0 : Int32)  : Int32 := if (0:Int32) ≤ v0 then v0 else (-v0)
set_option maxRecDepth 10000 in
theorem J_Math_abs_ok {v0 : Int32} {r : Int32} (hc : call = sxE sc (d + 1)) (hf : J_Math_abs v0 = r) (h : Q (some (.int r)) hp) : call 247 [.int v0] hp Q := by
  refine ent hc rfl (fun cl hE hm => ?_)
  unfold J_Math_abs at hf
  have m1 : ∀ (m1_0 : Int32), m1_0 = (if (0:Int32) ≤ v0 then v0 else (-v0)) → sxWP sc cl Q 247 (10, [some (.int v0)], [.int m1_0], hp, 0, 0) := by
    intro m1_0 em1_0
    subst em1_0
    subst hf
    refine stp hm 1 ?_
    exact h
  refine stp hm 2 (bs (c := (0:Int32) ≤ v0) (fun c2 => ?_) (fun c2 => ?_))
  · have c2 : (0:Int32) ≤ v0 := c2
    refine stp hm 1 (?_ : sxWP sc cl Q 247 (10, [some (.int v0)], [.int v0], hp, 0, 0))
    exact m1 _ (by rw [if_pos c2])
  · have c2 : ¬ (0:Int32) ≤ v0 := c2
    refine stp hm 3 (?_ : sxWP sc cl Q 247 (10, [some (.int v0)], [.int (-v0)], hp, 0, 0))
    exact m1 _ (by rw [if_neg c2])

def O_isSplit (v1 : Int32) (v2 : Int32) (v3 : Int32) (owh : (Nat → Int32)) (olo : (Nat → Int32)) (ohi : (Nat → Int32)) (ora : (Nat → Int32)) : Option Int32 := Option.bind (O_level v1 v3 owh olo ohi ora) (fun q1 => Option.bind (O_level v2 v3 owh olo ohi ora) (fun q2 => some (if (J_Math_abs (q1 - q2)) = (3:Int32) then (1:Int32) else (0:Int32))))
set_option maxRecDepth 10000 in
theorem O_isSplit_ok {v1 : Int32} {v2 : Int32} {v3 : Int32} {q : Int32} (hc : call = sxE sc (d + 3)) (hf : O_isSplit v1 v2 v3 ol.2.2.2.2.2.2.2.2.2.2.2.1 ol.2.2.2.2.2.2.2.2.2.2.2.2.1 ol.2.2.2.2.2.2.2.2.2.2.2.2.2.1 ol.2.2.2.2.2.2.2.2.2.2.2.2.2.2.1 = some q) (h : Q (some (.int q)) (cW nw kp im ol sn sr tp (mW mk mg mt mc T))) : call 24 [.ref 29, .int v1, .int v2, .int v3] (cW nw kp im ol sn sr tp (mW mk mg mt mc T)) Q := by
  refine ent hc rfl (fun cl hE hm => ?_)
  unfold O_isSplit at hf
  obtain ⟨q1, hq1, hf⟩ := bnd hf
  refine stp hm 4 (O_level_ok hE hq1 ?_)
  show sxWP sc cl Q 24 (6, [some (.ref 29), some (.int v1), some (.int v2), some (.int v3)], [.int q1], (cW nw kp im ol sn sr tp (mW mk mg mt mc T)), 0, 0)
  obtain ⟨q2, hq2, hf⟩ := bnd hf
  refine stp hm 4 (O_level_ok hE hq2 ?_)
  show sxWP sc cl Q 24 (12, [some (.ref 29), some (.int v1), some (.int v2), some (.int v3)], [.int q2, .int q1], (cW nw kp im ol sn sr tp (mW mk mg mt mc T)), 0, 0)
  refine stp hm 2 (J_Math_abs_ok hE rfl ?_)
  show sxWP sc cl Q 24 (16, [some (.ref 29), some (.int v1), some (.int v2), some (.int v3)], [.int (J_Math_abs (q1 - q2))], (cW nw kp im ol sn sr tp (mW mk mg mt mc T)), 0, 0)
  have m3 : ∀ (m3_0 : Int32), m3_0 = (if (J_Math_abs (q1 - q2)) = (3:Int32) then (1:Int32) else (0:Int32)) → sxWP sc cl Q 24 (25, [some (.ref 29), some (.int v1), some (.int v2), some (.int v3)], [.int m3_0], (cW nw kp im ol sn sr tp (mW mk mg mt mc T)), 0, 0) := by
    intro m3_0 em3_0
    subst em3_0
    obtain rfl := Option.some.inj hf
    refine stp hm 1 (And.intro (by (repeat' split) <;> first | exact Or.inl rfl | exact Or.inr rfl) ?_)
    exact h
  refine stp hm 2 (bsn (c := (J_Math_abs (q1 - q2)) = (3:Int32)) (fun c4 => ?_) (fun c4 => ?_))
  · have c4 : ¬ (J_Math_abs (q1 - q2)) = (3:Int32) := c4
    refine stp hm 1 (?_ : sxWP sc cl Q 24 (25, [some (.ref 29), some (.int v1), some (.int v2), some (.int v3)], [.int (0:Int32)], (cW nw kp im ol sn sr tp (mW mk mg mt mc T)), 0, 0))
    exact m3 _ (by rw [if_neg c4])
  · have c4 : (J_Math_abs (q1 - q2)) = (3:Int32) := c4
    refine stp hm 2 (?_ : sxWP sc cl Q 24 (25, [some (.ref 29), some (.int v1), some (.int v2), some (.int v3)], [.int (1:Int32)], (cW nw kp im ol sn sr tp (mW mk mg mt mc T)), 0, 0))
    exact m3 _ (by rw [if_pos c4])

def S_join_j28  (nmt_j : (Nat → Int32)) : Option (Nat → Int32) := some nmt_j
def S_join (v1 : Int32) (v2 : Int32) (nmt : (Nat → Int32)) : Option (Nat → Int32) := if (G_isCell v1) = (0:Int32) then (S_join_j28 nmt) else (if (G_isCell v2) = (0:Int32) then (S_join_j28 nmt) else (grd (gi v1 36) (grd (gi v2 36) (S_join_j28 (upd (upd nmt v1.toNatClampNeg v2) v2.toNatClampNeg v1)))))
set_option maxRecDepth 10000 in
theorem S_join_ok {v1 : Int32} {v2 : Int32} {q : (Nat → Int32)} (hc : call = sxE sc (d + 2)) (hf : S_join v1 v2 nw.2.2.1 = some q) (h : Q none (cW (nw.1, nw.2.1, q, nw.2.2.2.1, nw.2.2.2.2.1, nw.2.2.2.2.2.1, nw.2.2.2.2.2.2) kp im ol sn sr tp (mW mk mg mt mc T))) : call 68 [.ref 1, .int v1, .int v2] (cW nw kp im ol sn sr tp (mW mk mg mt mc T)) Q := by
  refine ent hc rfl (fun cl hE hm => ?_)
  have J28 : ∀ (nmt_j : (Nat → Int32)) (z0 : Option Value) (z1 : Option Value) (z2 : Option Value), S_join_j28 nmt_j = some q → sxWP sc cl Q 68 (28, [z0, z1, z2], [], (cW (nw.1, nw.2.1, nmt_j, nw.2.2.2.1, nw.2.2.2.2.1, nw.2.2.2.2.2.1, nw.2.2.2.2.2.2) kp im ol sn sr tp (mW mk mg mt mc T)), 0, 0) := by
    intro nmt_j z0 z1 z2 hf
    unfold S_join_j28 at hf
    obtain rfl := Option.some.inj hf
    refine stp hm 1 ?_
    exact h
  unfold S_join at hf
  refine stp hm 2 (G_isCell_ok hE rfl ?_)
  show sxWP sc cl Q 68 (4, [some (.ref 1), some (.int v1), some (.int v2)], [.int (G_isCell v1)], (cW nw kp im ol sn sr tp (mW mk mg mt mc T)), 0, 0)
  refine stp hm 1 (br hf (fun c1 hf => ?_) (fun c1 hf => ?_))
  · show sxWP sc cl Q 68 (28, [some (.ref 1), some (.int v1), some (.int v2)], [], (cW nw kp im ol sn sr tp (mW mk mg mt mc T)), 0, 0)
    exact J28 _ _ _ _ hf
  · show sxWP sc cl Q 68 (7, [some (.ref 1), some (.int v1), some (.int v2)], [], (cW nw kp im ol sn sr tp (mW mk mg mt mc T)), 0, 0)
    refine stp hm 2 (G_isCell_ok hE rfl ?_)
    show sxWP sc cl Q 68 (11, [some (.ref 1), some (.int v1), some (.int v2)], [.int (G_isCell v2)], (cW nw kp im ol sn sr tp (mW mk mg mt mc T)), 0, 0)
    refine stp hm 1 (br hf (fun c2 hf => ?_) (fun c2 hf => ?_))
    · show sxWP sc cl Q 68 (28, [some (.ref 1), some (.int v1), some (.int v2)], [], (cW nw kp im ol sn sr tp (mW mk mg mt mc T)), 0, 0)
      exact J28 _ _ _ _ hf
    · show sxWP sc cl Q 68 (14, [some (.ref 1), some (.int v1), some (.int v2)], [], (cW nw kp im ol sn sr tp (mW mk mg mt mc T)), 0, 0)
      obtain ⟨g3, hf⟩ := grd_e hf
      refine stp hm 5 (And.intro (gi_in g3) (?_ : sxWP sc cl Q 68 (21, [some (.ref 1), some (.int v1), some (.int v2)], [], (cW (nw.1, nw.2.1, upd nw.2.2.1 v1.toNatClampNeg v2, nw.2.2.2.1, nw.2.2.2.2.1, nw.2.2.2.2.2.1, nw.2.2.2.2.2.2) kp im ol sn sr tp (mW mk mg mt mc T)), 0, 0)))
      obtain ⟨g4, hf⟩ := grd_e hf
      refine stp hm 5 (And.intro (gi_in g4) (?_ : sxWP sc cl Q 68 (28, [some (.ref 1), some (.int v1), some (.int v2)], [], (cW (nw.1, nw.2.1, upd (upd nw.2.2.1 v1.toNatClampNeg v2) v2.toNatClampNeg v1, nw.2.2.2.1, nw.2.2.2.2.1, nw.2.2.2.2.2.1, nw.2.2.2.2.2.2) kp im ol sn sr tp (mW mk mg mt mc T)), 0, 0)))
      exact J28 _ _ _ _ hf

def S_layDown_j166  (v4 : Int32) (nmt_j : (Nat → Int32)) : Option ((Int32 × (Nat → Int32)) ⊕ (Nat → Int32)) := some (Sum.inl (v4 + (1:Int32), nmt_j))
def S_layDown_j133  (v3 : Int32) (v4 : Int32) (v5 : Int32) (v7 : Int32) (nmt_j : (Nat → Int32)) (nrg : Int64) (owh : (Nat → Int32)) (olo : (Nat → Int32)) (ohi : (Nat → Int32)) (ora : (Nat → Int32)) : Option ((Int32 × (Nat → Int32)) ⊕ (Nat → Int32)) := if (S_isInside v4 v7 nrg) = (0:Int32) then (S_layDown_j166 v4 nmt_j) else (Option.bind (O_isSplit v5 (v5 - (1:Int32)) v3 owh olo ohi ora) (fun q2 => if q2 = (0:Int32) then (S_layDown_j166 v4 nmt_j) else (Option.bind (S_join v4 v7 nmt_j) (fun q4 => S_layDown_j166 v4 q4))))
def S_layDown_s39  (v3 : Int32) (nrg : Int64) (owh : (Nat → Int32)) (olo : (Nat → Int32)) (ohi : (Nat → Int32)) (ora : (Nat → Int32)) (s : (Int32 × (Nat → Int32))) : Option ((Int32 × (Nat → Int32)) ⊕ (Nat → Int32)) := if (36:Int32) ≤ s.1 then (some (Sum.inr s.2)) else (if (S_isInside s.1 (G_cellAt (s.1 / (6:Int32)) ((s.1 - s.1 / (6:Int32) * (6:Int32)) + (1:Int32))) nrg) = (0:Int32) then (S_layDown_j133 v3 s.1 (G_vertexAt ((s.1 / (6:Int32)) + (1:Int32)) ((s.1 - s.1 / (6:Int32) * (6:Int32)) + (1:Int32))) (G_cellAt ((s.1 / (6:Int32)) + (1:Int32)) (s.1 - s.1 / (6:Int32) * (6:Int32))) s.2 nrg owh olo ohi ora) else (Option.bind (O_isSplit (G_vertexAt ((s.1 / (6:Int32)) + (1:Int32)) ((s.1 - s.1 / (6:Int32) * (6:Int32)) + (1:Int32))) ((G_vertexAt ((s.1 / (6:Int32)) + (1:Int32)) ((s.1 - s.1 / (6:Int32) * (6:Int32)) + (1:Int32))) - (7:Int32)) v3 owh olo ohi ora) (fun q7 => if q7 = (0:Int32) then (S_layDown_j133 v3 s.1 (G_vertexAt ((s.1 / (6:Int32)) + (1:Int32)) ((s.1 - s.1 / (6:Int32) * (6:Int32)) + (1:Int32))) (G_cellAt ((s.1 / (6:Int32)) + (1:Int32)) (s.1 - s.1 / (6:Int32) * (6:Int32))) s.2 nrg owh olo ohi ora) else (Option.bind (S_join s.1 (G_cellAt (s.1 / (6:Int32)) ((s.1 - s.1 / (6:Int32) * (6:Int32)) + (1:Int32))) s.2) (fun q9 => S_layDown_j133 v3 s.1 (G_vertexAt ((s.1 / (6:Int32)) + (1:Int32)) ((s.1 - s.1 / (6:Int32) * (6:Int32)) + (1:Int32))) (G_cellAt ((s.1 / (6:Int32)) + (1:Int32)) (s.1 - s.1 / (6:Int32) * (6:Int32))) q9 nrg owh olo ohi ora)))))
def S_layDown (v2 : Int32) (nrg : Int64) (nld : Int32) (nmt : (Nat → Int32)) (okn : Int32) (org : Int64) (osi : Int32) (oti : Int32) (ole : Int32) (oto : Int32) (oow : Int64) (oco : Int64) (ost : (Nat → Int32)) (owa : (Nat → Int32)) (owv : (Nat → Int32)) (owh : (Nat → Int32)) (olo : (Nat → Int32)) (ohi : (Nat → Int32)) (ora : (Nat → Int32)) (odi : (Nat → Int32)) (oqu : (Nat → Int32)) : Option (Int32 × Int32 × (Nat → Int32) × Int32 × Int64 × Int32 × Int32 × Int32 × Int32 × Int64 × Int64 × (Nat → Int32) × (Nat → Int32) × (Nat → Int32) × (Nat → Int32) × (Nat → Int32) × (Nat → Int32) × (Nat → Int32) × (Nat → Int32)) := Option.bind (O_look nrg okn org osi oti ole oto oow oco ost owa owv owh olo ohi ora odi oqu) (fun q1 => if q1.2.2.2.1 = (0:Int32) then (some ((0:Int32), nld, nmt, q1.1, q1.2.1, q1.2.2.1, q1.2.2.2.1, q1.2.2.2.2.1, q1.2.2.2.2.2.1, q1.2.2.2.2.2.2.1, q1.2.2.2.2.2.2.2.1, q1.2.2.2.2.2.2.2.2.1, q1.2.2.2.2.2.2.2.2.2.1, q1.2.2.2.2.2.2.2.2.2.2.1, q1.2.2.2.2.2.2.2.2.2.2.2.1, q1.2.2.2.2.2.2.2.2.2.2.2.2.1, q1.2.2.2.2.2.2.2.2.2.2.2.2.2.1, q1.2.2.2.2.2.2.2.2.2.2.2.2.2.2.1, q1.2.2.2.2.2.2.2.2.2.2.2.2.2.2.2)) else (Option.bind (J_Arrays_fillI_4 (-5:Int32) nmt) (fun q3 => Option.bind (wh (S_layDown_s39 (if v2 = (0:Int32) then (1:Int32) else (2:Int32)) nrg q1.2.2.2.2.2.2.2.2.2.2.2.1 q1.2.2.2.2.2.2.2.2.2.2.2.2.1 q1.2.2.2.2.2.2.2.2.2.2.2.2.2.1 ora) FU ((0:Int32), q3)) (fun w5 => some ((1:Int32), (1:Int32), w5, q1.1, q1.2.1, q1.2.2.1, q1.2.2.2.1, q1.2.2.2.2.1, q1.2.2.2.2.2.1, q1.2.2.2.2.2.2.1, q1.2.2.2.2.2.2.2.1, q1.2.2.2.2.2.2.2.2.1, q1.2.2.2.2.2.2.2.2.2.1, q1.2.2.2.2.2.2.2.2.2.2.1, q1.2.2.2.2.2.2.2.2.2.2.2.1, q1.2.2.2.2.2.2.2.2.2.2.2.2.1, q1.2.2.2.2.2.2.2.2.2.2.2.2.2.1, q1.2.2.2.2.2.2.2.2.2.2.2.2.2.2.1, q1.2.2.2.2.2.2.2.2.2.2.2.2.2.2.2)))))
set_option maxRecDepth 10000 in
theorem S_layDown_l39 {v3 : Int32}   (hE : cl = sxE sc (d + 4)) (hm : CallMono cl) : ∀ (n : Nat) (s : (Int32 × (Nat → Int32))) (r : (Nat → Int32)), wh (S_layDown_s39 v3 nw.1 ol.2.2.2.2.2.2.2.2.2.2.2.1 ol.2.2.2.2.2.2.2.2.2.2.2.2.1 ol.2.2.2.2.2.2.2.2.2.2.2.2.2.1 ol.2.2.2.2.2.2.2.2.2.2.2.2.2.2.1) n s = some r → (∀ (z1 z2 z3 z4 z5 z6 z7 : Option Value), sxWP sc cl Q 66 (172, [some (.ref 1), z1, z2, z3, z4, z5, z6, z7], [], (cW (nw.1, nw.2.1, r, nw.2.2.2.1, nw.2.2.2.2.1, nw.2.2.2.2.2.1, nw.2.2.2.2.2.2) kp im ol sn sr tp (mW mk mg mt mc T)), 0, 0)) → ∀ (z2 z5 z6 z7 : Option Value), sxWP sc cl Q 66 (39, [some (.ref 1), some (.ref 29), z2, some (.int v3), some (.int s.1), z5, z6, z7], [], (cW (nw.1, nw.2.1, s.2, nw.2.2.2.1, nw.2.2.2.2.1, nw.2.2.2.2.2.1, nw.2.2.2.2.2.2) kp im ol sn sr tp (mW mk mg mt mc T)), 0, 0) := by
  refine wh_run (A := fun (s : (Int32 × (Nat → Int32))) => ∀ (z2 z5 z6 z7 : Option Value), sxWP sc cl Q 66 (39, [some (.ref 1), some (.ref 29), z2, some (.int v3), some (.int s.1), z5, z6, z7], [], (cW (nw.1, nw.2.1, s.2, nw.2.2.2.1, nw.2.2.2.2.1, nw.2.2.2.2.2.1, nw.2.2.2.2.2.2) kp im ol sn sr tp (mW mk mg mt mc T)), 0, 0)) (B := fun (r : (Nat → Int32)) => ∀ (z1 z2 z3 z4 z5 z6 z7 : Option Value), sxWP sc cl Q 66 (172, [some (.ref 1), z1, z2, z3, z4, z5, z6, z7], [], (cW (nw.1, nw.2.1, r, nw.2.2.2.1, nw.2.2.2.2.1, nw.2.2.2.2.2.1, nw.2.2.2.2.2.2) kp im ol sn sr tp (mW mk mg mt mc T)), 0, 0)) (fun s x hf hA hB => ?_)
  intro z2 z5 z6 z7
  have J166 : ∀ (v4 : Int32) (nmt_j : (Nat → Int32)) (z2 : Option Value) (z5 : Option Value) (z6 : Option Value) (z7 : Option Value), S_layDown_j166 v4 nmt_j = some x → sxWP sc cl Q 66 (166, [some (.ref 1), some (.ref 29), z2, some (.int v3), some (.int v4), z5, z6, z7], [], (cW (nw.1, nw.2.1, nmt_j, nw.2.2.2.1, nw.2.2.2.2.1, nw.2.2.2.2.2.1, nw.2.2.2.2.2.2) kp im ol sn sr tp (mW mk mg mt mc T)), 0, 0) := by
    intro v4 nmt_j z2 z5 z6 z7 hf
    unfold S_layDown_j166 at hf
    obtain rfl := Option.some.inj hf
    refine stp hm 2 (?_ : sxWP sc cl Q 66 (39, [some (.ref 1), some (.ref 29), z2, some (.int v3), some (.int (v4 + (1:Int32))), z5, z6, z7], [], (cW (nw.1, nw.2.1, nmt_j, nw.2.2.2.1, nw.2.2.2.2.1, nw.2.2.2.2.2.1, nw.2.2.2.2.2.2) kp im ol sn sr tp (mW mk mg mt mc T)), 0, 0))
    exact hA _ rfl _ _ _ _
  have J133 : ∀ (v4 : Int32) (v5 : Int32) (v7 : Int32) (nmt_j : (Nat → Int32)) (z2 : Option Value) (z6 : Option Value), S_layDown_j133 v3 v4 v5 v7 nmt_j nw.1 ol.2.2.2.2.2.2.2.2.2.2.2.1 ol.2.2.2.2.2.2.2.2.2.2.2.2.1 ol.2.2.2.2.2.2.2.2.2.2.2.2.2.1 ol.2.2.2.2.2.2.2.2.2.2.2.2.2.2.1 = some x → sxWP sc cl Q 66 (133, [some (.ref 1), some (.ref 29), z2, some (.int v3), some (.int v4), some (.int v5), z6, some (.int v7)], [], (cW (nw.1, nw.2.1, nmt_j, nw.2.2.2.1, nw.2.2.2.2.1, nw.2.2.2.2.2.1, nw.2.2.2.2.2.2) kp im ol sn sr tp (mW mk mg mt mc T)), 0, 0) := by
    intro v4 v5 v7 nmt_j z2 z6 hf
    unfold S_layDown_j133 at hf
    refine stp hm 4 (S_isInside_ok hE rfl ?_)
    show sxWP sc cl Q 66 (141, [some (.ref 1), some (.ref 29), z2, some (.int v3), some (.int v4), some (.int v5), z6, some (.int v7)], [.int (S_isInside v4 v7 nw.1)], (cW (nw.1, nw.2.1, nmt_j, nw.2.2.2.1, nw.2.2.2.2.1, nw.2.2.2.2.2.1, nw.2.2.2.2.2.2) kp im ol sn sr tp (mW mk mg mt mc T)), 0, 0)
    refine stp hm 1 (br hf (fun c1 hf => ?_) (fun c1 hf => ?_))
    · show sxWP sc cl Q 66 (166, [some (.ref 1), some (.ref 29), z2, some (.int v3), some (.int v4), some (.int v5), z6, some (.int v7)], [], (cW (nw.1, nw.2.1, nmt_j, nw.2.2.2.1, nw.2.2.2.2.1, nw.2.2.2.2.2.1, nw.2.2.2.2.2.2) kp im ol sn sr tp (mW mk mg mt mc T)), 0, 0)
      exact J166 _ _ _ _ _ _ hf
    · show sxWP sc cl Q 66 (144, [some (.ref 1), some (.ref 29), z2, some (.int v3), some (.int v4), some (.int v5), z6, some (.int v7)], [], (cW (nw.1, nw.2.1, nmt_j, nw.2.2.2.1, nw.2.2.2.2.1, nw.2.2.2.2.2.1, nw.2.2.2.2.2.2) kp im ol sn sr tp (mW mk mg mt mc T)), 0, 0)
      obtain ⟨q2, hq2, hf⟩ := bnd hf
      refine stp hm 7 (O_isSplit_ok hE hq2 ?_)
      show sxWP sc cl Q 66 (155, [some (.ref 1), some (.ref 29), z2, some (.int v3), some (.int v4), some (.int v5), z6, some (.int v7)], [.int q2], (cW (nw.1, nw.2.1, nmt_j, nw.2.2.2.1, nw.2.2.2.2.1, nw.2.2.2.2.2.1, nw.2.2.2.2.2.2) kp im ol sn sr tp (mW mk mg mt mc T)), 0, 0)
      refine stp hm 1 (br hf (fun c3 hf => ?_) (fun c3 hf => ?_))
      · show sxWP sc cl Q 66 (166, [some (.ref 1), some (.ref 29), z2, some (.int v3), some (.int v4), some (.int v5), z6, some (.int v7)], [], (cW (nw.1, nw.2.1, nmt_j, nw.2.2.2.1, nw.2.2.2.2.1, nw.2.2.2.2.2.1, nw.2.2.2.2.2.2) kp im ol sn sr tp (mW mk mg mt mc T)), 0, 0)
        exact J166 _ _ _ _ _ _ hf
      · show sxWP sc cl Q 66 (158, [some (.ref 1), some (.ref 29), z2, some (.int v3), some (.int v4), some (.int v5), z6, some (.int v7)], [], (cW (nw.1, nw.2.1, nmt_j, nw.2.2.2.1, nw.2.2.2.2.1, nw.2.2.2.2.2.1, nw.2.2.2.2.2.2) kp im ol sn sr tp (mW mk mg mt mc T)), 0, 0)
        obtain ⟨q4, hq4, hf⟩ := bnd hf
        refine stp hm 4 (S_join_ok hE hq4 ?_)
        show sxWP sc cl Q 66 (166, [some (.ref 1), some (.ref 29), z2, some (.int v3), some (.int v4), some (.int v5), z6, some (.int v7)], [], (cW (nw.1, nw.2.1, q4, nw.2.2.2.1, nw.2.2.2.2.1, nw.2.2.2.2.2.1, nw.2.2.2.2.2.2) kp im ol sn sr tp (mW mk mg mt mc T)), 0, 0)
        exact J166 _ _ _ _ _ _ hf
  unfold S_layDown_s39 at hf
  refine stp hm 3 (br hf (fun c5 hf => ?_) (fun c5 hf => ?_))
  · show sxWP sc cl Q 66 (172, [some (.ref 1), some (.ref 29), z2, some (.int v3), some (.int s.1), z5, z6, z7], [], (cW (nw.1, nw.2.1, s.2, nw.2.2.2.1, nw.2.2.2.2.1, nw.2.2.2.2.2.1, nw.2.2.2.2.2.2) kp im ol sn sr tp (mW mk mg mt mc T)), 0, 0)
    obtain rfl := Option.some.inj hf
    exact hB _ rfl _ _ _ _ _ _ _
  · show sxWP sc cl Q 66 (46, [some (.ref 1), some (.ref 29), z2, some (.int v3), some (.int s.1), z5, z6, z7], [], (cW (nw.1, nw.2.1, s.2, nw.2.2.2.1, nw.2.2.2.2.1, nw.2.2.2.2.2.1, nw.2.2.2.2.2.2) kp im ol sn sr tp (mW mk mg mt mc T)), 0, 0)
    refine stp hm 3 (And.intro (by decide) (?_ : sxWP sc cl Q 66 (51, [some (.ref 1), some (.ref 29), z2, some (.int v3), some (.int s.1), z5, z6, z7], [.int (s.1 / (6:Int32))], (cW (nw.1, nw.2.1, s.2, nw.2.2.2.1, nw.2.2.2.2.1, nw.2.2.2.2.2.1, nw.2.2.2.2.2.2) kp im ol sn sr tp (mW mk mg mt mc T)), 0, 0)))
    refine stp hm 5 (And.intro (by decide) (?_ : sxWP sc cl Q 66 (58, [some (.ref 1), some (.ref 29), z2, some (.int v3), some (.int s.1), z5, z6, z7], [.int (s.1 - s.1 / (6:Int32) * (6:Int32)), .int ((s.1 / (6:Int32)) + (1:Int32))], (cW (nw.1, nw.2.1, s.2, nw.2.2.2.1, nw.2.2.2.2.1, nw.2.2.2.2.2.1, nw.2.2.2.2.2.2) kp im ol sn sr tp (mW mk mg mt mc T)), 0, 0)))
    refine stp hm 3 (G_vertexAt_ok hE rfl ?_)
    show sxWP sc cl Q 66 (63, [some (.ref 1), some (.ref 29), z2, some (.int v3), some (.int s.1), z5, z6, z7], [.int (G_vertexAt ((s.1 / (6:Int32)) + (1:Int32)) ((s.1 - s.1 / (6:Int32) * (6:Int32)) + (1:Int32)))], (cW (nw.1, nw.2.1, s.2, nw.2.2.2.1, nw.2.2.2.2.1, nw.2.2.2.2.2.1, nw.2.2.2.2.2.2) kp im ol sn sr tp (mW mk mg mt mc T)), 0, 0)
    refine stp hm 4 (And.intro (by decide) (?_ : sxWP sc cl Q 66 (70, [some (.ref 1), some (.ref 29), z2, some (.int v3), some (.int s.1), some (.int (G_vertexAt ((s.1 / (6:Int32)) + (1:Int32)) ((s.1 - s.1 / (6:Int32) * (6:Int32)) + (1:Int32)))), z6, z7], [.int (s.1 / (6:Int32))], (cW (nw.1, nw.2.1, s.2, nw.2.2.2.1, nw.2.2.2.2.1, nw.2.2.2.2.2.1, nw.2.2.2.2.2.2) kp im ol sn sr tp (mW mk mg mt mc T)), 0, 0)))
    refine stp hm 3 (And.intro (by decide) (?_ : sxWP sc cl Q 66 (75, [some (.ref 1), some (.ref 29), z2, some (.int v3), some (.int s.1), some (.int (G_vertexAt ((s.1 / (6:Int32)) + (1:Int32)) ((s.1 - s.1 / (6:Int32) * (6:Int32)) + (1:Int32)))), z6, z7], [.int (s.1 - s.1 / (6:Int32) * (6:Int32)), .int (s.1 / (6:Int32))], (cW (nw.1, nw.2.1, s.2, nw.2.2.2.1, nw.2.2.2.2.1, nw.2.2.2.2.2.1, nw.2.2.2.2.2.2) kp im ol sn sr tp (mW mk mg mt mc T)), 0, 0)))
    refine stp hm 3 (G_cellAt_ok hE rfl ?_)
    show sxWP sc cl Q 66 (80, [some (.ref 1), some (.ref 29), z2, some (.int v3), some (.int s.1), some (.int (G_vertexAt ((s.1 / (6:Int32)) + (1:Int32)) ((s.1 - s.1 / (6:Int32) * (6:Int32)) + (1:Int32)))), z6, z7], [.int (G_cellAt (s.1 / (6:Int32)) ((s.1 - s.1 / (6:Int32) * (6:Int32)) + (1:Int32)))], (cW (nw.1, nw.2.1, s.2, nw.2.2.2.1, nw.2.2.2.2.1, nw.2.2.2.2.2.1, nw.2.2.2.2.2.2) kp im ol sn sr tp (mW mk mg mt mc T)), 0, 0)
    refine stp hm 4 (And.intro (by decide) (?_ : sxWP sc cl Q 66 (87, [some (.ref 1), some (.ref 29), z2, some (.int v3), some (.int s.1), some (.int (G_vertexAt ((s.1 / (6:Int32)) + (1:Int32)) ((s.1 - s.1 / (6:Int32) * (6:Int32)) + (1:Int32)))), some (.int (G_cellAt (s.1 / (6:Int32)) ((s.1 - s.1 / (6:Int32) * (6:Int32)) + (1:Int32)))), z7], [.int (s.1 / (6:Int32))], (cW (nw.1, nw.2.1, s.2, nw.2.2.2.1, nw.2.2.2.2.1, nw.2.2.2.2.2.1, nw.2.2.2.2.2.2) kp im ol sn sr tp (mW mk mg mt mc T)), 0, 0)))
    refine stp hm 5 (And.intro (by decide) (?_ : sxWP sc cl Q 66 (94, [some (.ref 1), some (.ref 29), z2, some (.int v3), some (.int s.1), some (.int (G_vertexAt ((s.1 / (6:Int32)) + (1:Int32)) ((s.1 - s.1 / (6:Int32) * (6:Int32)) + (1:Int32)))), some (.int (G_cellAt (s.1 / (6:Int32)) ((s.1 - s.1 / (6:Int32) * (6:Int32)) + (1:Int32)))), z7], [.int (s.1 - s.1 / (6:Int32) * (6:Int32)), .int ((s.1 / (6:Int32)) + (1:Int32))], (cW (nw.1, nw.2.1, s.2, nw.2.2.2.1, nw.2.2.2.2.1, nw.2.2.2.2.2.1, nw.2.2.2.2.2.2) kp im ol sn sr tp (mW mk mg mt mc T)), 0, 0)))
    refine stp hm 1 (G_cellAt_ok hE rfl ?_)
    show sxWP sc cl Q 66 (97, [some (.ref 1), some (.ref 29), z2, some (.int v3), some (.int s.1), some (.int (G_vertexAt ((s.1 / (6:Int32)) + (1:Int32)) ((s.1 - s.1 / (6:Int32) * (6:Int32)) + (1:Int32)))), some (.int (G_cellAt (s.1 / (6:Int32)) ((s.1 - s.1 / (6:Int32) * (6:Int32)) + (1:Int32)))), z7], [.int (G_cellAt ((s.1 / (6:Int32)) + (1:Int32)) (s.1 - s.1 / (6:Int32) * (6:Int32)))], (cW (nw.1, nw.2.1, s.2, nw.2.2.2.1, nw.2.2.2.2.1, nw.2.2.2.2.2.1, nw.2.2.2.2.2.2) kp im ol sn sr tp (mW mk mg mt mc T)), 0, 0)
    refine stp hm 5 (S_isInside_ok hE rfl ?_)
    show sxWP sc cl Q 66 (107, [some (.ref 1), some (.ref 29), z2, some (.int v3), some (.int s.1), some (.int (G_vertexAt ((s.1 / (6:Int32)) + (1:Int32)) ((s.1 - s.1 / (6:Int32) * (6:Int32)) + (1:Int32)))), some (.int (G_cellAt (s.1 / (6:Int32)) ((s.1 - s.1 / (6:Int32) * (6:Int32)) + (1:Int32)))), some (.int (G_cellAt ((s.1 / (6:Int32)) + (1:Int32)) (s.1 - s.1 / (6:Int32) * (6:Int32))))], [.int (S_isInside s.1 (G_cellAt (s.1 / (6:Int32)) ((s.1 - s.1 / (6:Int32) * (6:Int32)) + (1:Int32))) nw.1)], (cW (nw.1, nw.2.1, s.2, nw.2.2.2.1, nw.2.2.2.2.1, nw.2.2.2.2.2.1, nw.2.2.2.2.2.2) kp im ol sn sr tp (mW mk mg mt mc T)), 0, 0)
    refine stp hm 1 (br hf (fun c6 hf => ?_) (fun c6 hf => ?_))
    · show sxWP sc cl Q 66 (133, [some (.ref 1), some (.ref 29), z2, some (.int v3), some (.int s.1), some (.int (G_vertexAt ((s.1 / (6:Int32)) + (1:Int32)) ((s.1 - s.1 / (6:Int32) * (6:Int32)) + (1:Int32)))), some (.int (G_cellAt (s.1 / (6:Int32)) ((s.1 - s.1 / (6:Int32) * (6:Int32)) + (1:Int32)))), some (.int (G_cellAt ((s.1 / (6:Int32)) + (1:Int32)) (s.1 - s.1 / (6:Int32) * (6:Int32))))], [], (cW (nw.1, nw.2.1, s.2, nw.2.2.2.1, nw.2.2.2.2.1, nw.2.2.2.2.2.1, nw.2.2.2.2.2.2) kp im ol sn sr tp (mW mk mg mt mc T)), 0, 0)
      exact J133 _ _ _ _ _ _ hf
    · show sxWP sc cl Q 66 (110, [some (.ref 1), some (.ref 29), z2, some (.int v3), some (.int s.1), some (.int (G_vertexAt ((s.1 / (6:Int32)) + (1:Int32)) ((s.1 - s.1 / (6:Int32) * (6:Int32)) + (1:Int32)))), some (.int (G_cellAt (s.1 / (6:Int32)) ((s.1 - s.1 / (6:Int32) * (6:Int32)) + (1:Int32)))), some (.int (G_cellAt ((s.1 / (6:Int32)) + (1:Int32)) (s.1 - s.1 / (6:Int32) * (6:Int32))))], [], (cW (nw.1, nw.2.1, s.2, nw.2.2.2.1, nw.2.2.2.2.1, nw.2.2.2.2.2.1, nw.2.2.2.2.2.2) kp im ol sn sr tp (mW mk mg mt mc T)), 0, 0)
      obtain ⟨q7, hq7, hf⟩ := bnd hf
      refine stp hm 7 (O_isSplit_ok hE hq7 ?_)
      show sxWP sc cl Q 66 (122, [some (.ref 1), some (.ref 29), z2, some (.int v3), some (.int s.1), some (.int (G_vertexAt ((s.1 / (6:Int32)) + (1:Int32)) ((s.1 - s.1 / (6:Int32) * (6:Int32)) + (1:Int32)))), some (.int (G_cellAt (s.1 / (6:Int32)) ((s.1 - s.1 / (6:Int32) * (6:Int32)) + (1:Int32)))), some (.int (G_cellAt ((s.1 / (6:Int32)) + (1:Int32)) (s.1 - s.1 / (6:Int32) * (6:Int32))))], [.int q7], (cW (nw.1, nw.2.1, s.2, nw.2.2.2.1, nw.2.2.2.2.1, nw.2.2.2.2.2.1, nw.2.2.2.2.2.2) kp im ol sn sr tp (mW mk mg mt mc T)), 0, 0)
      refine stp hm 1 (br hf (fun c8 hf => ?_) (fun c8 hf => ?_))
      · show sxWP sc cl Q 66 (133, [some (.ref 1), some (.ref 29), z2, some (.int v3), some (.int s.1), some (.int (G_vertexAt ((s.1 / (6:Int32)) + (1:Int32)) ((s.1 - s.1 / (6:Int32) * (6:Int32)) + (1:Int32)))), some (.int (G_cellAt (s.1 / (6:Int32)) ((s.1 - s.1 / (6:Int32) * (6:Int32)) + (1:Int32)))), some (.int (G_cellAt ((s.1 / (6:Int32)) + (1:Int32)) (s.1 - s.1 / (6:Int32) * (6:Int32))))], [], (cW (nw.1, nw.2.1, s.2, nw.2.2.2.1, nw.2.2.2.2.1, nw.2.2.2.2.2.1, nw.2.2.2.2.2.2) kp im ol sn sr tp (mW mk mg mt mc T)), 0, 0)
        exact J133 _ _ _ _ _ _ hf
      · show sxWP sc cl Q 66 (125, [some (.ref 1), some (.ref 29), z2, some (.int v3), some (.int s.1), some (.int (G_vertexAt ((s.1 / (6:Int32)) + (1:Int32)) ((s.1 - s.1 / (6:Int32) * (6:Int32)) + (1:Int32)))), some (.int (G_cellAt (s.1 / (6:Int32)) ((s.1 - s.1 / (6:Int32) * (6:Int32)) + (1:Int32)))), some (.int (G_cellAt ((s.1 / (6:Int32)) + (1:Int32)) (s.1 - s.1 / (6:Int32) * (6:Int32))))], [], (cW (nw.1, nw.2.1, s.2, nw.2.2.2.1, nw.2.2.2.2.1, nw.2.2.2.2.2.1, nw.2.2.2.2.2.2) kp im ol sn sr tp (mW mk mg mt mc T)), 0, 0)
        obtain ⟨q9, hq9, hf⟩ := bnd hf
        refine stp hm 4 (S_join_ok hE hq9 ?_)
        show sxWP sc cl Q 66 (133, [some (.ref 1), some (.ref 29), z2, some (.int v3), some (.int s.1), some (.int (G_vertexAt ((s.1 / (6:Int32)) + (1:Int32)) ((s.1 - s.1 / (6:Int32) * (6:Int32)) + (1:Int32)))), some (.int (G_cellAt (s.1 / (6:Int32)) ((s.1 - s.1 / (6:Int32) * (6:Int32)) + (1:Int32)))), some (.int (G_cellAt ((s.1 / (6:Int32)) + (1:Int32)) (s.1 - s.1 / (6:Int32) * (6:Int32))))], [], (cW (nw.1, nw.2.1, q9, nw.2.2.2.1, nw.2.2.2.2.1, nw.2.2.2.2.2.1, nw.2.2.2.2.2.2) kp im ol sn sr tp (mW mk mg mt mc T)), 0, 0)
        exact J133 _ _ _ _ _ _ hf
set_option maxRecDepth 10000 in
theorem S_layDown_ok {v2 : Int32} {q : (Int32 × Int32 × (Nat → Int32) × Int32 × Int64 × Int32 × Int32 × Int32 × Int32 × Int64 × Int64 × (Nat → Int32) × (Nat → Int32) × (Nat → Int32) × (Nat → Int32) × (Nat → Int32) × (Nat → Int32) × (Nat → Int32) × (Nat → Int32))} (hc : call = sxE sc (d + 5)) (hf : S_layDown v2 nw.1 nw.2.1 nw.2.2.1 ol.1 ol.2.1 ol.2.2.1 ol.2.2.2.1 ol.2.2.2.2.1 ol.2.2.2.2.2.1 ol.2.2.2.2.2.2.1 ol.2.2.2.2.2.2.2.1 ol.2.2.2.2.2.2.2.2.1 ol.2.2.2.2.2.2.2.2.2.1 ol.2.2.2.2.2.2.2.2.2.2.1 ol.2.2.2.2.2.2.2.2.2.2.2.1 ol.2.2.2.2.2.2.2.2.2.2.2.2.1 ol.2.2.2.2.2.2.2.2.2.2.2.2.2.1 ol.2.2.2.2.2.2.2.2.2.2.2.2.2.2.1 ol.2.2.2.2.2.2.2.2.2.2.2.2.2.2.2.1 ol.2.2.2.2.2.2.2.2.2.2.2.2.2.2.2.2 = some q) (h : Q (some (.int q.1)) (cW (nw.1, q.2.1, q.2.2.1, nw.2.2.2.1, nw.2.2.2.2.1, nw.2.2.2.2.2.1, nw.2.2.2.2.2.2) kp im (q.2.2.2.1, q.2.2.2.2.1, q.2.2.2.2.2.1, q.2.2.2.2.2.2.1, q.2.2.2.2.2.2.2.1, q.2.2.2.2.2.2.2.2.1, q.2.2.2.2.2.2.2.2.2.1, q.2.2.2.2.2.2.2.2.2.2.1, q.2.2.2.2.2.2.2.2.2.2.2.1, q.2.2.2.2.2.2.2.2.2.2.2.2.1, q.2.2.2.2.2.2.2.2.2.2.2.2.2.1, q.2.2.2.2.2.2.2.2.2.2.2.2.2.2.1, q.2.2.2.2.2.2.2.2.2.2.2.2.2.2.2.1, q.2.2.2.2.2.2.2.2.2.2.2.2.2.2.2.2.1, ol.2.2.2.2.2.2.2.2.2.2.2.2.2.2.1, q.2.2.2.2.2.2.2.2.2.2.2.2.2.2.2.2.2.1, q.2.2.2.2.2.2.2.2.2.2.2.2.2.2.2.2.2.2) sn sr tp (mW mk mg mt mc T))) : call 66 [.ref 1, .ref 29, .int v2] (cW nw kp im ol sn sr tp (mW mk mg mt mc T)) Q := by
  refine ent hc rfl (fun cl hE hm => ?_)
  unfold S_layDown at hf
  obtain ⟨q1, hq1, hf⟩ := bnd hf
  refine stp hm 4 (O_look_ok hE hq1 ?_)
  show sxWP sc cl Q 66 (8, [some (.ref 1), some (.ref 29), some (.int v2), none, none, none, none, none], [], (cW nw kp im (q1.1, q1.2.1, q1.2.2.1, q1.2.2.2.1, q1.2.2.2.2.1, q1.2.2.2.2.2.1, q1.2.2.2.2.2.2.1, q1.2.2.2.2.2.2.2.1, q1.2.2.2.2.2.2.2.2.1, q1.2.2.2.2.2.2.2.2.2.1, q1.2.2.2.2.2.2.2.2.2.2.1, q1.2.2.2.2.2.2.2.2.2.2.2.1, q1.2.2.2.2.2.2.2.2.2.2.2.2.1, q1.2.2.2.2.2.2.2.2.2.2.2.2.2.1, ol.2.2.2.2.2.2.2.2.2.2.2.2.2.2.1, q1.2.2.2.2.2.2.2.2.2.2.2.2.2.2.1, q1.2.2.2.2.2.2.2.2.2.2.2.2.2.2.2) sn sr tp (mW mk mg mt mc T)), 0, 0)
  refine stp hm 3 (brn hf (fun c2 hf => ?_) (fun c2 hf => ?_))
  · show sxWP sc cl Q 66 (17, [some (.ref 1), some (.ref 29), some (.int v2), none, none, none, none, none], [], (cW nw kp im (q1.1, q1.2.1, q1.2.2.1, q1.2.2.2.1, q1.2.2.2.2.1, q1.2.2.2.2.2.1, q1.2.2.2.2.2.2.1, q1.2.2.2.2.2.2.2.1, q1.2.2.2.2.2.2.2.2.1, q1.2.2.2.2.2.2.2.2.2.1, q1.2.2.2.2.2.2.2.2.2.2.1, q1.2.2.2.2.2.2.2.2.2.2.2.1, q1.2.2.2.2.2.2.2.2.2.2.2.2.1, q1.2.2.2.2.2.2.2.2.2.2.2.2.2.1, ol.2.2.2.2.2.2.2.2.2.2.2.2.2.2.1, q1.2.2.2.2.2.2.2.2.2.2.2.2.2.2.1, q1.2.2.2.2.2.2.2.2.2.2.2.2.2.2.2) sn sr tp (mW mk mg mt mc T)), 0, 0)
    obtain ⟨q3, hq3, hf⟩ := bnd hf
    refine stp hm 4 (J_Arrays_fillI_4_ok hE hq3 ?_)
    show sxWP sc cl Q 66 (26, [some (.ref 1), some (.ref 29), some (.int v2), none, none, none, none, none], [], (cW (nw.1, nw.2.1, q3, nw.2.2.2.1, nw.2.2.2.2.1, nw.2.2.2.2.2.1, nw.2.2.2.2.2.2) kp im (q1.1, q1.2.1, q1.2.2.1, q1.2.2.2.1, q1.2.2.2.2.1, q1.2.2.2.2.2.1, q1.2.2.2.2.2.2.1, q1.2.2.2.2.2.2.2.1, q1.2.2.2.2.2.2.2.2.1, q1.2.2.2.2.2.2.2.2.2.1, q1.2.2.2.2.2.2.2.2.2.2.1, q1.2.2.2.2.2.2.2.2.2.2.2.1, q1.2.2.2.2.2.2.2.2.2.2.2.2.1, q1.2.2.2.2.2.2.2.2.2.2.2.2.2.1, ol.2.2.2.2.2.2.2.2.2.2.2.2.2.2.1, q1.2.2.2.2.2.2.2.2.2.2.2.2.2.2.1, q1.2.2.2.2.2.2.2.2.2.2.2.2.2.2.2) sn sr tp (mW mk mg mt mc T)), 0, 0)
    have m4 : ∀ (m4_0 : Int32), m4_0 = (if v2 = (0:Int32) then (1:Int32) else (2:Int32)) → sxWP sc cl Q 66 (35, [some (.ref 1), some (.ref 29), some (.int v2), none, none, none, none, none], [.int m4_0], (cW (nw.1, nw.2.1, q3, nw.2.2.2.1, nw.2.2.2.2.1, nw.2.2.2.2.2.1, nw.2.2.2.2.2.2) kp im (q1.1, q1.2.1, q1.2.2.1, q1.2.2.2.1, q1.2.2.2.2.1, q1.2.2.2.2.2.1, q1.2.2.2.2.2.2.1, q1.2.2.2.2.2.2.2.1, q1.2.2.2.2.2.2.2.2.1, q1.2.2.2.2.2.2.2.2.2.1, q1.2.2.2.2.2.2.2.2.2.2.1, q1.2.2.2.2.2.2.2.2.2.2.2.1, q1.2.2.2.2.2.2.2.2.2.2.2.2.1, q1.2.2.2.2.2.2.2.2.2.2.2.2.2.1, ol.2.2.2.2.2.2.2.2.2.2.2.2.2.2.1, q1.2.2.2.2.2.2.2.2.2.2.2.2.2.2.1, q1.2.2.2.2.2.2.2.2.2.2.2.2.2.2.2) sn sr tp (mW mk mg mt mc T)), 0, 0) := by
      intro m4_0 em4_0
      subst em4_0
      obtain ⟨w5, hw5, hf⟩ := bnd hf
      refine stp hm 3 (?_ : sxWP sc cl Q 66 (39, [some (.ref 1), some (.ref 29), some (.int v2), some (.int (if v2 = (0:Int32) then (1:Int32) else (2:Int32))), some (.int (0:Int32)), none, none, none], [], (cW (nw.1, nw.2.1, q3, nw.2.2.2.1, nw.2.2.2.2.1, nw.2.2.2.2.2.1, nw.2.2.2.2.2.2) kp im (q1.1, q1.2.1, q1.2.2.1, q1.2.2.2.1, q1.2.2.2.2.1, q1.2.2.2.2.2.1, q1.2.2.2.2.2.2.1, q1.2.2.2.2.2.2.2.1, q1.2.2.2.2.2.2.2.2.1, q1.2.2.2.2.2.2.2.2.2.1, q1.2.2.2.2.2.2.2.2.2.2.1, q1.2.2.2.2.2.2.2.2.2.2.2.1, q1.2.2.2.2.2.2.2.2.2.2.2.2.1, q1.2.2.2.2.2.2.2.2.2.2.2.2.2.1, ol.2.2.2.2.2.2.2.2.2.2.2.2.2.2.1, q1.2.2.2.2.2.2.2.2.2.2.2.2.2.2.1, q1.2.2.2.2.2.2.2.2.2.2.2.2.2.2.2) sn sr tp (mW mk mg mt mc T)), 0, 0))
      refine S_layDown_l39 hE hm _ _ _ hw5 ?_ _ _ _ _
      intro w5_z1 w5_z2 w5_z3 w5_z4 w5_z5 w5_z6 w5_z7
      show sxWP sc cl Q 66 (172, [some (.ref 1), w5_z1, w5_z2, w5_z3, w5_z4, w5_z5, w5_z6, w5_z7], [], (cW (nw.1, nw.2.1, w5, nw.2.2.2.1, nw.2.2.2.2.1, nw.2.2.2.2.2.1, nw.2.2.2.2.2.2) kp im (q1.1, q1.2.1, q1.2.2.1, q1.2.2.2.1, q1.2.2.2.2.1, q1.2.2.2.2.2.1, q1.2.2.2.2.2.2.1, q1.2.2.2.2.2.2.2.1, q1.2.2.2.2.2.2.2.2.1, q1.2.2.2.2.2.2.2.2.2.1, q1.2.2.2.2.2.2.2.2.2.2.1, q1.2.2.2.2.2.2.2.2.2.2.2.1, q1.2.2.2.2.2.2.2.2.2.2.2.2.1, q1.2.2.2.2.2.2.2.2.2.2.2.2.2.1, ol.2.2.2.2.2.2.2.2.2.2.2.2.2.2.1, q1.2.2.2.2.2.2.2.2.2.2.2.2.2.2.1, q1.2.2.2.2.2.2.2.2.2.2.2.2.2.2.2) sn sr tp (mW mk mg mt mc T)), 0, 0)
      refine stp hm 3 (And.intro (Or.inr rfl) (?_ : sxWP sc cl Q 66 (177, [some (.ref 1), w5_z1, w5_z2, w5_z3, w5_z4, w5_z5, w5_z6, w5_z7], [], (cW (nw.1, (1:Int32), w5, nw.2.2.2.1, nw.2.2.2.2.1, nw.2.2.2.2.2.1, nw.2.2.2.2.2.2) kp im (q1.1, q1.2.1, q1.2.2.1, q1.2.2.2.1, q1.2.2.2.2.1, q1.2.2.2.2.2.1, q1.2.2.2.2.2.2.1, q1.2.2.2.2.2.2.2.1, q1.2.2.2.2.2.2.2.2.1, q1.2.2.2.2.2.2.2.2.2.1, q1.2.2.2.2.2.2.2.2.2.2.1, q1.2.2.2.2.2.2.2.2.2.2.2.1, q1.2.2.2.2.2.2.2.2.2.2.2.2.1, q1.2.2.2.2.2.2.2.2.2.2.2.2.2.1, ol.2.2.2.2.2.2.2.2.2.2.2.2.2.2.1, q1.2.2.2.2.2.2.2.2.2.2.2.2.2.2.1, q1.2.2.2.2.2.2.2.2.2.2.2.2.2.2.2) sn sr tp (mW mk mg mt mc T)), 0, 0)))
      obtain rfl := Option.some.inj hf
      refine stp hm 2 (And.intro (Or.inr rfl) ?_)
      exact h
    refine stp hm 2 (bs (c := v2 = (0:Int32)) (fun c6 => ?_) (fun c6 => ?_))
    · have c6 : v2 = (0:Int32) := c6
      refine stp hm 1 (?_ : sxWP sc cl Q 66 (35, [some (.ref 1), some (.ref 29), some (.int v2), none, none, none, none, none], [.int (1:Int32)], (cW (nw.1, nw.2.1, q3, nw.2.2.2.1, nw.2.2.2.2.1, nw.2.2.2.2.2.1, nw.2.2.2.2.2.2) kp im (q1.1, q1.2.1, q1.2.2.1, q1.2.2.2.1, q1.2.2.2.2.1, q1.2.2.2.2.2.1, q1.2.2.2.2.2.2.1, q1.2.2.2.2.2.2.2.1, q1.2.2.2.2.2.2.2.2.1, q1.2.2.2.2.2.2.2.2.2.1, q1.2.2.2.2.2.2.2.2.2.2.1, q1.2.2.2.2.2.2.2.2.2.2.2.1, q1.2.2.2.2.2.2.2.2.2.2.2.2.1, q1.2.2.2.2.2.2.2.2.2.2.2.2.2.1, ol.2.2.2.2.2.2.2.2.2.2.2.2.2.2.1, q1.2.2.2.2.2.2.2.2.2.2.2.2.2.2.1, q1.2.2.2.2.2.2.2.2.2.2.2.2.2.2.2) sn sr tp (mW mk mg mt mc T)), 0, 0))
      exact m4 _ (by rw [if_pos c6])
    · have c6 : ¬ v2 = (0:Int32) := c6
      refine stp hm 2 (?_ : sxWP sc cl Q 66 (35, [some (.ref 1), some (.ref 29), some (.int v2), none, none, none, none, none], [.int (2:Int32)], (cW (nw.1, nw.2.1, q3, nw.2.2.2.1, nw.2.2.2.2.1, nw.2.2.2.2.2.1, nw.2.2.2.2.2.2) kp im (q1.1, q1.2.1, q1.2.2.1, q1.2.2.2.1, q1.2.2.2.2.1, q1.2.2.2.2.2.1, q1.2.2.2.2.2.2.1, q1.2.2.2.2.2.2.2.1, q1.2.2.2.2.2.2.2.2.1, q1.2.2.2.2.2.2.2.2.2.1, q1.2.2.2.2.2.2.2.2.2.2.1, q1.2.2.2.2.2.2.2.2.2.2.2.1, q1.2.2.2.2.2.2.2.2.2.2.2.2.1, q1.2.2.2.2.2.2.2.2.2.2.2.2.2.1, ol.2.2.2.2.2.2.2.2.2.2.2.2.2.2.1, q1.2.2.2.2.2.2.2.2.2.2.2.2.2.2.1, q1.2.2.2.2.2.2.2.2.2.2.2.2.2.2.2) sn sr tp (mW mk mg mt mc T)), 0, 0))
      exact m4 _ (by rw [if_neg c6])
  · show sxWP sc cl Q 66 (15, [some (.ref 1), some (.ref 29), some (.int v2), none, none, none, none, none], [], (cW nw kp im (q1.1, q1.2.1, q1.2.2.1, q1.2.2.2.1, q1.2.2.2.2.1, q1.2.2.2.2.2.1, q1.2.2.2.2.2.2.1, q1.2.2.2.2.2.2.2.1, q1.2.2.2.2.2.2.2.2.1, q1.2.2.2.2.2.2.2.2.2.1, q1.2.2.2.2.2.2.2.2.2.2.1, q1.2.2.2.2.2.2.2.2.2.2.2.1, q1.2.2.2.2.2.2.2.2.2.2.2.2.1, q1.2.2.2.2.2.2.2.2.2.2.2.2.2.1, ol.2.2.2.2.2.2.2.2.2.2.2.2.2.2.1, q1.2.2.2.2.2.2.2.2.2.2.2.2.2.2.1, q1.2.2.2.2.2.2.2.2.2.2.2.2.2.2.2) sn sr tp (mW mk mg mt mc T)), 0, 0)
    obtain rfl := Option.some.inj hf
    refine stp hm 2 (And.intro (Or.inl rfl) ?_)
    exact h

def S_areTwo_j36  (k0 : Int32) : Option Int32 := grd (zb k0) (some k0)
def S_areTwo_j35   : Option Int32 := S_areTwo_j36 (0:Int32)
def S_areTwo (v1 : Int32) (v2 : Int32) (nld : Int32) (nmt : (Nat → Int32)) : Option Int32 := if nld = (0:Int32) then S_areTwo_j35 else (if (G_isCell v1) = (0:Int32) then S_areTwo_j35 else (if (G_isCell v2) = (0:Int32) then S_areTwo_j35 else (grd (gi v1 36) (some (if (nmt v1.toNatClampNeg) = v2 then (1:Int32) else (0:Int32))))))
set_option maxRecDepth 10000 in
theorem S_areTwo_ok {v1 : Int32} {v2 : Int32} {q : Int32} (hc : call = sxE sc (d + 2)) (hf : S_areTwo v1 v2 nw.2.1 nw.2.2.1 = some q) (h : Q (some (.int q)) (cW nw kp im ol sn sr tp (mW mk mg mt mc T))) : call 65 [.ref 1, .int v1, .int v2] (cW nw kp im ol sn sr tp (mW mk mg mt mc T)) Q := by
  refine ent hc rfl (fun cl hE hm => ?_)
  have J36 : ∀ (k0 : Int32) (z0 : Option Value) (z1 : Option Value) (z2 : Option Value), S_areTwo_j36 k0 = some q → sxWP sc cl Q 65 (36, [z0, z1, z2], [.int k0], (cW nw kp im ol sn sr tp (mW mk mg mt mc T)), 0, 0) := by
    intro k0 z0 z1 z2 hf
    unfold S_areTwo_j36 at hf
    obtain ⟨g0, hf⟩ := grd_e hf
    obtain rfl := Option.some.inj hf
    refine stp hm 1 (And.intro (zb_e g0) ?_)
    exact h
  have J35 : ∀  (z0 : Option Value) (z1 : Option Value) (z2 : Option Value), S_areTwo_j35 = some q → sxWP sc cl Q 65 (35, [z0, z1, z2], [], (cW nw kp im ol sn sr tp (mW mk mg mt mc T)), 0, 0) := by
    intro z0 z1 z2 hf
    unfold S_areTwo_j35 at hf
    refine stp hm 1 (?_ : sxWP sc cl Q 65 (36, [z0, z1, z2], [.int (0:Int32)], (cW nw kp im ol sn sr tp (mW mk mg mt mc T)), 0, 0))
    exact J36 _ _ _ _ hf
  unfold S_areTwo at hf
  refine stp hm 3 (br hf (fun c1 hf => ?_) (fun c1 hf => ?_))
  · show sxWP sc cl Q 65 (35, [some (.ref 1), some (.int v1), some (.int v2)], [], (cW nw kp im ol sn sr tp (mW mk mg mt mc T)), 0, 0)
    exact J35 _ _ _ hf
  · show sxWP sc cl Q 65 (7, [some (.ref 1), some (.int v1), some (.int v2)], [], (cW nw kp im ol sn sr tp (mW mk mg mt mc T)), 0, 0)
    refine stp hm 2 (G_isCell_ok hE rfl ?_)
    show sxWP sc cl Q 65 (11, [some (.ref 1), some (.int v1), some (.int v2)], [.int (G_isCell v1)], (cW nw kp im ol sn sr tp (mW mk mg mt mc T)), 0, 0)
    refine stp hm 1 (br hf (fun c2 hf => ?_) (fun c2 hf => ?_))
    · show sxWP sc cl Q 65 (35, [some (.ref 1), some (.int v1), some (.int v2)], [], (cW nw kp im ol sn sr tp (mW mk mg mt mc T)), 0, 0)
      exact J35 _ _ _ hf
    · show sxWP sc cl Q 65 (14, [some (.ref 1), some (.int v1), some (.int v2)], [], (cW nw kp im ol sn sr tp (mW mk mg mt mc T)), 0, 0)
      refine stp hm 2 (G_isCell_ok hE rfl ?_)
      show sxWP sc cl Q 65 (18, [some (.ref 1), some (.int v1), some (.int v2)], [.int (G_isCell v2)], (cW nw kp im ol sn sr tp (mW mk mg mt mc T)), 0, 0)
      refine stp hm 1 (br hf (fun c3 hf => ?_) (fun c3 hf => ?_))
      · show sxWP sc cl Q 65 (35, [some (.ref 1), some (.int v1), some (.int v2)], [], (cW nw kp im ol sn sr tp (mW mk mg mt mc T)), 0, 0)
        exact J35 _ _ _ hf
      · show sxWP sc cl Q 65 (21, [some (.ref 1), some (.int v1), some (.int v2)], [], (cW nw kp im ol sn sr tp (mW mk mg mt mc T)), 0, 0)
        obtain ⟨g4, hf⟩ := grd_e hf
        refine stp hm 4 (And.intro (gi_in g4) (?_ : sxWP sc cl Q 65 (27, [some (.ref 1), some (.int v1), some (.int v2)], [.int (nw.2.2.1 v1.toNatClampNeg)], (cW nw kp im ol sn sr tp (mW mk mg mt mc T)), 0, 0)))
        have m5 : ∀ (m5_0 : Int32), m5_0 = (if (nw.2.2.1 v1.toNatClampNeg) = v2 then (1:Int32) else (0:Int32)) → sxWP sc cl Q 65 (36, [some (.ref 1), some (.int v1), some (.int v2)], [.int m5_0], (cW nw kp im ol sn sr tp (mW mk mg mt mc T)), 0, 0) := by
          intro m5_0 em5_0
          subst em5_0
          obtain rfl := Option.some.inj hf
          refine stp hm 1 (And.intro (by (repeat' split) <;> first | exact Or.inl rfl | exact Or.inr rfl) ?_)
          exact h
        refine stp hm 2 (bsn (c := (nw.2.2.1 v1.toNatClampNeg) = v2) (fun c6 => ?_) (fun c6 => ?_))
        · have c6 : ¬ (nw.2.2.1 v1.toNatClampNeg) = v2 := c6
          refine stp hm 1 (?_ : sxWP sc cl Q 65 (36, [some (.ref 1), some (.int v1), some (.int v2)], [.int (0:Int32)], (cW nw kp im ol sn sr tp (mW mk mg mt mc T)), 0, 0))
          exact m5 _ (by rw [if_neg c6])
        · have c6 : (nw.2.2.1 v1.toNatClampNeg) = v2 := c6
          refine stp hm 2 (?_ : sxWP sc cl Q 65 (36, [some (.ref 1), some (.int v1), some (.int v2)], [.int (1:Int32)], (cW nw kp im ol sn sr tp (mW mk mg mt mc T)), 0, 0))
          exact m5 _ (by rw [if_pos c6])

def O_raiseBehind_j130  (v5 : Int64) (v7 : Int32) (ora_j : (Nat → Int32)) : Option ((Int64 × Int32 × (Nat → Int32)) ⊕ (Int64 × (Nat → Int32))) := some (Sum.inl (v5, v7 + (1:Int32), ora_j))
def O_raiseBehind_s16  (v1 : Int32) (v2 : Int64) (nld : Int32) (nmt : (Nat → Int32)) (ost : (Nat → Int32)) (s : (Int64 × Int32 × (Nat → Int32))) : Option ((Int64 × Int32 × (Nat → Int32)) ⊕ (Int64 × (Nat → Int32))) := if (4:Int32) ≤ s.2.1 then (some (Sum.inr (s.1, s.2.2))) else (grd (gi v1 49) (if (if (O_isAmong (ost v1.toNatClampNeg) s.2.1 (0:Int32)) = (0:Int32) then (0:Int32) else (if (G_isVertex (v1 + (G_stride s.2.1))) = (0:Int32) then (0:Int32) else (1:Int32))) = (0:Int32) then (O_raiseBehind_j130 s.1 s.2.1 s.2.2) else (if (((v2.toUInt64 >>> ((v1 + (G_stride s.2.1)).toInt64.toUInt64 &&& Int64.toUInt64 63)).toInt64) &&& (1:Int64)) = (0:Int64) then (Option.bind (S_areTwo (G_leftOf v1 s.2.1) (G_rightOf v1 s.2.1) nld nmt) (fun q6 => grd (gi v1 49) (grd (gi (v1 + (G_stride s.2.1)) 49) (O_raiseBehind_j130 (s.1 ||| ((1:Int64) <<< ((v1 + (G_stride s.2.1)).toInt64 &&& 63))) s.2.1 (upd s.2.2 (v1 + (G_stride s.2.1)).toNatClampNeg ((s.2.2 v1.toNatClampNeg) + (if q6 = (0:Int32) then (1:Int32) else (-3:Int32)))))))) else (O_raiseBehind_j130 s.1 s.2.1 s.2.2))))
def O_raiseBehind (v1 : Int32) (v2 : Int64) (nld : Int32) (nmt : (Nat → Int32)) (ost : (Nat → Int32)) (ora : (Nat → Int32)) : Option (Int64 × (Nat → Int32)) := if (G_isVertex v1) = (0:Int32) then (some ((0:Int64), ora)) else (Option.bind (wh (O_raiseBehind_s16 v1 v2 nld nmt ost) FU ((0:Int64), (0:Int32), ora)) (fun w2 => some (w2.1, w2.2)))
set_option maxRecDepth 10000 in
theorem O_raiseBehind_l16 {v1 : Int32} {v2 : Int64}   (hE : cl = sxE sc (d + 2)) (hm : CallMono cl) : ∀ (n : Nat) (s : (Int64 × Int32 × (Nat → Int32))) (r : (Int64 × (Nat → Int32))), wh (O_raiseBehind_s16 v1 v2 nw.2.1 nw.2.2.1 ol.2.2.2.2.2.2.2.2.1) n s = some r → (∀ (z0 z1 z2 z3 z4 z7 z8 z9 z10 : Option Value), sxWP sc cl Q 34 (136, [z0, z1, z2, z3, z4, some (.long r.1), none, z7, z8, z9, z10], [], (cW nw kp im (ol.1, ol.2.1, ol.2.2.1, ol.2.2.2.1, ol.2.2.2.2.1, ol.2.2.2.2.2.1, ol.2.2.2.2.2.2.1, ol.2.2.2.2.2.2.2.1, ol.2.2.2.2.2.2.2.2.1, ol.2.2.2.2.2.2.2.2.2.1, ol.2.2.2.2.2.2.2.2.2.2.1, ol.2.2.2.2.2.2.2.2.2.2.2.1, ol.2.2.2.2.2.2.2.2.2.2.2.2.1, ol.2.2.2.2.2.2.2.2.2.2.2.2.2.1, r.2, ol.2.2.2.2.2.2.2.2.2.2.2.2.2.2.2.1, ol.2.2.2.2.2.2.2.2.2.2.2.2.2.2.2.2) sn sr tp (mW mk mg mt mc T)), 0, 0)) → ∀ (z8 z9 z10 : Option Value), sxWP sc cl Q 34 (16, [some (.ref 29), some (.int v1), some (.long v2), none, some (.ref 1), some (.long s.1), none, some (.int s.2.1), z8, z9, z10], [], (cW nw kp im (ol.1, ol.2.1, ol.2.2.1, ol.2.2.2.1, ol.2.2.2.2.1, ol.2.2.2.2.2.1, ol.2.2.2.2.2.2.1, ol.2.2.2.2.2.2.2.1, ol.2.2.2.2.2.2.2.2.1, ol.2.2.2.2.2.2.2.2.2.1, ol.2.2.2.2.2.2.2.2.2.2.1, ol.2.2.2.2.2.2.2.2.2.2.2.1, ol.2.2.2.2.2.2.2.2.2.2.2.2.1, ol.2.2.2.2.2.2.2.2.2.2.2.2.2.1, s.2.2, ol.2.2.2.2.2.2.2.2.2.2.2.2.2.2.2.1, ol.2.2.2.2.2.2.2.2.2.2.2.2.2.2.2.2) sn sr tp (mW mk mg mt mc T)), 0, 0) := by
  refine wh_run (A := fun (s : (Int64 × Int32 × (Nat → Int32))) => ∀ (z8 z9 z10 : Option Value), sxWP sc cl Q 34 (16, [some (.ref 29), some (.int v1), some (.long v2), none, some (.ref 1), some (.long s.1), none, some (.int s.2.1), z8, z9, z10], [], (cW nw kp im (ol.1, ol.2.1, ol.2.2.1, ol.2.2.2.1, ol.2.2.2.2.1, ol.2.2.2.2.2.1, ol.2.2.2.2.2.2.1, ol.2.2.2.2.2.2.2.1, ol.2.2.2.2.2.2.2.2.1, ol.2.2.2.2.2.2.2.2.2.1, ol.2.2.2.2.2.2.2.2.2.2.1, ol.2.2.2.2.2.2.2.2.2.2.2.1, ol.2.2.2.2.2.2.2.2.2.2.2.2.1, ol.2.2.2.2.2.2.2.2.2.2.2.2.2.1, s.2.2, ol.2.2.2.2.2.2.2.2.2.2.2.2.2.2.2.1, ol.2.2.2.2.2.2.2.2.2.2.2.2.2.2.2.2) sn sr tp (mW mk mg mt mc T)), 0, 0)) (B := fun (r : (Int64 × (Nat → Int32))) => ∀ (z0 z1 z2 z3 z4 z7 z8 z9 z10 : Option Value), sxWP sc cl Q 34 (136, [z0, z1, z2, z3, z4, some (.long r.1), none, z7, z8, z9, z10], [], (cW nw kp im (ol.1, ol.2.1, ol.2.2.1, ol.2.2.2.1, ol.2.2.2.2.1, ol.2.2.2.2.2.1, ol.2.2.2.2.2.2.1, ol.2.2.2.2.2.2.2.1, ol.2.2.2.2.2.2.2.2.1, ol.2.2.2.2.2.2.2.2.2.1, ol.2.2.2.2.2.2.2.2.2.2.1, ol.2.2.2.2.2.2.2.2.2.2.2.1, ol.2.2.2.2.2.2.2.2.2.2.2.2.1, ol.2.2.2.2.2.2.2.2.2.2.2.2.2.1, r.2, ol.2.2.2.2.2.2.2.2.2.2.2.2.2.2.2.1, ol.2.2.2.2.2.2.2.2.2.2.2.2.2.2.2.2) sn sr tp (mW mk mg mt mc T)), 0, 0)) (fun s x hf hA hB => ?_)
  intro z8 z9 z10
  have J130 : ∀ (v5 : Int64) (v7 : Int32) (ora_j : (Nat → Int32)) (z8 : Option Value) (z9 : Option Value) (z10 : Option Value), O_raiseBehind_j130 v5 v7 ora_j = some x → sxWP sc cl Q 34 (130, [some (.ref 29), some (.int v1), some (.long v2), none, some (.ref 1), some (.long v5), none, some (.int v7), z8, z9, z10], [], (cW nw kp im (ol.1, ol.2.1, ol.2.2.1, ol.2.2.2.1, ol.2.2.2.2.1, ol.2.2.2.2.2.1, ol.2.2.2.2.2.2.1, ol.2.2.2.2.2.2.2.1, ol.2.2.2.2.2.2.2.2.1, ol.2.2.2.2.2.2.2.2.2.1, ol.2.2.2.2.2.2.2.2.2.2.1, ol.2.2.2.2.2.2.2.2.2.2.2.1, ol.2.2.2.2.2.2.2.2.2.2.2.2.1, ol.2.2.2.2.2.2.2.2.2.2.2.2.2.1, ora_j, ol.2.2.2.2.2.2.2.2.2.2.2.2.2.2.2.1, ol.2.2.2.2.2.2.2.2.2.2.2.2.2.2.2.2) sn sr tp (mW mk mg mt mc T)), 0, 0) := by
    intro v5 v7 ora_j z8 z9 z10 hf
    unfold O_raiseBehind_j130 at hf
    obtain rfl := Option.some.inj hf
    refine stp hm 2 (?_ : sxWP sc cl Q 34 (16, [some (.ref 29), some (.int v1), some (.long v2), none, some (.ref 1), some (.long v5), none, some (.int (v7 + (1:Int32))), z8, z9, z10], [], (cW nw kp im (ol.1, ol.2.1, ol.2.2.1, ol.2.2.2.1, ol.2.2.2.2.1, ol.2.2.2.2.2.1, ol.2.2.2.2.2.2.1, ol.2.2.2.2.2.2.2.1, ol.2.2.2.2.2.2.2.2.1, ol.2.2.2.2.2.2.2.2.2.1, ol.2.2.2.2.2.2.2.2.2.2.1, ol.2.2.2.2.2.2.2.2.2.2.2.1, ol.2.2.2.2.2.2.2.2.2.2.2.2.1, ol.2.2.2.2.2.2.2.2.2.2.2.2.2.1, ora_j, ol.2.2.2.2.2.2.2.2.2.2.2.2.2.2.2.1, ol.2.2.2.2.2.2.2.2.2.2.2.2.2.2.2.2) sn sr tp (mW mk mg mt mc T)), 0, 0))
    exact hA _ rfl _ _ _
  unfold O_raiseBehind_s16 at hf
  refine stp hm 3 (br hf (fun c1 hf => ?_) (fun c1 hf => ?_))
  · show sxWP sc cl Q 34 (136, [some (.ref 29), some (.int v1), some (.long v2), none, some (.ref 1), some (.long s.1), none, some (.int s.2.1), z8, z9, z10], [], (cW nw kp im (ol.1, ol.2.1, ol.2.2.1, ol.2.2.2.1, ol.2.2.2.2.1, ol.2.2.2.2.2.1, ol.2.2.2.2.2.2.1, ol.2.2.2.2.2.2.2.1, ol.2.2.2.2.2.2.2.2.1, ol.2.2.2.2.2.2.2.2.2.1, ol.2.2.2.2.2.2.2.2.2.2.1, ol.2.2.2.2.2.2.2.2.2.2.2.1, ol.2.2.2.2.2.2.2.2.2.2.2.2.1, ol.2.2.2.2.2.2.2.2.2.2.2.2.2.1, s.2.2, ol.2.2.2.2.2.2.2.2.2.2.2.2.2.2.2.1, ol.2.2.2.2.2.2.2.2.2.2.2.2.2.2.2.2) sn sr tp (mW mk mg mt mc T)), 0, 0)
    obtain rfl := Option.some.inj hf
    exact hB _ rfl _ _ _ _ _ _ _ _ _
  · show sxWP sc cl Q 34 (22, [some (.ref 29), some (.int v1), some (.long v2), none, some (.ref 1), some (.long s.1), none, some (.int s.2.1), z8, z9, z10], [], (cW nw kp im (ol.1, ol.2.1, ol.2.2.1, ol.2.2.2.1, ol.2.2.2.2.1, ol.2.2.2.2.2.1, ol.2.2.2.2.2.2.1, ol.2.2.2.2.2.2.2.1, ol.2.2.2.2.2.2.2.2.1, ol.2.2.2.2.2.2.2.2.2.1, ol.2.2.2.2.2.2.2.2.2.2.1, ol.2.2.2.2.2.2.2.2.2.2.2.1, ol.2.2.2.2.2.2.2.2.2.2.2.2.1, ol.2.2.2.2.2.2.2.2.2.2.2.2.2.1, s.2.2, ol.2.2.2.2.2.2.2.2.2.2.2.2.2.2.2.1, ol.2.2.2.2.2.2.2.2.2.2.2.2.2.2.2.2) sn sr tp (mW mk mg mt mc T)), 0, 0)
    refine stp hm 3 (G_stride_ok hE rfl ?_)
    show sxWP sc cl Q 34 (28, [some (.ref 29), some (.int v1), some (.long v2), none, some (.ref 1), some (.long s.1), none, some (.int s.2.1), z8, z9, z10], [.int (G_stride s.2.1), .int v1], (cW nw kp im (ol.1, ol.2.1, ol.2.2.1, ol.2.2.2.1, ol.2.2.2.2.1, ol.2.2.2.2.2.1, ol.2.2.2.2.2.2.1, ol.2.2.2.2.2.2.2.1, ol.2.2.2.2.2.2.2.2.1, ol.2.2.2.2.2.2.2.2.2.1, ol.2.2.2.2.2.2.2.2.2.2.1, ol.2.2.2.2.2.2.2.2.2.2.2.1, ol.2.2.2.2.2.2.2.2.2.2.2.2.1, ol.2.2.2.2.2.2.2.2.2.2.2.2.2.1, s.2.2, ol.2.2.2.2.2.2.2.2.2.2.2.2.2.2.2.1, ol.2.2.2.2.2.2.2.2.2.2.2.2.2.2.2.2) sn sr tp (mW mk mg mt mc T)), 0, 0)
    obtain ⟨g2, hf⟩ := grd_e hf
    refine stp hm 6 (And.intro (gi_in g2) (?_ : sxWP sc cl Q 34 (37, [some (.ref 29), some (.int v1), some (.long v2), none, some (.ref 1), some (.long s.1), none, some (.int s.2.1), some (.int (v1 + (G_stride s.2.1))), z9, z10], [.int (ol.2.2.2.2.2.2.2.2.1 v1.toNatClampNeg)], (cW nw kp im (ol.1, ol.2.1, ol.2.2.1, ol.2.2.2.1, ol.2.2.2.2.1, ol.2.2.2.2.2.1, ol.2.2.2.2.2.2.1, ol.2.2.2.2.2.2.2.1, ol.2.2.2.2.2.2.2.2.1, ol.2.2.2.2.2.2.2.2.2.1, ol.2.2.2.2.2.2.2.2.2.2.1, ol.2.2.2.2.2.2.2.2.2.2.2.1, ol.2.2.2.2.2.2.2.2.2.2.2.2.1, ol.2.2.2.2.2.2.2.2.2.2.2.2.2.1, s.2.2, ol.2.2.2.2.2.2.2.2.2.2.2.2.2.2.2.1, ol.2.2.2.2.2.2.2.2.2.2.2.2.2.2.2.2) sn sr tp (mW mk mg mt mc T)), 0, 0)))
    refine stp hm 3 (O_isAmong_ok hE rfl ?_)
    show sxWP sc cl Q 34 (43, [some (.ref 29), some (.int v1), some (.long v2), none, some (.ref 1), some (.long s.1), none, some (.int s.2.1), some (.int (v1 + (G_stride s.2.1))), z9, z10], [.int (O_isAmong (ol.2.2.2.2.2.2.2.2.1 v1.toNatClampNeg) s.2.1 (0:Int32))], (cW nw kp im (ol.1, ol.2.1, ol.2.2.1, ol.2.2.2.1, ol.2.2.2.2.1, ol.2.2.2.2.2.1, ol.2.2.2.2.2.2.1, ol.2.2.2.2.2.2.2.1, ol.2.2.2.2.2.2.2.2.1, ol.2.2.2.2.2.2.2.2.2.1, ol.2.2.2.2.2.2.2.2.2.2.1, ol.2.2.2.2.2.2.2.2.2.2.2.1, ol.2.2.2.2.2.2.2.2.2.2.2.2.1, ol.2.2.2.2.2.2.2.2.2.2.2.2.2.1, s.2.2, ol.2.2.2.2.2.2.2.2.2.2.2.2.2.2.2.1, ol.2.2.2.2.2.2.2.2.2.2.2.2.2.2.2.2) sn sr tp (mW mk mg mt mc T)), 0, 0)
    have m3 : ∀ (m3_0 : Int32), m3_0 = (if (O_isAmong (ol.2.2.2.2.2.2.2.2.1 v1.toNatClampNeg) s.2.1 (0:Int32)) = (0:Int32) then (0:Int32) else (if (G_isVertex (v1 + (G_stride s.2.1))) = (0:Int32) then (0:Int32) else (1:Int32))) → sxWP sc cl Q 34 (59, [some (.ref 29), some (.int v1), some (.long v2), none, some (.ref 1), some (.long s.1), none, some (.int s.2.1), some (.int (v1 + (G_stride s.2.1))), z9, z10], [.int m3_0], (cW nw kp im (ol.1, ol.2.1, ol.2.2.1, ol.2.2.2.1, ol.2.2.2.2.1, ol.2.2.2.2.2.1, ol.2.2.2.2.2.2.1, ol.2.2.2.2.2.2.2.1, ol.2.2.2.2.2.2.2.2.1, ol.2.2.2.2.2.2.2.2.2.1, ol.2.2.2.2.2.2.2.2.2.2.1, ol.2.2.2.2.2.2.2.2.2.2.2.1, ol.2.2.2.2.2.2.2.2.2.2.2.2.1, ol.2.2.2.2.2.2.2.2.2.2.2.2.2.1, s.2.2, ol.2.2.2.2.2.2.2.2.2.2.2.2.2.2.2.1, ol.2.2.2.2.2.2.2.2.2.2.2.2.2.2.2.2) sn sr tp (mW mk mg mt mc T)), 0, 0) := by
      intro m3_0 em3_0
      subst em3_0
      refine stp hm 3 (br hf (fun c4 hf => ?_) (fun c4 hf => ?_))
      · show sxWP sc cl Q 34 (130, [some (.ref 29), some (.int v1), some (.long v2), none, some (.ref 1), some (.long s.1), none, some (.int s.2.1), some (.int (v1 + (G_stride s.2.1))), some (.int (if (O_isAmong (ol.2.2.2.2.2.2.2.2.1 v1.toNatClampNeg) s.2.1 (0:Int32)) = (0:Int32) then (0:Int32) else (if (G_isVertex (v1 + (G_stride s.2.1))) = (0:Int32) then (0:Int32) else (1:Int32)))), z10], [], (cW nw kp im (ol.1, ol.2.1, ol.2.2.1, ol.2.2.2.1, ol.2.2.2.2.1, ol.2.2.2.2.2.1, ol.2.2.2.2.2.2.1, ol.2.2.2.2.2.2.2.1, ol.2.2.2.2.2.2.2.2.1, ol.2.2.2.2.2.2.2.2.2.1, ol.2.2.2.2.2.2.2.2.2.2.1, ol.2.2.2.2.2.2.2.2.2.2.2.1, ol.2.2.2.2.2.2.2.2.2.2.2.2.1, ol.2.2.2.2.2.2.2.2.2.2.2.2.2.1, s.2.2, ol.2.2.2.2.2.2.2.2.2.2.2.2.2.2.2.1, ol.2.2.2.2.2.2.2.2.2.2.2.2.2.2.2.2) sn sr tp (mW mk mg mt mc T)), 0, 0)
        exact J130 _ _ _ _ _ _ hf
      · show sxWP sc cl Q 34 (66, [some (.ref 29), some (.int v1), some (.long v2), none, some (.ref 1), some (.long s.1), none, some (.int s.2.1), some (.int (v1 + (G_stride s.2.1))), some (.int (if (O_isAmong (ol.2.2.2.2.2.2.2.2.1 v1.toNatClampNeg) s.2.1 (0:Int32)) = (0:Int32) then (0:Int32) else (if (G_isVertex (v1 + (G_stride s.2.1))) = (0:Int32) then (0:Int32) else (1:Int32)))), z10], [], (cW nw kp im (ol.1, ol.2.1, ol.2.2.1, ol.2.2.2.1, ol.2.2.2.2.1, ol.2.2.2.2.2.1, ol.2.2.2.2.2.2.1, ol.2.2.2.2.2.2.2.1, ol.2.2.2.2.2.2.2.2.1, ol.2.2.2.2.2.2.2.2.2.1, ol.2.2.2.2.2.2.2.2.2.2.1, ol.2.2.2.2.2.2.2.2.2.2.2.1, ol.2.2.2.2.2.2.2.2.2.2.2.2.1, ol.2.2.2.2.2.2.2.2.2.2.2.2.2.1, s.2.2, ol.2.2.2.2.2.2.2.2.2.2.2.2.2.2.2.1, ol.2.2.2.2.2.2.2.2.2.2.2.2.2.2.2.2) sn sr tp (mW mk mg mt mc T)), 0, 0)
        refine stp hm 8 (brnI (lg_cmp_eq _ _) hf (fun c5 hf => ?_) (fun c5 hf => ?_))
        · show sxWP sc cl Q 34 (130, [some (.ref 29), some (.int v1), some (.long v2), none, some (.ref 1), some (.long s.1), none, some (.int s.2.1), some (.int (v1 + (G_stride s.2.1))), some (.int (if (O_isAmong (ol.2.2.2.2.2.2.2.2.1 v1.toNatClampNeg) s.2.1 (0:Int32)) = (0:Int32) then (0:Int32) else (if (G_isVertex (v1 + (G_stride s.2.1))) = (0:Int32) then (0:Int32) else (1:Int32)))), z10], [], (cW nw kp im (ol.1, ol.2.1, ol.2.2.1, ol.2.2.2.1, ol.2.2.2.2.1, ol.2.2.2.2.2.1, ol.2.2.2.2.2.2.1, ol.2.2.2.2.2.2.2.1, ol.2.2.2.2.2.2.2.2.1, ol.2.2.2.2.2.2.2.2.2.1, ol.2.2.2.2.2.2.2.2.2.2.1, ol.2.2.2.2.2.2.2.2.2.2.2.1, ol.2.2.2.2.2.2.2.2.2.2.2.2.1, ol.2.2.2.2.2.2.2.2.2.2.2.2.2.1, s.2.2, ol.2.2.2.2.2.2.2.2.2.2.2.2.2.2.2.1, ol.2.2.2.2.2.2.2.2.2.2.2.2.2.2.2.2) sn sr tp (mW mk mg mt mc T)), 0, 0)
          exact J130 _ _ _ _ _ _ hf
        · show sxWP sc cl Q 34 (77, [some (.ref 29), some (.int v1), some (.long v2), none, some (.ref 1), some (.long s.1), none, some (.int s.2.1), some (.int (v1 + (G_stride s.2.1))), some (.int (if (O_isAmong (ol.2.2.2.2.2.2.2.2.1 v1.toNatClampNeg) s.2.1 (0:Int32)) = (0:Int32) then (0:Int32) else (if (G_isVertex (v1 + (G_stride s.2.1))) = (0:Int32) then (0:Int32) else (1:Int32)))), z10], [], (cW nw kp im (ol.1, ol.2.1, ol.2.2.1, ol.2.2.2.1, ol.2.2.2.2.1, ol.2.2.2.2.2.1, ol.2.2.2.2.2.2.1, ol.2.2.2.2.2.2.2.1, ol.2.2.2.2.2.2.2.2.1, ol.2.2.2.2.2.2.2.2.2.1, ol.2.2.2.2.2.2.2.2.2.2.1, ol.2.2.2.2.2.2.2.2.2.2.2.1, ol.2.2.2.2.2.2.2.2.2.2.2.2.1, ol.2.2.2.2.2.2.2.2.2.2.2.2.2.1, s.2.2, ol.2.2.2.2.2.2.2.2.2.2.2.2.2.2.2.1, ol.2.2.2.2.2.2.2.2.2.2.2.2.2.2.2.2) sn sr tp (mW mk mg mt mc T)), 0, 0)
          refine stp hm 4 (G_leftOf_ok hE rfl ?_)
          show sxWP sc cl Q 34 (85, [some (.ref 29), some (.int v1), some (.long v2), none, some (.ref 1), some (.long s.1), none, some (.int s.2.1), some (.int (v1 + (G_stride s.2.1))), some (.int (if (O_isAmong (ol.2.2.2.2.2.2.2.2.1 v1.toNatClampNeg) s.2.1 (0:Int32)) = (0:Int32) then (0:Int32) else (if (G_isVertex (v1 + (G_stride s.2.1))) = (0:Int32) then (0:Int32) else (1:Int32)))), z10], [.int (G_leftOf v1 s.2.1), .ref 1], (cW nw kp im (ol.1, ol.2.1, ol.2.2.1, ol.2.2.2.1, ol.2.2.2.2.1, ol.2.2.2.2.2.1, ol.2.2.2.2.2.2.1, ol.2.2.2.2.2.2.2.1, ol.2.2.2.2.2.2.2.2.1, ol.2.2.2.2.2.2.2.2.2.1, ol.2.2.2.2.2.2.2.2.2.2.1, ol.2.2.2.2.2.2.2.2.2.2.2.1, ol.2.2.2.2.2.2.2.2.2.2.2.2.1, ol.2.2.2.2.2.2.2.2.2.2.2.2.2.1, s.2.2, ol.2.2.2.2.2.2.2.2.2.2.2.2.2.2.2.1, ol.2.2.2.2.2.2.2.2.2.2.2.2.2.2.2.2) sn sr tp (mW mk mg mt mc T)), 0, 0)
          refine stp hm 3 (G_rightOf_ok hE rfl ?_)
          show sxWP sc cl Q 34 (91, [some (.ref 29), some (.int v1), some (.long v2), none, some (.ref 1), some (.long s.1), none, some (.int s.2.1), some (.int (v1 + (G_stride s.2.1))), some (.int (if (O_isAmong (ol.2.2.2.2.2.2.2.2.1 v1.toNatClampNeg) s.2.1 (0:Int32)) = (0:Int32) then (0:Int32) else (if (G_isVertex (v1 + (G_stride s.2.1))) = (0:Int32) then (0:Int32) else (1:Int32)))), z10], [.int (G_rightOf v1 s.2.1), .int (G_leftOf v1 s.2.1), .ref 1], (cW nw kp im (ol.1, ol.2.1, ol.2.2.1, ol.2.2.2.1, ol.2.2.2.2.1, ol.2.2.2.2.2.1, ol.2.2.2.2.2.2.1, ol.2.2.2.2.2.2.2.1, ol.2.2.2.2.2.2.2.2.1, ol.2.2.2.2.2.2.2.2.2.1, ol.2.2.2.2.2.2.2.2.2.2.1, ol.2.2.2.2.2.2.2.2.2.2.2.1, ol.2.2.2.2.2.2.2.2.2.2.2.2.1, ol.2.2.2.2.2.2.2.2.2.2.2.2.2.1, s.2.2, ol.2.2.2.2.2.2.2.2.2.2.2.2.2.2.2.1, ol.2.2.2.2.2.2.2.2.2.2.2.2.2.2.2.2) sn sr tp (mW mk mg mt mc T)), 0, 0)
          obtain ⟨q6, hq6, hf⟩ := bnd hf
          refine stp hm 1 (S_areTwo_ok hE hq6 ?_)
          show sxWP sc cl Q 34 (94, [some (.ref 29), some (.int v1), some (.long v2), none, some (.ref 1), some (.long s.1), none, some (.int s.2.1), some (.int (v1 + (G_stride s.2.1))), some (.int (if (O_isAmong (ol.2.2.2.2.2.2.2.2.1 v1.toNatClampNeg) s.2.1 (0:Int32)) = (0:Int32) then (0:Int32) else (if (G_isVertex (v1 + (G_stride s.2.1))) = (0:Int32) then (0:Int32) else (1:Int32)))), z10], [.int q6], (cW nw kp im (ol.1, ol.2.1, ol.2.2.1, ol.2.2.2.1, ol.2.2.2.2.1, ol.2.2.2.2.2.1, ol.2.2.2.2.2.2.1, ol.2.2.2.2.2.2.2.1, ol.2.2.2.2.2.2.2.2.1, ol.2.2.2.2.2.2.2.2.2.1, ol.2.2.2.2.2.2.2.2.2.2.1, ol.2.2.2.2.2.2.2.2.2.2.2.1, ol.2.2.2.2.2.2.2.2.2.2.2.2.1, ol.2.2.2.2.2.2.2.2.2.2.2.2.2.1, s.2.2, ol.2.2.2.2.2.2.2.2.2.2.2.2.2.2.2.1, ol.2.2.2.2.2.2.2.2.2.2.2.2.2.2.2.2) sn sr tp (mW mk mg mt mc T)), 0, 0)
          obtain ⟨g7, hf⟩ := grd_e hf
          refine stp hm 8 (And.intro (gi_in g7) (?_ : sxWP sc cl Q 34 (108, [some (.ref 29), some (.int v1), some (.long v2), none, some (.ref 1), some (.long s.1), none, some (.int s.2.1), some (.int (v1 + (G_stride s.2.1))), some (.int (if (O_isAmong (ol.2.2.2.2.2.2.2.2.1 v1.toNatClampNeg) s.2.1 (0:Int32)) = (0:Int32) then (0:Int32) else (if (G_isVertex (v1 + (G_stride s.2.1))) = (0:Int32) then (0:Int32) else (1:Int32)))), some (.int q6)], [.int (s.2.2 v1.toNatClampNeg), .int (v1 + (G_stride s.2.1)), .ref 36], (cW nw kp im (ol.1, ol.2.1, ol.2.2.1, ol.2.2.2.1, ol.2.2.2.2.1, ol.2.2.2.2.2.1, ol.2.2.2.2.2.2.1, ol.2.2.2.2.2.2.2.1, ol.2.2.2.2.2.2.2.2.1, ol.2.2.2.2.2.2.2.2.2.1, ol.2.2.2.2.2.2.2.2.2.2.1, ol.2.2.2.2.2.2.2.2.2.2.2.1, ol.2.2.2.2.2.2.2.2.2.2.2.2.1, ol.2.2.2.2.2.2.2.2.2.2.2.2.2.1, s.2.2, ol.2.2.2.2.2.2.2.2.2.2.2.2.2.2.2.1, ol.2.2.2.2.2.2.2.2.2.2.2.2.2.2.2.2) sn sr tp (mW mk mg mt mc T)), 0, 0)))
          have m8 : ∀ (m8_0 : Int32), m8_0 = (if q6 = (0:Int32) then (1:Int32) else (-3:Int32)) → sxWP sc cl Q 34 (119, [some (.ref 29), some (.int v1), some (.long v2), none, some (.ref 1), some (.long s.1), none, some (.int s.2.1), some (.int (v1 + (G_stride s.2.1))), some (.int (if (O_isAmong (ol.2.2.2.2.2.2.2.2.1 v1.toNatClampNeg) s.2.1 (0:Int32)) = (0:Int32) then (0:Int32) else (if (G_isVertex (v1 + (G_stride s.2.1))) = (0:Int32) then (0:Int32) else (1:Int32)))), some (.int q6)], [.int m8_0, .int (s.2.2 v1.toNatClampNeg), .int (v1 + (G_stride s.2.1)), .ref 36], (cW nw kp im (ol.1, ol.2.1, ol.2.2.1, ol.2.2.2.1, ol.2.2.2.2.1, ol.2.2.2.2.2.1, ol.2.2.2.2.2.2.1, ol.2.2.2.2.2.2.2.1, ol.2.2.2.2.2.2.2.2.1, ol.2.2.2.2.2.2.2.2.2.1, ol.2.2.2.2.2.2.2.2.2.2.1, ol.2.2.2.2.2.2.2.2.2.2.2.1, ol.2.2.2.2.2.2.2.2.2.2.2.2.1, ol.2.2.2.2.2.2.2.2.2.2.2.2.2.1, s.2.2, ol.2.2.2.2.2.2.2.2.2.2.2.2.2.2.2.1, ol.2.2.2.2.2.2.2.2.2.2.2.2.2.2.2.2) sn sr tp (mW mk mg mt mc T)), 0, 0) := by
            intro m8_0 em8_0
            subst em8_0
            obtain ⟨g9, hf⟩ := grd_e hf
            refine stp hm 2 (And.intro (gi_in g9) (?_ : sxWP sc cl Q 34 (121, [some (.ref 29), some (.int v1), some (.long v2), none, some (.ref 1), some (.long s.1), none, some (.int s.2.1), some (.int (v1 + (G_stride s.2.1))), some (.int (if (O_isAmong (ol.2.2.2.2.2.2.2.2.1 v1.toNatClampNeg) s.2.1 (0:Int32)) = (0:Int32) then (0:Int32) else (if (G_isVertex (v1 + (G_stride s.2.1))) = (0:Int32) then (0:Int32) else (1:Int32)))), some (.int q6)], [], (cW nw kp im (ol.1, ol.2.1, ol.2.2.1, ol.2.2.2.1, ol.2.2.2.2.1, ol.2.2.2.2.2.1, ol.2.2.2.2.2.2.1, ol.2.2.2.2.2.2.2.1, ol.2.2.2.2.2.2.2.2.1, ol.2.2.2.2.2.2.2.2.2.1, ol.2.2.2.2.2.2.2.2.2.2.1, ol.2.2.2.2.2.2.2.2.2.2.2.1, ol.2.2.2.2.2.2.2.2.2.2.2.2.1, ol.2.2.2.2.2.2.2.2.2.2.2.2.2.1, upd s.2.2 (v1 + (G_stride s.2.1)).toNatClampNeg ((s.2.2 v1.toNatClampNeg) + (if q6 = (0:Int32) then (1:Int32) else (-3:Int32))), ol.2.2.2.2.2.2.2.2.2.2.2.2.2.2.2.1, ol.2.2.2.2.2.2.2.2.2.2.2.2.2.2.2.2) sn sr tp (mW mk mg mt mc T)), 0, 0)))
            refine stp hm 6 (?_ : sxWP sc cl Q 34 (130, [some (.ref 29), some (.int v1), some (.long v2), none, some (.ref 1), some (.long (s.1 ||| ((1:Int64) <<< ((v1 + (G_stride s.2.1)).toInt64 &&& 63)))), none, some (.int s.2.1), some (.int (v1 + (G_stride s.2.1))), some (.int (if (O_isAmong (ol.2.2.2.2.2.2.2.2.1 v1.toNatClampNeg) s.2.1 (0:Int32)) = (0:Int32) then (0:Int32) else (if (G_isVertex (v1 + (G_stride s.2.1))) = (0:Int32) then (0:Int32) else (1:Int32)))), some (.int q6)], [], (cW nw kp im (ol.1, ol.2.1, ol.2.2.1, ol.2.2.2.1, ol.2.2.2.2.1, ol.2.2.2.2.2.1, ol.2.2.2.2.2.2.1, ol.2.2.2.2.2.2.2.1, ol.2.2.2.2.2.2.2.2.1, ol.2.2.2.2.2.2.2.2.2.1, ol.2.2.2.2.2.2.2.2.2.2.1, ol.2.2.2.2.2.2.2.2.2.2.2.1, ol.2.2.2.2.2.2.2.2.2.2.2.2.1, ol.2.2.2.2.2.2.2.2.2.2.2.2.2.1, upd s.2.2 (v1 + (G_stride s.2.1)).toNatClampNeg ((s.2.2 v1.toNatClampNeg) + (if q6 = (0:Int32) then (1:Int32) else (-3:Int32))), ol.2.2.2.2.2.2.2.2.2.2.2.2.2.2.2.1, ol.2.2.2.2.2.2.2.2.2.2.2.2.2.2.2.2) sn sr tp (mW mk mg mt mc T)), 0, 0))
            exact J130 _ _ _ _ _ _ hf
          refine stp hm 2 (bs (c := q6 = (0:Int32)) (fun c10 => ?_) (fun c10 => ?_))
          · have c10 : q6 = (0:Int32) := c10
            refine stp hm 1 (?_ : sxWP sc cl Q 34 (119, [some (.ref 29), some (.int v1), some (.long v2), none, some (.ref 1), some (.long s.1), none, some (.int s.2.1), some (.int (v1 + (G_stride s.2.1))), some (.int (if (O_isAmong (ol.2.2.2.2.2.2.2.2.1 v1.toNatClampNeg) s.2.1 (0:Int32)) = (0:Int32) then (0:Int32) else (if (G_isVertex (v1 + (G_stride s.2.1))) = (0:Int32) then (0:Int32) else (1:Int32)))), some (.int q6)], [.int (1:Int32), .int (s.2.2 v1.toNatClampNeg), .int (v1 + (G_stride s.2.1)), .ref 36], (cW nw kp im (ol.1, ol.2.1, ol.2.2.1, ol.2.2.2.1, ol.2.2.2.2.1, ol.2.2.2.2.2.1, ol.2.2.2.2.2.2.1, ol.2.2.2.2.2.2.2.1, ol.2.2.2.2.2.2.2.2.1, ol.2.2.2.2.2.2.2.2.2.1, ol.2.2.2.2.2.2.2.2.2.2.1, ol.2.2.2.2.2.2.2.2.2.2.2.1, ol.2.2.2.2.2.2.2.2.2.2.2.2.1, ol.2.2.2.2.2.2.2.2.2.2.2.2.2.1, s.2.2, ol.2.2.2.2.2.2.2.2.2.2.2.2.2.2.2.1, ol.2.2.2.2.2.2.2.2.2.2.2.2.2.2.2.2) sn sr tp (mW mk mg mt mc T)), 0, 0))
            exact m8 _ (by rw [if_pos c10])
          · have c10 : ¬ q6 = (0:Int32) := c10
            refine stp hm 2 (?_ : sxWP sc cl Q 34 (119, [some (.ref 29), some (.int v1), some (.long v2), none, some (.ref 1), some (.long s.1), none, some (.int s.2.1), some (.int (v1 + (G_stride s.2.1))), some (.int (if (O_isAmong (ol.2.2.2.2.2.2.2.2.1 v1.toNatClampNeg) s.2.1 (0:Int32)) = (0:Int32) then (0:Int32) else (if (G_isVertex (v1 + (G_stride s.2.1))) = (0:Int32) then (0:Int32) else (1:Int32)))), some (.int q6)], [.int (-3:Int32), .int (s.2.2 v1.toNatClampNeg), .int (v1 + (G_stride s.2.1)), .ref 36], (cW nw kp im (ol.1, ol.2.1, ol.2.2.1, ol.2.2.2.1, ol.2.2.2.2.1, ol.2.2.2.2.2.1, ol.2.2.2.2.2.2.1, ol.2.2.2.2.2.2.2.1, ol.2.2.2.2.2.2.2.2.1, ol.2.2.2.2.2.2.2.2.2.1, ol.2.2.2.2.2.2.2.2.2.2.1, ol.2.2.2.2.2.2.2.2.2.2.2.1, ol.2.2.2.2.2.2.2.2.2.2.2.2.1, ol.2.2.2.2.2.2.2.2.2.2.2.2.2.1, s.2.2, ol.2.2.2.2.2.2.2.2.2.2.2.2.2.2.2.1, ol.2.2.2.2.2.2.2.2.2.2.2.2.2.2.2.2) sn sr tp (mW mk mg mt mc T)), 0, 0))
            exact m8 _ (by rw [if_neg c10])
    refine stp hm 1 (bs (c := (O_isAmong (ol.2.2.2.2.2.2.2.2.1 v1.toNatClampNeg) s.2.1 (0:Int32)) = (0:Int32)) (fun c11 => ?_) (fun c11 => ?_))
    · have c11 : (O_isAmong (ol.2.2.2.2.2.2.2.2.1 v1.toNatClampNeg) s.2.1 (0:Int32)) = (0:Int32) := c11
      refine stp hm 1 (?_ : sxWP sc cl Q 34 (59, [some (.ref 29), some (.int v1), some (.long v2), none, some (.ref 1), some (.long s.1), none, some (.int s.2.1), some (.int (v1 + (G_stride s.2.1))), z9, z10], [.int (0:Int32)], (cW nw kp im (ol.1, ol.2.1, ol.2.2.1, ol.2.2.2.1, ol.2.2.2.2.1, ol.2.2.2.2.2.1, ol.2.2.2.2.2.2.1, ol.2.2.2.2.2.2.2.1, ol.2.2.2.2.2.2.2.2.1, ol.2.2.2.2.2.2.2.2.2.1, ol.2.2.2.2.2.2.2.2.2.2.1, ol.2.2.2.2.2.2.2.2.2.2.2.1, ol.2.2.2.2.2.2.2.2.2.2.2.2.1, ol.2.2.2.2.2.2.2.2.2.2.2.2.2.1, s.2.2, ol.2.2.2.2.2.2.2.2.2.2.2.2.2.2.2.1, ol.2.2.2.2.2.2.2.2.2.2.2.2.2.2.2.2) sn sr tp (mW mk mg mt mc T)), 0, 0))
      exact m3 _ (by rw [if_pos c11])
    · have c11 : ¬ (O_isAmong (ol.2.2.2.2.2.2.2.2.1 v1.toNatClampNeg) s.2.1 (0:Int32)) = (0:Int32) := c11
      refine stp hm 2 (G_isVertex_ok hE rfl ?_)
      show sxWP sc cl Q 34 (51, [some (.ref 29), some (.int v1), some (.long v2), none, some (.ref 1), some (.long s.1), none, some (.int s.2.1), some (.int (v1 + (G_stride s.2.1))), z9, z10], [.int (G_isVertex (v1 + (G_stride s.2.1)))], (cW nw kp im (ol.1, ol.2.1, ol.2.2.1, ol.2.2.2.1, ol.2.2.2.2.1, ol.2.2.2.2.2.1, ol.2.2.2.2.2.2.1, ol.2.2.2.2.2.2.2.1, ol.2.2.2.2.2.2.2.2.1, ol.2.2.2.2.2.2.2.2.2.1, ol.2.2.2.2.2.2.2.2.2.2.1, ol.2.2.2.2.2.2.2.2.2.2.2.1, ol.2.2.2.2.2.2.2.2.2.2.2.2.1, ol.2.2.2.2.2.2.2.2.2.2.2.2.2.1, s.2.2, ol.2.2.2.2.2.2.2.2.2.2.2.2.2.2.2.1, ol.2.2.2.2.2.2.2.2.2.2.2.2.2.2.2.2) sn sr tp (mW mk mg mt mc T)), 0, 0)
      refine stp hm 1 (bs (c := (G_isVertex (v1 + (G_stride s.2.1))) = (0:Int32)) (fun c12 => ?_) (fun c12 => ?_))
      · have c12 : (G_isVertex (v1 + (G_stride s.2.1))) = (0:Int32) := c12
        refine stp hm 1 (?_ : sxWP sc cl Q 34 (59, [some (.ref 29), some (.int v1), some (.long v2), none, some (.ref 1), some (.long s.1), none, some (.int s.2.1), some (.int (v1 + (G_stride s.2.1))), z9, z10], [.int (0:Int32)], (cW nw kp im (ol.1, ol.2.1, ol.2.2.1, ol.2.2.2.1, ol.2.2.2.2.1, ol.2.2.2.2.2.1, ol.2.2.2.2.2.2.1, ol.2.2.2.2.2.2.2.1, ol.2.2.2.2.2.2.2.2.1, ol.2.2.2.2.2.2.2.2.2.1, ol.2.2.2.2.2.2.2.2.2.2.1, ol.2.2.2.2.2.2.2.2.2.2.2.1, ol.2.2.2.2.2.2.2.2.2.2.2.2.1, ol.2.2.2.2.2.2.2.2.2.2.2.2.2.1, s.2.2, ol.2.2.2.2.2.2.2.2.2.2.2.2.2.2.2.1, ol.2.2.2.2.2.2.2.2.2.2.2.2.2.2.2.2) sn sr tp (mW mk mg mt mc T)), 0, 0))
        exact m3 _ (by rw [if_neg c11, if_pos c12])
      · have c12 : ¬ (G_isVertex (v1 + (G_stride s.2.1))) = (0:Int32) := c12
        refine stp hm 2 (?_ : sxWP sc cl Q 34 (59, [some (.ref 29), some (.int v1), some (.long v2), none, some (.ref 1), some (.long s.1), none, some (.int s.2.1), some (.int (v1 + (G_stride s.2.1))), z9, z10], [.int (1:Int32)], (cW nw kp im (ol.1, ol.2.1, ol.2.2.1, ol.2.2.2.1, ol.2.2.2.2.1, ol.2.2.2.2.2.1, ol.2.2.2.2.2.2.1, ol.2.2.2.2.2.2.2.1, ol.2.2.2.2.2.2.2.2.1, ol.2.2.2.2.2.2.2.2.2.1, ol.2.2.2.2.2.2.2.2.2.2.1, ol.2.2.2.2.2.2.2.2.2.2.2.1, ol.2.2.2.2.2.2.2.2.2.2.2.2.1, ol.2.2.2.2.2.2.2.2.2.2.2.2.2.1, s.2.2, ol.2.2.2.2.2.2.2.2.2.2.2.2.2.2.2.1, ol.2.2.2.2.2.2.2.2.2.2.2.2.2.2.2.2) sn sr tp (mW mk mg mt mc T)), 0, 0))
        exact m3 _ (by rw [if_neg c11, if_neg c12])
set_option maxRecDepth 10000 in
theorem O_raiseBehind_ok {v1 : Int32} {v2 : Int64} {q : (Int64 × (Nat → Int32))} (hc : call = sxE sc (d + 3)) (hf : O_raiseBehind v1 v2 nw.2.1 nw.2.2.1 ol.2.2.2.2.2.2.2.2.1 ol.2.2.2.2.2.2.2.2.2.2.2.2.2.2.1 = some q) (h : Q (some (.long q.1)) (cW nw kp im (ol.1, ol.2.1, ol.2.2.1, ol.2.2.2.1, ol.2.2.2.2.1, ol.2.2.2.2.2.1, ol.2.2.2.2.2.2.1, ol.2.2.2.2.2.2.2.1, ol.2.2.2.2.2.2.2.2.1, ol.2.2.2.2.2.2.2.2.2.1, ol.2.2.2.2.2.2.2.2.2.2.1, ol.2.2.2.2.2.2.2.2.2.2.2.1, ol.2.2.2.2.2.2.2.2.2.2.2.2.1, ol.2.2.2.2.2.2.2.2.2.2.2.2.2.1, q.2, ol.2.2.2.2.2.2.2.2.2.2.2.2.2.2.2.1, ol.2.2.2.2.2.2.2.2.2.2.2.2.2.2.2.2) sn sr tp (mW mk mg mt mc T))) : call 34 [.ref 29, .int v1, .long v2, .ref 1] (cW nw kp im ol sn sr tp (mW mk mg mt mc T)) Q := by
  refine ent hc rfl (fun cl hE hm => ?_)
  unfold O_raiseBehind at hf
  refine stp hm 4 (G_isVertex_ok hE rfl ?_)
  show sxWP sc cl Q 34 (7, [some (.ref 29), some (.int v1), some (.long v2), none, some (.ref 1), some (.long (0:Int64)), none, none, none, none, none], [.int (G_isVertex v1)], (cW nw kp im ol sn sr tp (mW mk mg mt mc T)), 0, 0)
  refine stp hm 1 (brn hf (fun c1 hf => ?_) (fun c1 hf => ?_))
  · show sxWP sc cl Q 34 (13, [some (.ref 29), some (.int v1), some (.long v2), none, some (.ref 1), some (.long (0:Int64)), none, none, none, none, none], [], (cW nw kp im ol sn sr tp (mW mk mg mt mc T)), 0, 0)
    obtain ⟨w2, hw2, hf⟩ := bnd hf
    refine stp hm 2 (?_ : sxWP sc cl Q 34 (16, [some (.ref 29), some (.int v1), some (.long v2), none, some (.ref 1), some (.long (0:Int64)), none, some (.int (0:Int32)), none, none, none], [], (cW nw kp im ol sn sr tp (mW mk mg mt mc T)), 0, 0))
    refine O_raiseBehind_l16 hE hm _ _ _ hw2 ?_ _ _ _
    intro w2_z0 w2_z1 w2_z2 w2_z3 w2_z4 w2_z7 w2_z8 w2_z9 w2_z10
    show sxWP sc cl Q 34 (136, [w2_z0, w2_z1, w2_z2, w2_z3, w2_z4, some (.long w2.1), none, w2_z7, w2_z8, w2_z9, w2_z10], [], (cW nw kp im (ol.1, ol.2.1, ol.2.2.1, ol.2.2.2.1, ol.2.2.2.2.1, ol.2.2.2.2.2.1, ol.2.2.2.2.2.2.1, ol.2.2.2.2.2.2.2.1, ol.2.2.2.2.2.2.2.2.1, ol.2.2.2.2.2.2.2.2.2.1, ol.2.2.2.2.2.2.2.2.2.2.1, ol.2.2.2.2.2.2.2.2.2.2.2.1, ol.2.2.2.2.2.2.2.2.2.2.2.2.1, ol.2.2.2.2.2.2.2.2.2.2.2.2.2.1, w2.2, ol.2.2.2.2.2.2.2.2.2.2.2.2.2.2.2.1, ol.2.2.2.2.2.2.2.2.2.2.2.2.2.2.2.2) sn sr tp (mW mk mg mt mc T)), 0, 0)
    obtain rfl := Option.some.inj hf
    refine stp hm 2 ?_
    exact h
  · show sxWP sc cl Q 34 (10, [some (.ref 29), some (.int v1), some (.long v2), none, some (.ref 1), some (.long (0:Int64)), none, none, none, none, none], [], (cW nw kp im ol sn sr tp (mW mk mg mt mc T)), 0, 0)
    obtain rfl := Option.some.inj hf
    refine stp hm 2 ?_
    exact h
end PT
