/-! methods as functions (printed by wip/whole/dec) -/
section PT
variable {sc : sxS} {d : Nat} {Q : sxR} {hp : sxH} {call cl : sxX} {im : Int32} {nrg : Int64} {nld : Int32} {nmt : (Nat → Int32)} {nps : Int32} {npl : Int32} {npw : (Nat → Int32)} {npr : (Nat → Int32)} {nss : Int32} {nso : (Nat → Int32)} {nsq : (Nat → Int32)} {nes : Int32} {neo : (Nat → Int32)} {neq : (Nat → Int32)} {ngs : Int32} {ngo : (Nat → Int32)} {ngq : (Nat → Int32)} {krg : Int64} {kld : Int32} {kmt : (Nat → Int32)} {kps : Int32} {kpl : Int32} {kpw : (Nat → Int32)} {kpr : (Nat → Int32)} {kss : Int32} {kso : (Nat → Int32)} {ksq : (Nat → Int32)} {kes : Int32} {keo : (Nat → Int32)} {keq : (Nat → Int32)} {kgs : Int32} {kgo : (Nat → Int32)} {kgq : (Nat → Int32)} {okn : Int32} {org : Int64} {osi : Int32} {oti : Int32} {ole : Int32} {oto : Int32} {oow : Int64} {oco : Int64} {ost : (Nat → Int32)} {owa : (Nat → Int32)} {owv : (Nat → Int32)} {owh : (Nat → Int32)} {olo : (Nat → Int32)} {ohi : (Nat → Int32)} {ora : (Nat → Int32)} {odi : (Nat → Int32)} {oqu : (Nat → Int32)} {skd : Int32} {sdp : Int32} {sfd : Int32} {sop : (Nat → Int64)} {str : (Nat → Int32)} {spr : (Nat → UInt32)} {rsz : Int32} {rcl : Int32} {rsg : (Nat → Int32)} {rst : (Nat → Int32)} {mrg : Int64} {mkr : Int64} {mik : Int32} {msz : Int32} {gle : Int32} {gsu : Int32} {tat : Int32} {tfa : Int32} {cco : Int64} {cct : Int64} {cac : Int32} {caf : Int32} {cwe : UInt32} {ms : (Nat → Int32)} {mkp : (Nat → Int32)} {mtx : (Nat → Int32)} {mso : (Nat → Int32)} {mmy : (Nat → Int32)} {mit : (Nat → Int64)} {gma : (Nat → Int32)} {gpi : (Nat → Int32)} {gst : (Nat → Int32)} {ghe : (Nat → Int32)} {gow : (Nat → Int32)} {gfa : (Nat → Int32)} {gqu : (Nat → Int32)} {glo : (Nat → Int32)} {ghi : (Nat → Int32)} {gby : (Nat → Int32)} {gib : (Nat → Int32)} {tto : (Nat → Int32)} {cfo : (Nat → Int32)} {cff : (Nat → Int32)} {ccl : (Nat → Int32)} {tp : Nat → tTp} {T : sxH}
set_option maxRecDepth 10000 in
theorem X_tape_3_ok {v2 : Int32} {v3 : Int32} {q : (Int32 × Int32 × Int32 × (Nat → Int64))} (hc : call = sxE sc (d + 3)) (hf : X_tape_2 (1:Int32) v2 v3 ((tp 1).1) ((tp 1).2.1) ((tp 1).2.2) = some q) (h : Q (some (.int q.1)) (wF im nrg nld nmt nps npl npw npr nss nso nsq nes neo neq ngs ngo ngq krg kld kmt kps kpl kpw kpr kss kso ksq kes keo keq kgs kgo kgq okn org osi oti ole oto oow oco ost owa owv owh olo ohi ora odi oqu skd sdp sfd sop str spr rsz rcl rsg rst mrg mkr mik msz gle gsu tat tfa cco cct cac caf cwe ms mkp mtx mso mmy mit gma gpi gst ghe gow gfa gqu glo ghi gby gib tto cfo cff ccl (tpU tp 1 (q.2.1, q.2.2.1, q.2.2.2)) T)) : call 131 [.ref 0, .int (1:Int32), .int v2, .int v3] (wF im nrg nld nmt nps npl npw npr nss nso nsq nes neo neq ngs ngo ngq krg kld kmt kps kpl kpw kpr kss kso ksq kes keo keq kgs kgo kgq okn org osi oti ole oto oow oco ost owa owv owh olo ohi ora odi oqu skd sdp sfd sop str spr rsz rcl rsg rst mrg mkr mik msz gle gsu tat tfa cco cct cac caf cwe ms mkp mtx mso mmy mit gma gpi gst ghe gow gfa gqu glo ghi gby gib tto cfo cff ccl tp T) Q := by
  refine ent hc rfl (fun cl hE hm => ?_)
  have J42 : ∀ (tp1s_j : Int32) (tp1n_j : Int32) (tp1i_j : (Nat → Int64)) (z0 : Option Value) (z1 : Option Value) (z2 : Option Value) (z3 : Option Value), X_tape_2_j42 tp1s_j tp1n_j tp1i_j = some q → sxWP sc cl Q 131 (42, [z0, z1, z2, z3], [], (wF im nrg nld nmt nps npl npw npr nss nso nsq nes neo neq ngs ngo ngq krg kld kmt kps kpl kpw kpr kss kso ksq kes keo keq kgs kgo kgq okn org osi oti ole oto oow oco ost owa owv owh olo ohi ora odi oqu skd sdp sfd sop str spr rsz rcl rsg rst mrg mkr mik msz gle gsu tat tfa cco cct cac caf cwe ms mkp mtx mso mmy mit gma gpi gst ghe gow gfa gqu glo ghi gby gib tto cfo cff ccl (tpU tp 1 (tp1s_j, tp1n_j, tp1i_j)) T), 0, 0) := by
    intro tp1s_j tp1n_j tp1i_j z0 z1 z2 z3 hf
    unfold X_tape_2_j42 at hf
    obtain rfl := Option.some.inj hf
    refine stp hm 2 ?_
    exact h
  unfold X_tape_2 at hf
  refine stp hm 2 (X_isTape_ok hE rfl ?_)
  show sxWP sc cl Q 131 (4, [some (.ref 0), some (.int (1:Int32)), some (.int v2), some (.int v3)], [.int (X_isTape (1:Int32))], (wF im nrg nld nmt nps npl npw npr nss nso nsq nes neo neq ngs ngo ngq krg kld kmt kps kpl kpw kpr kss kso ksq kes keo keq kgs kgo kgq okn org osi oti ole oto oow oco ost owa owv owh olo ohi ora odi oqu skd sdp sfd sop str spr rsz rcl rsg rst mrg mkr mik msz gle gsu tat tfa cco cct cac caf cwe ms mkp mtx mso mmy mit gma gpi gst ghe gow gfa gqu glo ghi gby gib tto cfo cff ccl tp T), 0, 0)
  refine stp hm 1 (brn hf (fun c1 hf => ?_) (fun c1 hf => ?_))
  · show sxWP sc cl Q 131 (9, [some (.ref 0), some (.int (1:Int32)), some (.int v2), some (.int v3)], [], (wF im nrg nld nmt nps npl npw npr nss nso nsq nes neo neq ngs ngo ngq krg kld kmt kps kpl kpw kpr kss kso ksq kes keo keq kgs kgo kgq okn org osi oti ole oto oow oco ost owa owv owh olo ohi ora odi oqu skd sdp sfd sop str spr rsz rcl rsg rst mrg mkr mik msz gle gsu tat tfa cco cct cac caf cwe ms mkp mtx mso mmy mit gma gpi gst ghe gow gfa gqu glo ghi gby gib tto cfo cff ccl tp T), 0, 0)
    refine stp hm 3 (brn hf (fun c2 hf => ?_) (fun c2 hf => ?_))
    · show sxWP sc cl Q 131 (27, [some (.ref 0), some (.int (1:Int32)), some (.int v2), some (.int v3)], [], (wF im nrg nld nmt nps npl npw npr nss nso nsq nes neo neq ngs ngo ngq krg kld kmt kps kpl kpw kpr kss kso ksq kes keo keq kgs kgo kgq okn org osi oti ole oto oow oco ost owa owv owh olo ohi ora odi oqu skd sdp sfd sop str spr rsz rcl rsg rst mrg mkr mik msz gle gsu tat tfa cco cct cac caf cwe ms mkp mtx mso mmy mit gma gpi gst ghe gow gfa gqu glo ghi gby gib tto cfo cff ccl tp T), 0, 0)
      refine stp hm 2 (br hf (fun c3 hf => ?_) (fun c3 hf => ?_))
      · show sxWP sc cl Q 131 (42, [some (.ref 0), some (.int (1:Int32)), some (.int v2), some (.int v3)], [], (wF im nrg nld nmt nps npl npw npr nss nso nsq nes neo neq ngs ngo ngq krg kld kmt kps kpl kpw kpr kss kso ksq kes keo keq kgs kgo kgq okn org osi oti ole oto oow oco ost owa owv owh olo ohi ora odi oqu skd sdp sfd sop str spr rsz rcl rsg rst mrg mkr mik msz gle gsu tat tfa cco cct cac caf cwe ms mkp mtx mso mmy mit gma gpi gst ghe gow gfa gqu glo ghi gby gib tto cfo cff ccl tp T), 0, 0)
        exact J42 _ _ _ _ _ _ _ hf
      · show sxWP sc cl Q 131 (31, [some (.ref 0), some (.int (1:Int32)), some (.int v2), some (.int v3)], [], (wF im nrg nld nmt nps npl npw npr nss nso nsq nes neo neq ngs ngo ngq krg kld kmt kps kpl kpw kpr kss kso ksq kes keo keq kgs kgo kgq okn org osi oti ole oto oow oco ost owa owv owh olo ohi ora odi oqu skd sdp sfd sop str spr rsz rcl rsg rst mrg mkr mik msz gle gsu tat tfa cco cct cac caf cwe ms mkp mtx mso mmy mit gma gpi gst ghe gow gfa gqu glo ghi gby gib tto cfo cff ccl tp T), 0, 0)
        refine stp hm 3 (br hf (fun c4 hf => ?_) (fun c4 hf => ?_))
        · show sxWP sc cl Q 131 (42, [some (.ref 0), some (.int (1:Int32)), some (.int v2), some (.int v3)], [], (wF im nrg nld nmt nps npl npw npr nss nso nsq nes neo neq ngs ngo ngq krg kld kmt kps kpl kpw kpr kss kso ksq kes keo keq kgs kgo kgq okn org osi oti ole oto oow oco ost owa owv owh olo ohi ora odi oqu skd sdp sfd sop str spr rsz rcl rsg rst mrg mkr mik msz gle gsu tat tfa cco cct cac caf cwe ms mkp mtx mso mmy mit gma gpi gst ghe gow gfa gqu glo ghi gby gib tto cfo cff ccl tp T), 0, 0)
          exact J42 _ _ _ _ _ _ _ hf
        · show sxWP sc cl Q 131 (36, [some (.ref 0), some (.int (1:Int32)), some (.int v2), some (.int v3)], [], (wF im nrg nld nmt nps npl npw npr nss nso nsq nes neo neq ngs ngo ngq krg kld kmt kps kpl kpw kpr kss kso ksq kes keo keq kgs kgo kgq okn org osi oti ole oto oow oco ost owa owv owh olo ohi ora odi oqu skd sdp sfd sop str spr rsz rcl rsg rst mrg mkr mik msz gle gsu tat tfa cco cct cac caf cwe ms mkp mtx mso mmy mit gma gpi gst ghe gow gfa gqu glo ghi gby gib tto cfo cff ccl tp T), 0, 0)
          refine stp hm 3 (br hf (fun c5 hf => ?_) (fun c5 hf => ?_))
          · show sxWP sc cl Q 131 (45, [some (.ref 0), some (.int (1:Int32)), some (.int v2), some (.int v3)], [], (wF im nrg nld nmt nps npl npw npr nss nso nsq nes neo neq ngs ngo ngq krg kld kmt kps kpl kpw kpr kss kso ksq kes keo keq kgs kgo kgq okn org osi oti ole oto oow oco ost owa owv owh olo ohi ora odi oqu skd sdp sfd sop str spr rsz rcl rsg rst mrg mkr mik msz gle gsu tat tfa cco cct cac caf cwe ms mkp mtx mso mmy mit gma gpi gst ghe gow gfa gqu glo ghi gby gib tto cfo cff ccl tp T), 0, 0)
            refine stp hm 2 (br hf (fun c6 hf => ?_) (fun c6 hf => ?_))
            · show sxWP sc cl Q 131 (52, [some (.ref 0), some (.int (1:Int32)), some (.int v2), some (.int v3)], [], (wF im nrg nld nmt nps npl npw npr nss nso nsq nes neo neq ngs ngo ngq krg kld kmt kps kpl kpw kpr kss kso ksq kes keo keq kgs kgo kgq okn org osi oti ole oto oow oco ost owa owv owh olo ohi ora odi oqu skd sdp sfd sop str spr rsz rcl rsg rst mrg mkr mik msz gle gsu tat tfa cco cct cac caf cwe ms mkp mtx mso mmy mit gma gpi gst ghe gow gfa gqu glo ghi gby gib tto cfo cff ccl tp T), 0, 0)
              refine stp hm 4 (And.intro (gi_in (by decide)) (?_ : sxWP sc cl Q 131 (58, [some (.ref 0), some (.int (1:Int32)), some (.int v2), some (.int v3)], [.ref 49], (wF im nrg nld nmt nps npl npw npr nss nso nsq nes neo neq ngs ngo ngq krg kld kmt kps kpl kpw kpr kss kso ksq kes keo keq kgs kgo kgq okn org osi oti ole oto oow oco ost owa owv owh olo ohi ora odi oqu skd sdp sfd sop str spr rsz rcl rsg rst mrg mkr mik msz gle gsu tat tfa cco cct cac caf cwe ms mkp mtx mso mmy mit gma gpi gst ghe gow gfa gqu glo ghi gby gib tto cfo cff ccl tp T), 0, 0)))
              obtain ⟨q7, hq7, hf⟩ := bnd hf
              refine stp hm 3 (T_become_2_ok (q := q7) hE (by exact hq7) ?_)
              show sxWP sc cl Q 131 (63, [some (.ref 0), some (.int (1:Int32)), some (.int v2), some (.int v3)], [], (wF im nrg nld nmt nps npl npw npr nss nso nsq nes neo neq ngs ngo ngq krg kld kmt kps kpl kpw kpr kss kso ksq kes keo keq kgs kgo kgq okn org osi oti ole oto oow oco ost owa owv owh olo ohi ora odi oqu skd sdp sfd sop str spr rsz rcl rsg rst mrg mkr mik msz gle gsu tat tfa cco cct cac caf cwe ms mkp mtx mso mmy mit gma gpi gst ghe gow gfa gqu glo ghi gby gib tto cfo cff ccl (tpU tp 1 (q7.1, q7.2.1, q7.2.2)) T), 0, 0)
              obtain rfl := Option.some.inj hf
              refine stp hm 2 ?_
              exact h
            · show sxWP sc cl Q 131 (49, [some (.ref 0), some (.int (1:Int32)), some (.int v2), some (.int v3)], [], (wF im nrg nld nmt nps npl npw npr nss nso nsq nes neo neq ngs ngo ngq krg kld kmt kps kpl kpw kpr kss kso ksq kes keo keq kgs kgo kgq okn org osi oti ole oto oow oco ost owa owv owh olo ohi ora odi oqu skd sdp sfd sop str spr rsz rcl rsg rst mrg mkr mik msz gle gsu tat tfa cco cct cac caf cwe ms mkp mtx mso mmy mit gma gpi gst ghe gow gfa gqu glo ghi gby gib tto cfo cff ccl tp T), 0, 0)
              obtain rfl := Option.some.inj hf
              refine stp hm 2 ?_
              exact h
          · show sxWP sc cl Q 131 (42, [some (.ref 0), some (.int (1:Int32)), some (.int v2), some (.int v3)], [], (wF im nrg nld nmt nps npl npw npr nss nso nsq nes neo neq ngs ngo ngq krg kld kmt kps kpl kpw kpr kss kso ksq kes keo keq kgs kgo kgq okn org osi oti ole oto oow oco ost owa owv owh olo ohi ora odi oqu skd sdp sfd sop str spr rsz rcl rsg rst mrg mkr mik msz gle gsu tat tfa cco cct cac caf cwe ms mkp mtx mso mmy mit gma gpi gst ghe gow gfa gqu glo ghi gby gib tto cfo cff ccl tp T), 0, 0)
            exact J42 _ _ _ _ _ _ _ hf
    · show sxWP sc cl Q 131 (14, [some (.ref 0), some (.int (1:Int32)), some (.int v2), some (.int v3)], [], (wF im nrg nld nmt nps npl npw npr nss nso nsq nes neo neq ngs ngo ngq krg kld kmt kps kpl kpw kpr kss kso ksq kes keo keq kgs kgo kgq okn org osi oti ole oto oow oco ost owa owv owh olo ohi ora odi oqu skd sdp sfd sop str spr rsz rcl rsg rst mrg mkr mik msz gle gsu tat tfa cco cct cac caf cwe ms mkp mtx mso mmy mit gma gpi gst ghe gow gfa gqu glo ghi gby gib tto cfo cff ccl tp T), 0, 0)
      refine stp hm 4 (And.intro (gi_in (by decide)) (?_ : sxWP sc cl Q 131 (20, [some (.ref 0), some (.int (1:Int32)), some (.int v2), some (.int v3)], [.ref 49], (wF im nrg nld nmt nps npl npw npr nss nso nsq nes neo neq ngs ngo ngq krg kld kmt kps kpl kpw kpr kss kso ksq kes keo keq kgs kgo kgq okn org osi oti ole oto oow oco ost owa owv owh olo ohi ora odi oqu skd sdp sfd sop str spr rsz rcl rsg rst mrg mkr mik msz gle gsu tat tfa cco cct cac caf cwe ms mkp mtx mso mmy mit gma gpi gst ghe gow gfa gqu glo ghi gby gib tto cfo cff ccl tp T), 0, 0)))
      obtain ⟨q8, hq8, hf⟩ := bnd hf
      refine stp hm 3 (T_become_2_ok (q := q8) hE (by exact hq8) ?_)
      show sxWP sc cl Q 131 (25, [some (.ref 0), some (.int (1:Int32)), some (.int v2), some (.int v3)], [], (wF im nrg nld nmt nps npl npw npr nss nso nsq nes neo neq ngs ngo ngq krg kld kmt kps kpl kpw kpr kss kso ksq kes keo keq kgs kgo kgq okn org osi oti ole oto oow oco ost owa owv owh olo ohi ora odi oqu skd sdp sfd sop str spr rsz rcl rsg rst mrg mkr mik msz gle gsu tat tfa cco cct cac caf cwe ms mkp mtx mso mmy mit gma gpi gst ghe gow gfa gqu glo ghi gby gib tto cfo cff ccl (tpU tp 1 (q8.1, q8.2.1, q8.2.2)) T), 0, 0)
      obtain rfl := Option.some.inj hf
      refine stp hm 2 ?_
      exact h
  · show sxWP sc cl Q 131 (7, [some (.ref 0), some (.int (1:Int32)), some (.int v2), some (.int v3)], [], (wF im nrg nld nmt nps npl npw npr nss nso nsq nes neo neq ngs ngo ngq krg kld kmt kps kpl kpw kpr kss kso ksq kes keo keq kgs kgo kgq okn org osi oti ole oto oow oco ost owa owv owh olo ohi ora odi oqu skd sdp sfd sop str spr rsz rcl rsg rst mrg mkr mik msz gle gsu tat tfa cco cct cac caf cwe ms mkp mtx mso mmy mit gma gpi gst ghe gow gfa gqu glo ghi gby gib tto cfo cff ccl tp T), 0, 0)
    obtain rfl := Option.some.inj hf
    refine stp hm 2 ?_
    exact h
set_option maxRecDepth 10000 in
theorem J_Arrays_fillL_3_l6 {v1 : Int64} {v4 : Int32}   (hE : cl = sxE sc (d + 0)) (hm : CallMono cl) : ∀ (n : Nat) (s : (Int32 × (Nat → Int64))) (r : (Nat → Int64)), wh (J_Arrays_fillL_s6 v1 v4) n s = some r → (∀ (z0 z1 z2 z3 z4 : Option Value), sxWP sc cl Q 254 (22, [z0, z1, z2, z3, z4], [], (wF im nrg nld nmt nps npl npw npr nss nso nsq nes neo neq ngs ngo ngq krg kld kmt kps kpl kpw kpr kss kso ksq kes keo keq kgs kgo kgq okn org osi oti ole oto oow oco ost owa owv owh olo ohi ora odi oqu skd sdp sfd sop str spr rsz rcl rsg rst mrg mkr mik msz gle gsu tat tfa cco cct cac caf cwe ms mkp mtx mso mmy mit gma gpi gst ghe gow gfa gqu glo ghi gby gib tto cfo cff ccl (tpU tp 2 ((tp 2).1, (tp 2).2.1, r)) T), 0, 0)) → sxWP sc cl Q 254 (6, [some (.ref 52), some (.long v1), none, some (.int s.1), some (.int v4)], [], (wF im nrg nld nmt nps npl npw npr nss nso nsq nes neo neq ngs ngo ngq krg kld kmt kps kpl kpw kpr kss kso ksq kes keo keq kgs kgo kgq okn org osi oti ole oto oow oco ost owa owv owh olo ohi ora odi oqu skd sdp sfd sop str spr rsz rcl rsg rst mrg mkr mik msz gle gsu tat tfa cco cct cac caf cwe ms mkp mtx mso mmy mit gma gpi gst ghe gow gfa gqu glo ghi gby gib tto cfo cff ccl (tpU tp 2 ((tp 2).1, (tp 2).2.1, s.2)) T), 0, 0) := by
  refine wh_run (A := fun (s : (Int32 × (Nat → Int64))) => sxWP sc cl Q 254 (6, [some (.ref 52), some (.long v1), none, some (.int s.1), some (.int v4)], [], (wF im nrg nld nmt nps npl npw npr nss nso nsq nes neo neq ngs ngo ngq krg kld kmt kps kpl kpw kpr kss kso ksq kes keo keq kgs kgo kgq okn org osi oti ole oto oow oco ost owa owv owh olo ohi ora odi oqu skd sdp sfd sop str spr rsz rcl rsg rst mrg mkr mik msz gle gsu tat tfa cco cct cac caf cwe ms mkp mtx mso mmy mit gma gpi gst ghe gow gfa gqu glo ghi gby gib tto cfo cff ccl (tpU tp 2 ((tp 2).1, (tp 2).2.1, s.2)) T), 0, 0)) (B := fun (r : (Nat → Int64)) => ∀ (z0 z1 z2 z3 z4 : Option Value), sxWP sc cl Q 254 (22, [z0, z1, z2, z3, z4], [], (wF im nrg nld nmt nps npl npw npr nss nso nsq nes neo neq ngs ngo ngq krg kld kmt kps kpl kpw kpr kss kso ksq kes keo keq kgs kgo kgq okn org osi oti ole oto oow oco ost owa owv owh olo ohi ora odi oqu skd sdp sfd sop str spr rsz rcl rsg rst mrg mkr mik msz gle gsu tat tfa cco cct cac caf cwe ms mkp mtx mso mmy mit gma gpi gst ghe gow gfa gqu glo ghi gby gib tto cfo cff ccl (tpU tp 2 ((tp 2).1, (tp 2).2.1, r)) T), 0, 0)) (fun s x hf hA hB => ?_)
  unfold J_Arrays_fillL_s6 at hf
  refine stp hm 3 (br hf (fun c1 hf => ?_) (fun c1 hf => ?_))
  · show sxWP sc cl Q 254 (22, [some (.ref 52), some (.long v1), none, some (.int s.1), some (.int v4)], [], (wF im nrg nld nmt nps npl npw npr nss nso nsq nes neo neq ngs ngo ngq krg kld kmt kps kpl kpw kpr kss kso ksq kes keo keq kgs kgo kgq okn org osi oti ole oto oow oco ost owa owv owh olo ohi ora odi oqu skd sdp sfd sop str spr rsz rcl rsg rst mrg mkr mik msz gle gsu tat tfa cco cct cac caf cwe ms mkp mtx mso mmy mit gma gpi gst ghe gow gfa gqu glo ghi gby gib tto cfo cff ccl (tpU tp 2 ((tp 2).1, (tp 2).2.1, s.2)) T), 0, 0)
    obtain rfl := Option.some.inj hf
    exact hB _ rfl _ _ _ _ _
  · show sxWP sc cl Q 254 (12, [some (.ref 52), some (.long v1), none, some (.int s.1), some (.int v4)], [], (wF im nrg nld nmt nps npl npw npr nss nso nsq nes neo neq ngs ngo ngq krg kld kmt kps kpl kpw kpr kss kso ksq kes keo keq kgs kgo kgq okn org osi oti ole oto oow oco ost owa owv owh olo ohi ora odi oqu skd sdp sfd sop str spr rsz rcl rsg rst mrg mkr mik msz gle gsu tat tfa cco cct cac caf cwe ms mkp mtx mso mmy mit gma gpi gst ghe gow gfa gqu glo ghi gby gib tto cfo cff ccl (tpU tp 2 ((tp 2).1, (tp 2).2.1, s.2)) T), 0, 0)
    obtain ⟨g2, hf⟩ := grd_e hf
    refine stp hm 4 (And.intro (gi_in g2) (?_ : sxWP sc cl Q 254 (16, [some (.ref 52), some (.long v1), none, some (.int s.1), some (.int v4)], [], (wF im nrg nld nmt nps npl npw npr nss nso nsq nes neo neq ngs ngo ngq krg kld kmt kps kpl kpw kpr kss kso ksq kes keo keq kgs kgo kgq okn org osi oti ole oto oow oco ost owa owv owh olo ohi ora odi oqu skd sdp sfd sop str spr rsz rcl rsg rst mrg mkr mik msz gle gsu tat tfa cco cct cac caf cwe ms mkp mtx mso mmy mit gma gpi gst ghe gow gfa gqu glo ghi gby gib tto cfo cff ccl (tpU tp 2 ((tp 2).1, (tp 2).2.1, vp_updL s.2 s.1.toNatClampNeg v1)) T), 0, 0)))
    obtain rfl := Option.some.inj hf
    refine stp hm 2 (?_ : sxWP sc cl Q 254 (6, [some (.ref 52), some (.long v1), none, some (.int (s.1 + (1:Int32))), some (.int v4)], [], (wF im nrg nld nmt nps npl npw npr nss nso nsq nes neo neq ngs ngo ngq krg kld kmt kps kpl kpw kpr kss kso ksq kes keo keq kgs kgo kgq okn org osi oti ole oto oow oco ost owa owv owh olo ohi ora odi oqu skd sdp sfd sop str spr rsz rcl rsg rst mrg mkr mik msz gle gsu tat tfa cco cct cac caf cwe ms mkp mtx mso mmy mit gma gpi gst ghe gow gfa gqu glo ghi gby gib tto cfo cff ccl (tpU tp 2 ((tp 2).1, (tp 2).2.1, vp_updL s.2 s.1.toNatClampNeg v1)) T), 0, 0))
    exact hA _ rfl
set_option maxRecDepth 10000 in
theorem J_Arrays_fillL_3_ok {v1 : Int64} {q : (Nat → Int64)} (hc : call = sxE sc (d + 1)) (hf : J_Arrays_fillL v1 ((tp 2).2.2) = some q) (h : Q none (wF im nrg nld nmt nps npl npw npr nss nso nsq nes neo neq ngs ngo ngq krg kld kmt kps kpl kpw kpr kss kso ksq kes keo keq kgs kgo kgq okn org osi oti ole oto oow oco ost owa owv owh olo ohi ora odi oqu skd sdp sfd sop str spr rsz rcl rsg rst mrg mkr mik msz gle gsu tat tfa cco cct cac caf cwe ms mkp mtx mso mmy mit gma gpi gst ghe gow gfa gqu glo ghi gby gib tto cfo cff ccl (tpU tp 2 ((tp 2).1, (tp 2).2.1, q)) T)) : call 254 [.ref 52, .long v1] (wF im nrg nld nmt nps npl npw npr nss nso nsq nes neo neq ngs ngo ngq krg kld kmt kps kpl kpw kpr kss kso ksq kes keo keq kgs kgo kgq okn org osi oti ole oto oow oco ost owa owv owh olo ohi ora odi oqu skd sdp sfd sop str spr rsz rcl rsg rst mrg mkr mik msz gle gsu tat tfa cco cct cac caf cwe ms mkp mtx mso mmy mit gma gpi gst ghe gow gfa gqu glo ghi gby gib tto cfo cff ccl tp T) Q := by
  refine ent hc rfl (fun cl hE hm => ?_)
  unfold J_Arrays_fillL at hf
  obtain ⟨w1, hw1, hf⟩ := bnd hf
  refine stp hm 5 (?_ : sxWP sc cl Q 254 (6, [some (.ref 52), some (.long v1), none, some (.int (0:Int32)), some (.int (Int32.ofNat 60))], [], (wF im nrg nld nmt nps npl npw npr nss nso nsq nes neo neq ngs ngo ngq krg kld kmt kps kpl kpw kpr kss kso ksq kes keo keq kgs kgo kgq okn org osi oti ole oto oow oco ost owa owv owh olo ohi ora odi oqu skd sdp sfd sop str spr rsz rcl rsg rst mrg mkr mik msz gle gsu tat tfa cco cct cac caf cwe ms mkp mtx mso mmy mit gma gpi gst ghe gow gfa gqu glo ghi gby gib tto cfo cff ccl tp T), 0, 0))
  refine J_Arrays_fillL_3_l6 hE hm FU ((0:Int32), (tp 2).2.2) w1 (by exact hw1) ?_
  intro w1_z0 w1_z1 w1_z2 w1_z3 w1_z4
  show sxWP sc cl Q 254 (22, [w1_z0, w1_z1, w1_z2, w1_z3, w1_z4], [], (wF im nrg nld nmt nps npl npw npr nss nso nsq nes neo neq ngs ngo ngq krg kld kmt kps kpl kpw kpr kss kso ksq kes keo keq kgs kgo kgq okn org osi oti ole oto oow oco ost owa owv owh olo ohi ora odi oqu skd sdp sfd sop str spr rsz rcl rsg rst mrg mkr mik msz gle gsu tat tfa cco cct cac caf cwe ms mkp mtx mso mmy mit gma gpi gst ghe gow gfa gqu glo ghi gby gib tto cfo cff ccl (tpU tp 2 ((tp 2).1, (tp 2).2.1, w1)) T), 0, 0)
  obtain rfl := Option.some.inj hf
  refine stp hm 1 ?_
  exact h
set_option maxRecDepth 10000 in
theorem T_become_3_ok {v1 : Int32} {v2 : Int32} {q : (Int32 × Int32 × (Nat → Int64))} (hc : call = sxE sc (d + 2)) (hf : T_become v1 v2 ((tp 2).2.2) = some q) (h : Q none (wF im nrg nld nmt nps npl npw npr nss nso nsq nes neo neq ngs ngo ngq krg kld kmt kps kpl kpw kpr kss kso ksq kes keo keq kgs kgo kgq okn org osi oti ole oto oow oco ost owa owv owh olo ohi ora odi oqu skd sdp sfd sop str spr rsz rcl rsg rst mrg mkr mik msz gle gsu tat tfa cco cct cac caf cwe ms mkp mtx mso mmy mit gma gpi gst ghe gow gfa gqu glo ghi gby gib tto cfo cff ccl (tpU tp 2 (q.1, q.2.1, q.2.2)) T)) : call 83 [.ref 51, .int v1, .int v2] (wF im nrg nld nmt nps npl npw npr nss nso nsq nes neo neq ngs ngo ngq krg kld kmt kps kpl kpw kpr kss kso ksq kes keo keq kgs kgo kgq okn org osi oti ole oto oow oco ost owa owv owh olo ohi ora odi oqu skd sdp sfd sop str spr rsz rcl rsg rst mrg mkr mik msz gle gsu tat tfa cco cct cac caf cwe ms mkp mtx mso mmy mit gma gpi gst ghe gow gfa gqu glo ghi gby gib tto cfo cff ccl tp T) Q := by
  refine ent hc rfl (fun cl hE hm => ?_)
  unfold T_become at hf
  refine stp hm 9 (?_ : sxWP sc cl Q 83 (15, [some (.ref 51), some (.int v1), some (.int v2)], [.long (0:Int64), .ref 52], (wF im nrg nld nmt nps npl npw npr nss nso nsq nes neo neq ngs ngo ngq krg kld kmt kps kpl kpw kpr kss kso ksq kes keo keq kgs kgo kgq okn org osi oti ole oto oow oco ost owa owv owh olo ohi ora odi oqu skd sdp sfd sop str spr rsz rcl rsg rst mrg mkr mik msz gle gsu tat tfa cco cct cac caf cwe ms mkp mtx mso mmy mit gma gpi gst ghe gow gfa gqu glo ghi gby gib tto cfo cff ccl (tpU tp 2 (v1, v2, (tp 2).2.2)) T), 0, 0))
  obtain ⟨q1, hq1, hf⟩ := bnd hf
  refine stp hm 1 (J_Arrays_fillL_3_ok (q := q1) hE (by exact hq1) ?_)
  show sxWP sc cl Q 83 (18, [some (.ref 51), some (.int v1), some (.int v2)], [], (wF im nrg nld nmt nps npl npw npr nss nso nsq nes neo neq ngs ngo ngq krg kld kmt kps kpl kpw kpr kss kso ksq kes keo keq kgs kgo kgq okn org osi oti ole oto oow oco ost owa owv owh olo ohi ora odi oqu skd sdp sfd sop str spr rsz rcl rsg rst mrg mkr mik msz gle gsu tat tfa cco cct cac caf cwe ms mkp mtx mso mmy mit gma gpi gst ghe gow gfa gqu glo ghi gby gib tto cfo cff ccl (tpU tp 2 (v1, v2, q1)) T), 0, 0)
  obtain rfl := Option.some.inj hf
  refine stp hm 1 ?_
  exact h
set_option maxRecDepth 10000 in
theorem X_tape_4_ok {v2 : Int32} {v3 : Int32} {q : (Int32 × Int32 × Int32 × (Nat → Int64))} (hc : call = sxE sc (d + 3)) (hf : X_tape_2 (2:Int32) v2 v3 ((tp 2).1) ((tp 2).2.1) ((tp 2).2.2) = some q) (h : Q (some (.int q.1)) (wF im nrg nld nmt nps npl npw npr nss nso nsq nes neo neq ngs ngo ngq krg kld kmt kps kpl kpw kpr kss kso ksq kes keo keq kgs kgo kgq okn org osi oti ole oto oow oco ost owa owv owh olo ohi ora odi oqu skd sdp sfd sop str spr rsz rcl rsg rst mrg mkr mik msz gle gsu tat tfa cco cct cac caf cwe ms mkp mtx mso mmy mit gma gpi gst ghe gow gfa gqu glo ghi gby gib tto cfo cff ccl (tpU tp 2 (q.2.1, q.2.2.1, q.2.2.2)) T)) : call 131 [.ref 0, .int (2:Int32), .int v2, .int v3] (wF im nrg nld nmt nps npl npw npr nss nso nsq nes neo neq ngs ngo ngq krg kld kmt kps kpl kpw kpr kss kso ksq kes keo keq kgs kgo kgq okn org osi oti ole oto oow oco ost owa owv owh olo ohi ora odi oqu skd sdp sfd sop str spr rsz rcl rsg rst mrg mkr mik msz gle gsu tat tfa cco cct cac caf cwe ms mkp mtx mso mmy mit gma gpi gst ghe gow gfa gqu glo ghi gby gib tto cfo cff ccl tp T) Q := by
  refine ent hc rfl (fun cl hE hm => ?_)
  have J42 : ∀ (tp2s_j : Int32) (tp2n_j : Int32) (tp2i_j : (Nat → Int64)) (z0 : Option Value) (z1 : Option Value) (z2 : Option Value) (z3 : Option Value), X_tape_2_j42 tp2s_j tp2n_j tp2i_j = some q → sxWP sc cl Q 131 (42, [z0, z1, z2, z3], [], (wF im nrg nld nmt nps npl npw npr nss nso nsq nes neo neq ngs ngo ngq krg kld kmt kps kpl kpw kpr kss kso ksq kes keo keq kgs kgo kgq okn org osi oti ole oto oow oco ost owa owv owh olo ohi ora odi oqu skd sdp sfd sop str spr rsz rcl rsg rst mrg mkr mik msz gle gsu tat tfa cco cct cac caf cwe ms mkp mtx mso mmy mit gma gpi gst ghe gow gfa gqu glo ghi gby gib tto cfo cff ccl (tpU tp 2 (tp2s_j, tp2n_j, tp2i_j)) T), 0, 0) := by
    intro tp2s_j tp2n_j tp2i_j z0 z1 z2 z3 hf
    unfold X_tape_2_j42 at hf
    obtain rfl := Option.some.inj hf
    refine stp hm 2 ?_
    exact h
  unfold X_tape_2 at hf
  refine stp hm 2 (X_isTape_ok hE rfl ?_)
  show sxWP sc cl Q 131 (4, [some (.ref 0), some (.int (2:Int32)), some (.int v2), some (.int v3)], [.int (X_isTape (2:Int32))], (wF im nrg nld nmt nps npl npw npr nss nso nsq nes neo neq ngs ngo ngq krg kld kmt kps kpl kpw kpr kss kso ksq kes keo keq kgs kgo kgq okn org osi oti ole oto oow oco ost owa owv owh olo ohi ora odi oqu skd sdp sfd sop str spr rsz rcl rsg rst mrg mkr mik msz gle gsu tat tfa cco cct cac caf cwe ms mkp mtx mso mmy mit gma gpi gst ghe gow gfa gqu glo ghi gby gib tto cfo cff ccl tp T), 0, 0)
  refine stp hm 1 (brn hf (fun c1 hf => ?_) (fun c1 hf => ?_))
  · show sxWP sc cl Q 131 (9, [some (.ref 0), some (.int (2:Int32)), some (.int v2), some (.int v3)], [], (wF im nrg nld nmt nps npl npw npr nss nso nsq nes neo neq ngs ngo ngq krg kld kmt kps kpl kpw kpr kss kso ksq kes keo keq kgs kgo kgq okn org osi oti ole oto oow oco ost owa owv owh olo ohi ora odi oqu skd sdp sfd sop str spr rsz rcl rsg rst mrg mkr mik msz gle gsu tat tfa cco cct cac caf cwe ms mkp mtx mso mmy mit gma gpi gst ghe gow gfa gqu glo ghi gby gib tto cfo cff ccl tp T), 0, 0)
    refine stp hm 3 (brn hf (fun c2 hf => ?_) (fun c2 hf => ?_))
    · show sxWP sc cl Q 131 (27, [some (.ref 0), some (.int (2:Int32)), some (.int v2), some (.int v3)], [], (wF im nrg nld nmt nps npl npw npr nss nso nsq nes neo neq ngs ngo ngq krg kld kmt kps kpl kpw kpr kss kso ksq kes keo keq kgs kgo kgq okn org osi oti ole oto oow oco ost owa owv owh olo ohi ora odi oqu skd sdp sfd sop str spr rsz rcl rsg rst mrg mkr mik msz gle gsu tat tfa cco cct cac caf cwe ms mkp mtx mso mmy mit gma gpi gst ghe gow gfa gqu glo ghi gby gib tto cfo cff ccl tp T), 0, 0)
      refine stp hm 2 (br hf (fun c3 hf => ?_) (fun c3 hf => ?_))
      · show sxWP sc cl Q 131 (42, [some (.ref 0), some (.int (2:Int32)), some (.int v2), some (.int v3)], [], (wF im nrg nld nmt nps npl npw npr nss nso nsq nes neo neq ngs ngo ngq krg kld kmt kps kpl kpw kpr kss kso ksq kes keo keq kgs kgo kgq okn org osi oti ole oto oow oco ost owa owv owh olo ohi ora odi oqu skd sdp sfd sop str spr rsz rcl rsg rst mrg mkr mik msz gle gsu tat tfa cco cct cac caf cwe ms mkp mtx mso mmy mit gma gpi gst ghe gow gfa gqu glo ghi gby gib tto cfo cff ccl tp T), 0, 0)
        exact J42 _ _ _ _ _ _ _ hf
      · show sxWP sc cl Q 131 (31, [some (.ref 0), some (.int (2:Int32)), some (.int v2), some (.int v3)], [], (wF im nrg nld nmt nps npl npw npr nss nso nsq nes neo neq ngs ngo ngq krg kld kmt kps kpl kpw kpr kss kso ksq kes keo keq kgs kgo kgq okn org osi oti ole oto oow oco ost owa owv owh olo ohi ora odi oqu skd sdp sfd sop str spr rsz rcl rsg rst mrg mkr mik msz gle gsu tat tfa cco cct cac caf cwe ms mkp mtx mso mmy mit gma gpi gst ghe gow gfa gqu glo ghi gby gib tto cfo cff ccl tp T), 0, 0)
        refine stp hm 3 (br hf (fun c4 hf => ?_) (fun c4 hf => ?_))
        · show sxWP sc cl Q 131 (42, [some (.ref 0), some (.int (2:Int32)), some (.int v2), some (.int v3)], [], (wF im nrg nld nmt nps npl npw npr nss nso nsq nes neo neq ngs ngo ngq krg kld kmt kps kpl kpw kpr kss kso ksq kes keo keq kgs kgo kgq okn org osi oti ole oto oow oco ost owa owv owh olo ohi ora odi oqu skd sdp sfd sop str spr rsz rcl rsg rst mrg mkr mik msz gle gsu tat tfa cco cct cac caf cwe ms mkp mtx mso mmy mit gma gpi gst ghe gow gfa gqu glo ghi gby gib tto cfo cff ccl tp T), 0, 0)
          exact J42 _ _ _ _ _ _ _ hf
        · show sxWP sc cl Q 131 (36, [some (.ref 0), some (.int (2:Int32)), some (.int v2), some (.int v3)], [], (wF im nrg nld nmt nps npl npw npr nss nso nsq nes neo neq ngs ngo ngq krg kld kmt kps kpl kpw kpr kss kso ksq kes keo keq kgs kgo kgq okn org osi oti ole oto oow oco ost owa owv owh olo ohi ora odi oqu skd sdp sfd sop str spr rsz rcl rsg rst mrg mkr mik msz gle gsu tat tfa cco cct cac caf cwe ms mkp mtx mso mmy mit gma gpi gst ghe gow gfa gqu glo ghi gby gib tto cfo cff ccl tp T), 0, 0)
          refine stp hm 3 (br hf (fun c5 hf => ?_) (fun c5 hf => ?_))
          · show sxWP sc cl Q 131 (45, [some (.ref 0), some (.int (2:Int32)), some (.int v2), some (.int v3)], [], (wF im nrg nld nmt nps npl npw npr nss nso nsq nes neo neq ngs ngo ngq krg kld kmt kps kpl kpw kpr kss kso ksq kes keo keq kgs kgo kgq okn org osi oti ole oto oow oco ost owa owv owh olo ohi ora odi oqu skd sdp sfd sop str spr rsz rcl rsg rst mrg mkr mik msz gle gsu tat tfa cco cct cac caf cwe ms mkp mtx mso mmy mit gma gpi gst ghe gow gfa gqu glo ghi gby gib tto cfo cff ccl tp T), 0, 0)
            refine stp hm 2 (br hf (fun c6 hf => ?_) (fun c6 hf => ?_))
            · show sxWP sc cl Q 131 (52, [some (.ref 0), some (.int (2:Int32)), some (.int v2), some (.int v3)], [], (wF im nrg nld nmt nps npl npw npr nss nso nsq nes neo neq ngs ngo ngq krg kld kmt kps kpl kpw kpr kss kso ksq kes keo keq kgs kgo kgq okn org osi oti ole oto oow oco ost owa owv owh olo ohi ora odi oqu skd sdp sfd sop str spr rsz rcl rsg rst mrg mkr mik msz gle gsu tat tfa cco cct cac caf cwe ms mkp mtx mso mmy mit gma gpi gst ghe gow gfa gqu glo ghi gby gib tto cfo cff ccl tp T), 0, 0)
              refine stp hm 4 (And.intro (gi_in (by decide)) (?_ : sxWP sc cl Q 131 (58, [some (.ref 0), some (.int (2:Int32)), some (.int v2), some (.int v3)], [.ref 51], (wF im nrg nld nmt nps npl npw npr nss nso nsq nes neo neq ngs ngo ngq krg kld kmt kps kpl kpw kpr kss kso ksq kes keo keq kgs kgo kgq okn org osi oti ole oto oow oco ost owa owv owh olo ohi ora odi oqu skd sdp sfd sop str spr rsz rcl rsg rst mrg mkr mik msz gle gsu tat tfa cco cct cac caf cwe ms mkp mtx mso mmy mit gma gpi gst ghe gow gfa gqu glo ghi gby gib tto cfo cff ccl tp T), 0, 0)))
              obtain ⟨q7, hq7, hf⟩ := bnd hf
              refine stp hm 3 (T_become_3_ok (q := q7) hE (by exact hq7) ?_)
              show sxWP sc cl Q 131 (63, [some (.ref 0), some (.int (2:Int32)), some (.int v2), some (.int v3)], [], (wF im nrg nld nmt nps npl npw npr nss nso nsq nes neo neq ngs ngo ngq krg kld kmt kps kpl kpw kpr kss kso ksq kes keo keq kgs kgo kgq okn org osi oti ole oto oow oco ost owa owv owh olo ohi ora odi oqu skd sdp sfd sop str spr rsz rcl rsg rst mrg mkr mik msz gle gsu tat tfa cco cct cac caf cwe ms mkp mtx mso mmy mit gma gpi gst ghe gow gfa gqu glo ghi gby gib tto cfo cff ccl (tpU tp 2 (q7.1, q7.2.1, q7.2.2)) T), 0, 0)
              obtain rfl := Option.some.inj hf
              refine stp hm 2 ?_
              exact h
            · show sxWP sc cl Q 131 (49, [some (.ref 0), some (.int (2:Int32)), some (.int v2), some (.int v3)], [], (wF im nrg nld nmt nps npl npw npr nss nso nsq nes neo neq ngs ngo ngq krg kld kmt kps kpl kpw kpr kss kso ksq kes keo keq kgs kgo kgq okn org osi oti ole oto oow oco ost owa owv owh olo ohi ora odi oqu skd sdp sfd sop str spr rsz rcl rsg rst mrg mkr mik msz gle gsu tat tfa cco cct cac caf cwe ms mkp mtx mso mmy mit gma gpi gst ghe gow gfa gqu glo ghi gby gib tto cfo cff ccl tp T), 0, 0)
              obtain rfl := Option.some.inj hf
              refine stp hm 2 ?_
              exact h
          · show sxWP sc cl Q 131 (42, [some (.ref 0), some (.int (2:Int32)), some (.int v2), some (.int v3)], [], (wF im nrg nld nmt nps npl npw npr nss nso nsq nes neo neq ngs ngo ngq krg kld kmt kps kpl kpw kpr kss kso ksq kes keo keq kgs kgo kgq okn org osi oti ole oto oow oco ost owa owv owh olo ohi ora odi oqu skd sdp sfd sop str spr rsz rcl rsg rst mrg mkr mik msz gle gsu tat tfa cco cct cac caf cwe ms mkp mtx mso mmy mit gma gpi gst ghe gow gfa gqu glo ghi gby gib tto cfo cff ccl tp T), 0, 0)
            exact J42 _ _ _ _ _ _ _ hf
    · show sxWP sc cl Q 131 (14, [some (.ref 0), some (.int (2:Int32)), some (.int v2), some (.int v3)], [], (wF im nrg nld nmt nps npl npw npr nss nso nsq nes neo neq ngs ngo ngq krg kld kmt kps kpl kpw kpr kss kso ksq kes keo keq kgs kgo kgq okn org osi oti ole oto oow oco ost owa owv owh olo ohi ora odi oqu skd sdp sfd sop str spr rsz rcl rsg rst mrg mkr mik msz gle gsu tat tfa cco cct cac caf cwe ms mkp mtx mso mmy mit gma gpi gst ghe gow gfa gqu glo ghi gby gib tto cfo cff ccl tp T), 0, 0)
      refine stp hm 4 (And.intro (gi_in (by decide)) (?_ : sxWP sc cl Q 131 (20, [some (.ref 0), some (.int (2:Int32)), some (.int v2), some (.int v3)], [.ref 51], (wF im nrg nld nmt nps npl npw npr nss nso nsq nes neo neq ngs ngo ngq krg kld kmt kps kpl kpw kpr kss kso ksq kes keo keq kgs kgo kgq okn org osi oti ole oto oow oco ost owa owv owh olo ohi ora odi oqu skd sdp sfd sop str spr rsz rcl rsg rst mrg mkr mik msz gle gsu tat tfa cco cct cac caf cwe ms mkp mtx mso mmy mit gma gpi gst ghe gow gfa gqu glo ghi gby gib tto cfo cff ccl tp T), 0, 0)))
      obtain ⟨q8, hq8, hf⟩ := bnd hf
      refine stp hm 3 (T_become_3_ok (q := q8) hE (by exact hq8) ?_)
      show sxWP sc cl Q 131 (25, [some (.ref 0), some (.int (2:Int32)), some (.int v2), some (.int v3)], [], (wF im nrg nld nmt nps npl npw npr nss nso nsq nes neo neq ngs ngo ngq krg kld kmt kps kpl kpw kpr kss kso ksq kes keo keq kgs kgo kgq okn org osi oti ole oto oow oco ost owa owv owh olo ohi ora odi oqu skd sdp sfd sop str spr rsz rcl rsg rst mrg mkr mik msz gle gsu tat tfa cco cct cac caf cwe ms mkp mtx mso mmy mit gma gpi gst ghe gow gfa gqu glo ghi gby gib tto cfo cff ccl (tpU tp 2 (q8.1, q8.2.1, q8.2.2)) T), 0, 0)
      obtain rfl := Option.some.inj hf
      refine stp hm 2 ?_
      exact h
  · show sxWP sc cl Q 131 (7, [some (.ref 0), some (.int (2:Int32)), some (.int v2), some (.int v3)], [], (wF im nrg nld nmt nps npl npw npr nss nso nsq nes neo neq ngs ngo ngq krg kld kmt kps kpl kpw kpr kss kso ksq kes keo keq kgs kgo kgq okn org osi oti ole oto oow oco ost owa owv owh olo ohi ora odi oqu skd sdp sfd sop str spr rsz rcl rsg rst mrg mkr mik msz gle gsu tat tfa cco cct cac caf cwe ms mkp mtx mso mmy mit gma gpi gst ghe gow gfa gqu glo ghi gby gib tto cfo cff ccl tp T), 0, 0)
    obtain rfl := Option.some.inj hf
    refine stp hm 2 ?_
    exact h
set_option maxRecDepth 10000 in
theorem J_Arrays_fillL_4_l6 {v1 : Int64} {v4 : Int32}   (hE : cl = sxE sc (d + 0)) (hm : CallMono cl) : ∀ (n : Nat) (s : (Int32 × (Nat → Int64))) (r : (Nat → Int64)), wh (J_Arrays_fillL_s6 v1 v4) n s = some r → (∀ (z0 z1 z2 z3 z4 : Option Value), sxWP sc cl Q 254 (22, [z0, z1, z2, z3, z4], [], (wF im nrg nld nmt nps npl npw npr nss nso nsq nes neo neq ngs ngo ngq krg kld kmt kps kpl kpw kpr kss kso ksq kes keo keq kgs kgo kgq okn org osi oti ole oto oow oco ost owa owv owh olo ohi ora odi oqu skd sdp sfd sop str spr rsz rcl rsg rst mrg mkr mik msz gle gsu tat tfa cco cct cac caf cwe ms mkp mtx mso mmy mit gma gpi gst ghe gow gfa gqu glo ghi gby gib tto cfo cff ccl (tpU tp 3 ((tp 3).1, (tp 3).2.1, r)) T), 0, 0)) → sxWP sc cl Q 254 (6, [some (.ref 54), some (.long v1), none, some (.int s.1), some (.int v4)], [], (wF im nrg nld nmt nps npl npw npr nss nso nsq nes neo neq ngs ngo ngq krg kld kmt kps kpl kpw kpr kss kso ksq kes keo keq kgs kgo kgq okn org osi oti ole oto oow oco ost owa owv owh olo ohi ora odi oqu skd sdp sfd sop str spr rsz rcl rsg rst mrg mkr mik msz gle gsu tat tfa cco cct cac caf cwe ms mkp mtx mso mmy mit gma gpi gst ghe gow gfa gqu glo ghi gby gib tto cfo cff ccl (tpU tp 3 ((tp 3).1, (tp 3).2.1, s.2)) T), 0, 0) := by
  refine wh_run (A := fun (s : (Int32 × (Nat → Int64))) => sxWP sc cl Q 254 (6, [some (.ref 54), some (.long v1), none, some (.int s.1), some (.int v4)], [], (wF im nrg nld nmt nps npl npw npr nss nso nsq nes neo neq ngs ngo ngq krg kld kmt kps kpl kpw kpr kss kso ksq kes keo keq kgs kgo kgq okn org osi oti ole oto oow oco ost owa owv owh olo ohi ora odi oqu skd sdp sfd sop str spr rsz rcl rsg rst mrg mkr mik msz gle gsu tat tfa cco cct cac caf cwe ms mkp mtx mso mmy mit gma gpi gst ghe gow gfa gqu glo ghi gby gib tto cfo cff ccl (tpU tp 3 ((tp 3).1, (tp 3).2.1, s.2)) T), 0, 0)) (B := fun (r : (Nat → Int64)) => ∀ (z0 z1 z2 z3 z4 : Option Value), sxWP sc cl Q 254 (22, [z0, z1, z2, z3, z4], [], (wF im nrg nld nmt nps npl npw npr nss nso nsq nes neo neq ngs ngo ngq krg kld kmt kps kpl kpw kpr kss kso ksq kes keo keq kgs kgo kgq okn org osi oti ole oto oow oco ost owa owv owh olo ohi ora odi oqu skd sdp sfd sop str spr rsz rcl rsg rst mrg mkr mik msz gle gsu tat tfa cco cct cac caf cwe ms mkp mtx mso mmy mit gma gpi gst ghe gow gfa gqu glo ghi gby gib tto cfo cff ccl (tpU tp 3 ((tp 3).1, (tp 3).2.1, r)) T), 0, 0)) (fun s x hf hA hB => ?_)
  unfold J_Arrays_fillL_s6 at hf
  refine stp hm 3 (br hf (fun c1 hf => ?_) (fun c1 hf => ?_))
  · show sxWP sc cl Q 254 (22, [some (.ref 54), some (.long v1), none, some (.int s.1), some (.int v4)], [], (wF im nrg nld nmt nps npl npw npr nss nso nsq nes neo neq ngs ngo ngq krg kld kmt kps kpl kpw kpr kss kso ksq kes keo keq kgs kgo kgq okn org osi oti ole oto oow oco ost owa owv owh olo ohi ora odi oqu skd sdp sfd sop str spr rsz rcl rsg rst mrg mkr mik msz gle gsu tat tfa cco cct cac caf cwe ms mkp mtx mso mmy mit gma gpi gst ghe gow gfa gqu glo ghi gby gib tto cfo cff ccl (tpU tp 3 ((tp 3).1, (tp 3).2.1, s.2)) T), 0, 0)
    obtain rfl := Option.some.inj hf
    exact hB _ rfl _ _ _ _ _
  · show sxWP sc cl Q 254 (12, [some (.ref 54), some (.long v1), none, some (.int s.1), some (.int v4)], [], (wF im nrg nld nmt nps npl npw npr nss nso nsq nes neo neq ngs ngo ngq krg kld kmt kps kpl kpw kpr kss kso ksq kes keo keq kgs kgo kgq okn org osi oti ole oto oow oco ost owa owv owh olo ohi ora odi oqu skd sdp sfd sop str spr rsz rcl rsg rst mrg mkr mik msz gle gsu tat tfa cco cct cac caf cwe ms mkp mtx mso mmy mit gma gpi gst ghe gow gfa gqu glo ghi gby gib tto cfo cff ccl (tpU tp 3 ((tp 3).1, (tp 3).2.1, s.2)) T), 0, 0)
    obtain ⟨g2, hf⟩ := grd_e hf
    refine stp hm 4 (And.intro (gi_in g2) (?_ : sxWP sc cl Q 254 (16, [some (.ref 54), some (.long v1), none, some (.int s.1), some (.int v4)], [], (wF im nrg nld nmt nps npl npw npr nss nso nsq nes neo neq ngs ngo ngq krg kld kmt kps kpl kpw kpr kss kso ksq kes keo keq kgs kgo kgq okn org osi oti ole oto oow oco ost owa owv owh olo ohi ora odi oqu skd sdp sfd sop str spr rsz rcl rsg rst mrg mkr mik msz gle gsu tat tfa cco cct cac caf cwe ms mkp mtx mso mmy mit gma gpi gst ghe gow gfa gqu glo ghi gby gib tto cfo cff ccl (tpU tp 3 ((tp 3).1, (tp 3).2.1, vp_updL s.2 s.1.toNatClampNeg v1)) T), 0, 0)))
    obtain rfl := Option.some.inj hf
    refine stp hm 2 (?_ : sxWP sc cl Q 254 (6, [some (.ref 54), some (.long v1), none, some (.int (s.1 + (1:Int32))), some (.int v4)], [], (wF im nrg nld nmt nps npl npw npr nss nso nsq nes neo neq ngs ngo ngq krg kld kmt kps kpl kpw kpr kss kso ksq kes keo keq kgs kgo kgq okn org osi oti ole oto oow oco ost owa owv owh olo ohi ora odi oqu skd sdp sfd sop str spr rsz rcl rsg rst mrg mkr mik msz gle gsu tat tfa cco cct cac caf cwe ms mkp mtx mso mmy mit gma gpi gst ghe gow gfa gqu glo ghi gby gib tto cfo cff ccl (tpU tp 3 ((tp 3).1, (tp 3).2.1, vp_updL s.2 s.1.toNatClampNeg v1)) T), 0, 0))
    exact hA _ rfl
set_option maxRecDepth 10000 in
theorem J_Arrays_fillL_4_ok {v1 : Int64} {q : (Nat → Int64)} (hc : call = sxE sc (d + 1)) (hf : J_Arrays_fillL v1 ((tp 3).2.2) = some q) (h : Q none (wF im nrg nld nmt nps npl npw npr nss nso nsq nes neo neq ngs ngo ngq krg kld kmt kps kpl kpw kpr kss kso ksq kes keo keq kgs kgo kgq okn org osi oti ole oto oow oco ost owa owv owh olo ohi ora odi oqu skd sdp sfd sop str spr rsz rcl rsg rst mrg mkr mik msz gle gsu tat tfa cco cct cac caf cwe ms mkp mtx mso mmy mit gma gpi gst ghe gow gfa gqu glo ghi gby gib tto cfo cff ccl (tpU tp 3 ((tp 3).1, (tp 3).2.1, q)) T)) : call 254 [.ref 54, .long v1] (wF im nrg nld nmt nps npl npw npr nss nso nsq nes neo neq ngs ngo ngq krg kld kmt kps kpl kpw kpr kss kso ksq kes keo keq kgs kgo kgq okn org osi oti ole oto oow oco ost owa owv owh olo ohi ora odi oqu skd sdp sfd sop str spr rsz rcl rsg rst mrg mkr mik msz gle gsu tat tfa cco cct cac caf cwe ms mkp mtx mso mmy mit gma gpi gst ghe gow gfa gqu glo ghi gby gib tto cfo cff ccl tp T) Q := by
  refine ent hc rfl (fun cl hE hm => ?_)
  unfold J_Arrays_fillL at hf
  obtain ⟨w1, hw1, hf⟩ := bnd hf
  refine stp hm 5 (?_ : sxWP sc cl Q 254 (6, [some (.ref 54), some (.long v1), none, some (.int (0:Int32)), some (.int (Int32.ofNat 60))], [], (wF im nrg nld nmt nps npl npw npr nss nso nsq nes neo neq ngs ngo ngq krg kld kmt kps kpl kpw kpr kss kso ksq kes keo keq kgs kgo kgq okn org osi oti ole oto oow oco ost owa owv owh olo ohi ora odi oqu skd sdp sfd sop str spr rsz rcl rsg rst mrg mkr mik msz gle gsu tat tfa cco cct cac caf cwe ms mkp mtx mso mmy mit gma gpi gst ghe gow gfa gqu glo ghi gby gib tto cfo cff ccl tp T), 0, 0))
  refine J_Arrays_fillL_4_l6 hE hm FU ((0:Int32), (tp 3).2.2) w1 (by exact hw1) ?_
  intro w1_z0 w1_z1 w1_z2 w1_z3 w1_z4
  show sxWP sc cl Q 254 (22, [w1_z0, w1_z1, w1_z2, w1_z3, w1_z4], [], (wF im nrg nld nmt nps npl npw npr nss nso nsq nes neo neq ngs ngo ngq krg kld kmt kps kpl kpw kpr kss kso ksq kes keo keq kgs kgo kgq okn org osi oti ole oto oow oco ost owa owv owh olo ohi ora odi oqu skd sdp sfd sop str spr rsz rcl rsg rst mrg mkr mik msz gle gsu tat tfa cco cct cac caf cwe ms mkp mtx mso mmy mit gma gpi gst ghe gow gfa gqu glo ghi gby gib tto cfo cff ccl (tpU tp 3 ((tp 3).1, (tp 3).2.1, w1)) T), 0, 0)
  obtain rfl := Option.some.inj hf
  refine stp hm 1 ?_
  exact h
set_option maxRecDepth 10000 in
theorem T_become_4_ok {v1 : Int32} {v2 : Int32} {q : (Int32 × Int32 × (Nat → Int64))} (hc : call = sxE sc (d + 2)) (hf : T_become v1 v2 ((tp 3).2.2) = some q) (h : Q none (wF im nrg nld nmt nps npl npw npr nss nso nsq nes neo neq ngs ngo ngq krg kld kmt kps kpl kpw kpr kss kso ksq kes keo keq kgs kgo kgq okn org osi oti ole oto oow oco ost owa owv owh olo ohi ora odi oqu skd sdp sfd sop str spr rsz rcl rsg rst mrg mkr mik msz gle gsu tat tfa cco cct cac caf cwe ms mkp mtx mso mmy mit gma gpi gst ghe gow gfa gqu glo ghi gby gib tto cfo cff ccl (tpU tp 3 (q.1, q.2.1, q.2.2)) T)) : call 83 [.ref 53, .int v1, .int v2] (wF im nrg nld nmt nps npl npw npr nss nso nsq nes neo neq ngs ngo ngq krg kld kmt kps kpl kpw kpr kss kso ksq kes keo keq kgs kgo kgq okn org osi oti ole oto oow oco ost owa owv owh olo ohi ora odi oqu skd sdp sfd sop str spr rsz rcl rsg rst mrg mkr mik msz gle gsu tat tfa cco cct cac caf cwe ms mkp mtx mso mmy mit gma gpi gst ghe gow gfa gqu glo ghi gby gib tto cfo cff ccl tp T) Q := by
  refine ent hc rfl (fun cl hE hm => ?_)
  unfold T_become at hf
  refine stp hm 9 (?_ : sxWP sc cl Q 83 (15, [some (.ref 53), some (.int v1), some (.int v2)], [.long (0:Int64), .ref 54], (wF im nrg nld nmt nps npl npw npr nss nso nsq nes neo neq ngs ngo ngq krg kld kmt kps kpl kpw kpr kss kso ksq kes keo keq kgs kgo kgq okn org osi oti ole oto oow oco ost owa owv owh olo ohi ora odi oqu skd sdp sfd sop str spr rsz rcl rsg rst mrg mkr mik msz gle gsu tat tfa cco cct cac caf cwe ms mkp mtx mso mmy mit gma gpi gst ghe gow gfa gqu glo ghi gby gib tto cfo cff ccl (tpU tp 3 (v1, v2, (tp 3).2.2)) T), 0, 0))
  obtain ⟨q1, hq1, hf⟩ := bnd hf
  refine stp hm 1 (J_Arrays_fillL_4_ok (q := q1) hE (by exact hq1) ?_)
  show sxWP sc cl Q 83 (18, [some (.ref 53), some (.int v1), some (.int v2)], [], (wF im nrg nld nmt nps npl npw npr nss nso nsq nes neo neq ngs ngo ngq krg kld kmt kps kpl kpw kpr kss kso ksq kes keo keq kgs kgo kgq okn org osi oti ole oto oow oco ost owa owv owh olo ohi ora odi oqu skd sdp sfd sop str spr rsz rcl rsg rst mrg mkr mik msz gle gsu tat tfa cco cct cac caf cwe ms mkp mtx mso mmy mit gma gpi gst ghe gow gfa gqu glo ghi gby gib tto cfo cff ccl (tpU tp 3 (v1, v2, q1)) T), 0, 0)
  obtain rfl := Option.some.inj hf
  refine stp hm 1 ?_
  exact h
set_option maxRecDepth 10000 in
theorem X_tape_5_ok {v2 : Int32} {v3 : Int32} {q : (Int32 × Int32 × Int32 × (Nat → Int64))} (hc : call = sxE sc (d + 3)) (hf : X_tape_2 (3:Int32) v2 v3 ((tp 3).1) ((tp 3).2.1) ((tp 3).2.2) = some q) (h : Q (some (.int q.1)) (wF im nrg nld nmt nps npl npw npr nss nso nsq nes neo neq ngs ngo ngq krg kld kmt kps kpl kpw kpr kss kso ksq kes keo keq kgs kgo kgq okn org osi oti ole oto oow oco ost owa owv owh olo ohi ora odi oqu skd sdp sfd sop str spr rsz rcl rsg rst mrg mkr mik msz gle gsu tat tfa cco cct cac caf cwe ms mkp mtx mso mmy mit gma gpi gst ghe gow gfa gqu glo ghi gby gib tto cfo cff ccl (tpU tp 3 (q.2.1, q.2.2.1, q.2.2.2)) T)) : call 131 [.ref 0, .int (3:Int32), .int v2, .int v3] (wF im nrg nld nmt nps npl npw npr nss nso nsq nes neo neq ngs ngo ngq krg kld kmt kps kpl kpw kpr kss kso ksq kes keo keq kgs kgo kgq okn org osi oti ole oto oow oco ost owa owv owh olo ohi ora odi oqu skd sdp sfd sop str spr rsz rcl rsg rst mrg mkr mik msz gle gsu tat tfa cco cct cac caf cwe ms mkp mtx mso mmy mit gma gpi gst ghe gow gfa gqu glo ghi gby gib tto cfo cff ccl tp T) Q := by
  refine ent hc rfl (fun cl hE hm => ?_)
  have J42 : ∀ (tp3s_j : Int32) (tp3n_j : Int32) (tp3i_j : (Nat → Int64)) (z0 : Option Value) (z1 : Option Value) (z2 : Option Value) (z3 : Option Value), X_tape_2_j42 tp3s_j tp3n_j tp3i_j = some q → sxWP sc cl Q 131 (42, [z0, z1, z2, z3], [], (wF im nrg nld nmt nps npl npw npr nss nso nsq nes neo neq ngs ngo ngq krg kld kmt kps kpl kpw kpr kss kso ksq kes keo keq kgs kgo kgq okn org osi oti ole oto oow oco ost owa owv owh olo ohi ora odi oqu skd sdp sfd sop str spr rsz rcl rsg rst mrg mkr mik msz gle gsu tat tfa cco cct cac caf cwe ms mkp mtx mso mmy mit gma gpi gst ghe gow gfa gqu glo ghi gby gib tto cfo cff ccl (tpU tp 3 (tp3s_j, tp3n_j, tp3i_j)) T), 0, 0) := by
    intro tp3s_j tp3n_j tp3i_j z0 z1 z2 z3 hf
    unfold X_tape_2_j42 at hf
    obtain rfl := Option.some.inj hf
    refine stp hm 2 ?_
    exact h
  unfold X_tape_2 at hf
  refine stp hm 2 (X_isTape_ok hE rfl ?_)
  show sxWP sc cl Q 131 (4, [some (.ref 0), some (.int (3:Int32)), some (.int v2), some (.int v3)], [.int (X_isTape (3:Int32))], (wF im nrg nld nmt nps npl npw npr nss nso nsq nes neo neq ngs ngo ngq krg kld kmt kps kpl kpw kpr kss kso ksq kes keo keq kgs kgo kgq okn org osi oti ole oto oow oco ost owa owv owh olo ohi ora odi oqu skd sdp sfd sop str spr rsz rcl rsg rst mrg mkr mik msz gle gsu tat tfa cco cct cac caf cwe ms mkp mtx mso mmy mit gma gpi gst ghe gow gfa gqu glo ghi gby gib tto cfo cff ccl tp T), 0, 0)
  refine stp hm 1 (brn hf (fun c1 hf => ?_) (fun c1 hf => ?_))
  · show sxWP sc cl Q 131 (9, [some (.ref 0), some (.int (3:Int32)), some (.int v2), some (.int v3)], [], (wF im nrg nld nmt nps npl npw npr nss nso nsq nes neo neq ngs ngo ngq krg kld kmt kps kpl kpw kpr kss kso ksq kes keo keq kgs kgo kgq okn org osi oti ole oto oow oco ost owa owv owh olo ohi ora odi oqu skd sdp sfd sop str spr rsz rcl rsg rst mrg mkr mik msz gle gsu tat tfa cco cct cac caf cwe ms mkp mtx mso mmy mit gma gpi gst ghe gow gfa gqu glo ghi gby gib tto cfo cff ccl tp T), 0, 0)
    refine stp hm 3 (brn hf (fun c2 hf => ?_) (fun c2 hf => ?_))
    · show sxWP sc cl Q 131 (27, [some (.ref 0), some (.int (3:Int32)), some (.int v2), some (.int v3)], [], (wF im nrg nld nmt nps npl npw npr nss nso nsq nes neo neq ngs ngo ngq krg kld kmt kps kpl kpw kpr kss kso ksq kes keo keq kgs kgo kgq okn org osi oti ole oto oow oco ost owa owv owh olo ohi ora odi oqu skd sdp sfd sop str spr rsz rcl rsg rst mrg mkr mik msz gle gsu tat tfa cco cct cac caf cwe ms mkp mtx mso mmy mit gma gpi gst ghe gow gfa gqu glo ghi gby gib tto cfo cff ccl tp T), 0, 0)
      refine stp hm 2 (br hf (fun c3 hf => ?_) (fun c3 hf => ?_))
      · show sxWP sc cl Q 131 (42, [some (.ref 0), some (.int (3:Int32)), some (.int v2), some (.int v3)], [], (wF im nrg nld nmt nps npl npw npr nss nso nsq nes neo neq ngs ngo ngq krg kld kmt kps kpl kpw kpr kss kso ksq kes keo keq kgs kgo kgq okn org osi oti ole oto oow oco ost owa owv owh olo ohi ora odi oqu skd sdp sfd sop str spr rsz rcl rsg rst mrg mkr mik msz gle gsu tat tfa cco cct cac caf cwe ms mkp mtx mso mmy mit gma gpi gst ghe gow gfa gqu glo ghi gby gib tto cfo cff ccl tp T), 0, 0)
        exact J42 _ _ _ _ _ _ _ hf
      · show sxWP sc cl Q 131 (31, [some (.ref 0), some (.int (3:Int32)), some (.int v2), some (.int v3)], [], (wF im nrg nld nmt nps npl npw npr nss nso nsq nes neo neq ngs ngo ngq krg kld kmt kps kpl kpw kpr kss kso ksq kes keo keq kgs kgo kgq okn org osi oti ole oto oow oco ost owa owv owh olo ohi ora odi oqu skd sdp sfd sop str spr rsz rcl rsg rst mrg mkr mik msz gle gsu tat tfa cco cct cac caf cwe ms mkp mtx mso mmy mit gma gpi gst ghe gow gfa gqu glo ghi gby gib tto cfo cff ccl tp T), 0, 0)
        refine stp hm 3 (br hf (fun c4 hf => ?_) (fun c4 hf => ?_))
        · show sxWP sc cl Q 131 (42, [some (.ref 0), some (.int (3:Int32)), some (.int v2), some (.int v3)], [], (wF im nrg nld nmt nps npl npw npr nss nso nsq nes neo neq ngs ngo ngq krg kld kmt kps kpl kpw kpr kss kso ksq kes keo keq kgs kgo kgq okn org osi oti ole oto oow oco ost owa owv owh olo ohi ora odi oqu skd sdp sfd sop str spr rsz rcl rsg rst mrg mkr mik msz gle gsu tat tfa cco cct cac caf cwe ms mkp mtx mso mmy mit gma gpi gst ghe gow gfa gqu glo ghi gby gib tto cfo cff ccl tp T), 0, 0)
          exact J42 _ _ _ _ _ _ _ hf
        · show sxWP sc cl Q 131 (36, [some (.ref 0), some (.int (3:Int32)), some (.int v2), some (.int v3)], [], (wF im nrg nld nmt nps npl npw npr nss nso nsq nes neo neq ngs ngo ngq krg kld kmt kps kpl kpw kpr kss kso ksq kes keo keq kgs kgo kgq okn org osi oti ole oto oow oco ost owa owv owh olo ohi ora odi oqu skd sdp sfd sop str spr rsz rcl rsg rst mrg mkr mik msz gle gsu tat tfa cco cct cac caf cwe ms mkp mtx mso mmy mit gma gpi gst ghe gow gfa gqu glo ghi gby gib tto cfo cff ccl tp T), 0, 0)
          refine stp hm 3 (br hf (fun c5 hf => ?_) (fun c5 hf => ?_))
          · show sxWP sc cl Q 131 (45, [some (.ref 0), some (.int (3:Int32)), some (.int v2), some (.int v3)], [], (wF im nrg nld nmt nps npl npw npr nss nso nsq nes neo neq ngs ngo ngq krg kld kmt kps kpl kpw kpr kss kso ksq kes keo keq kgs kgo kgq okn org osi oti ole oto oow oco ost owa owv owh olo ohi ora odi oqu skd sdp sfd sop str spr rsz rcl rsg rst mrg mkr mik msz gle gsu tat tfa cco cct cac caf cwe ms mkp mtx mso mmy mit gma gpi gst ghe gow gfa gqu glo ghi gby gib tto cfo cff ccl tp T), 0, 0)
            refine stp hm 2 (br hf (fun c6 hf => ?_) (fun c6 hf => ?_))
            · show sxWP sc cl Q 131 (52, [some (.ref 0), some (.int (3:Int32)), some (.int v2), some (.int v3)], [], (wF im nrg nld nmt nps npl npw npr nss nso nsq nes neo neq ngs ngo ngq krg kld kmt kps kpl kpw kpr kss kso ksq kes keo keq kgs kgo kgq okn org osi oti ole oto oow oco ost owa owv owh olo ohi ora odi oqu skd sdp sfd sop str spr rsz rcl rsg rst mrg mkr mik msz gle gsu tat tfa cco cct cac caf cwe ms mkp mtx mso mmy mit gma gpi gst ghe gow gfa gqu glo ghi gby gib tto cfo cff ccl tp T), 0, 0)
              refine stp hm 4 (And.intro (gi_in (by decide)) (?_ : sxWP sc cl Q 131 (58, [some (.ref 0), some (.int (3:Int32)), some (.int v2), some (.int v3)], [.ref 53], (wF im nrg nld nmt nps npl npw npr nss nso nsq nes neo neq ngs ngo ngq krg kld kmt kps kpl kpw kpr kss kso ksq kes keo keq kgs kgo kgq okn org osi oti ole oto oow oco ost owa owv owh olo ohi ora odi oqu skd sdp sfd sop str spr rsz rcl rsg rst mrg mkr mik msz gle gsu tat tfa cco cct cac caf cwe ms mkp mtx mso mmy mit gma gpi gst ghe gow gfa gqu glo ghi gby gib tto cfo cff ccl tp T), 0, 0)))
              obtain ⟨q7, hq7, hf⟩ := bnd hf
              refine stp hm 3 (T_become_4_ok (q := q7) hE (by exact hq7) ?_)
              show sxWP sc cl Q 131 (63, [some (.ref 0), some (.int (3:Int32)), some (.int v2), some (.int v3)], [], (wF im nrg nld nmt nps npl npw npr nss nso nsq nes neo neq ngs ngo ngq krg kld kmt kps kpl kpw kpr kss kso ksq kes keo keq kgs kgo kgq okn org osi oti ole oto oow oco ost owa owv owh olo ohi ora odi oqu skd sdp sfd sop str spr rsz rcl rsg rst mrg mkr mik msz gle gsu tat tfa cco cct cac caf cwe ms mkp mtx mso mmy mit gma gpi gst ghe gow gfa gqu glo ghi gby gib tto cfo cff ccl (tpU tp 3 (q7.1, q7.2.1, q7.2.2)) T), 0, 0)
              obtain rfl := Option.some.inj hf
              refine stp hm 2 ?_
              exact h
            · show sxWP sc cl Q 131 (49, [some (.ref 0), some (.int (3:Int32)), some (.int v2), some (.int v3)], [], (wF im nrg nld nmt nps npl npw npr nss nso nsq nes neo neq ngs ngo ngq krg kld kmt kps kpl kpw kpr kss kso ksq kes keo keq kgs kgo kgq okn org osi oti ole oto oow oco ost owa owv owh olo ohi ora odi oqu skd sdp sfd sop str spr rsz rcl rsg rst mrg mkr mik msz gle gsu tat tfa cco cct cac caf cwe ms mkp mtx mso mmy mit gma gpi gst ghe gow gfa gqu glo ghi gby gib tto cfo cff ccl tp T), 0, 0)
              obtain rfl := Option.some.inj hf
              refine stp hm 2 ?_
              exact h
          · show sxWP sc cl Q 131 (42, [some (.ref 0), some (.int (3:Int32)), some (.int v2), some (.int v3)], [], (wF im nrg nld nmt nps npl npw npr nss nso nsq nes neo neq ngs ngo ngq krg kld kmt kps kpl kpw kpr kss kso ksq kes keo keq kgs kgo kgq okn org osi oti ole oto oow oco ost owa owv owh olo ohi ora odi oqu skd sdp sfd sop str spr rsz rcl rsg rst mrg mkr mik msz gle gsu tat tfa cco cct cac caf cwe ms mkp mtx mso mmy mit gma gpi gst ghe gow gfa gqu glo ghi gby gib tto cfo cff ccl tp T), 0, 0)
            exact J42 _ _ _ _ _ _ _ hf
    · show sxWP sc cl Q 131 (14, [some (.ref 0), some (.int (3:Int32)), some (.int v2), some (.int v3)], [], (wF im nrg nld nmt nps npl npw npr nss nso nsq nes neo neq ngs ngo ngq krg kld kmt kps kpl kpw kpr kss kso ksq kes keo keq kgs kgo kgq okn org osi oti ole oto oow oco ost owa owv owh olo ohi ora odi oqu skd sdp sfd sop str spr rsz rcl rsg rst mrg mkr mik msz gle gsu tat tfa cco cct cac caf cwe ms mkp mtx mso mmy mit gma gpi gst ghe gow gfa gqu glo ghi gby gib tto cfo cff ccl tp T), 0, 0)
      refine stp hm 4 (And.intro (gi_in (by decide)) (?_ : sxWP sc cl Q 131 (20, [some (.ref 0), some (.int (3:Int32)), some (.int v2), some (.int v3)], [.ref 53], (wF im nrg nld nmt nps npl npw npr nss nso nsq nes neo neq ngs ngo ngq krg kld kmt kps kpl kpw kpr kss kso ksq kes keo keq kgs kgo kgq okn org osi oti ole oto oow oco ost owa owv owh olo ohi ora odi oqu skd sdp sfd sop str spr rsz rcl rsg rst mrg mkr mik msz gle gsu tat tfa cco cct cac caf cwe ms mkp mtx mso mmy mit gma gpi gst ghe gow gfa gqu glo ghi gby gib tto cfo cff ccl tp T), 0, 0)))
      obtain ⟨q8, hq8, hf⟩ := bnd hf
      refine stp hm 3 (T_become_4_ok (q := q8) hE (by exact hq8) ?_)
      show sxWP sc cl Q 131 (25, [some (.ref 0), some (.int (3:Int32)), some (.int v2), some (.int v3)], [], (wF im nrg nld nmt nps npl npw npr nss nso nsq nes neo neq ngs ngo ngq krg kld kmt kps kpl kpw kpr kss kso ksq kes keo keq kgs kgo kgq okn org osi oti ole oto oow oco ost owa owv owh olo ohi ora odi oqu skd sdp sfd sop str spr rsz rcl rsg rst mrg mkr mik msz gle gsu tat tfa cco cct cac caf cwe ms mkp mtx mso mmy mit gma gpi gst ghe gow gfa gqu glo ghi gby gib tto cfo cff ccl (tpU tp 3 (q8.1, q8.2.1, q8.2.2)) T), 0, 0)
      obtain rfl := Option.some.inj hf
      refine stp hm 2 ?_
      exact h
  · show sxWP sc cl Q 131 (7, [some (.ref 0), some (.int (3:Int32)), some (.int v2), some (.int v3)], [], (wF im nrg nld nmt nps npl npw npr nss nso nsq nes neo neq ngs ngo ngq krg kld kmt kps kpl kpw kpr kss kso ksq kes keo keq kgs kgo kgq okn org osi oti ole oto oow oco ost owa owv owh olo ohi ora odi oqu skd sdp sfd sop str spr rsz rcl rsg rst mrg mkr mik msz gle gsu tat tfa cco cct cac caf cwe ms mkp mtx mso mmy mit gma gpi gst ghe gow gfa gqu glo ghi gby gib tto cfo cff ccl tp T), 0, 0)
    obtain rfl := Option.some.inj hf
    refine stp hm 2 ?_
    exact h
set_option maxRecDepth 10000 in
theorem J_Arrays_fillL_5_l6 {v1 : Int64} {v4 : Int32}   (hE : cl = sxE sc (d + 0)) (hm : CallMono cl) : ∀ (n : Nat) (s : (Int32 × (Nat → Int64))) (r : (Nat → Int64)), wh (J_Arrays_fillL_s6 v1 v4) n s = some r → (∀ (z0 z1 z2 z3 z4 : Option Value), sxWP sc cl Q 254 (22, [z0, z1, z2, z3, z4], [], (wF im nrg nld nmt nps npl npw npr nss nso nsq nes neo neq ngs ngo ngq krg kld kmt kps kpl kpw kpr kss kso ksq kes keo keq kgs kgo kgq okn org osi oti ole oto oow oco ost owa owv owh olo ohi ora odi oqu skd sdp sfd sop str spr rsz rcl rsg rst mrg mkr mik msz gle gsu tat tfa cco cct cac caf cwe ms mkp mtx mso mmy mit gma gpi gst ghe gow gfa gqu glo ghi gby gib tto cfo cff ccl (tpU tp 4 ((tp 4).1, (tp 4).2.1, r)) T), 0, 0)) → sxWP sc cl Q 254 (6, [some (.ref 56), some (.long v1), none, some (.int s.1), some (.int v4)], [], (wF im nrg nld nmt nps npl npw npr nss nso nsq nes neo neq ngs ngo ngq krg kld kmt kps kpl kpw kpr kss kso ksq kes keo keq kgs kgo kgq okn org osi oti ole oto oow oco ost owa owv owh olo ohi ora odi oqu skd sdp sfd sop str spr rsz rcl rsg rst mrg mkr mik msz gle gsu tat tfa cco cct cac caf cwe ms mkp mtx mso mmy mit gma gpi gst ghe gow gfa gqu glo ghi gby gib tto cfo cff ccl (tpU tp 4 ((tp 4).1, (tp 4).2.1, s.2)) T), 0, 0) := by
  refine wh_run (A := fun (s : (Int32 × (Nat → Int64))) => sxWP sc cl Q 254 (6, [some (.ref 56), some (.long v1), none, some (.int s.1), some (.int v4)], [], (wF im nrg nld nmt nps npl npw npr nss nso nsq nes neo neq ngs ngo ngq krg kld kmt kps kpl kpw kpr kss kso ksq kes keo keq kgs kgo kgq okn org osi oti ole oto oow oco ost owa owv owh olo ohi ora odi oqu skd sdp sfd sop str spr rsz rcl rsg rst mrg mkr mik msz gle gsu tat tfa cco cct cac caf cwe ms mkp mtx mso mmy mit gma gpi gst ghe gow gfa gqu glo ghi gby gib tto cfo cff ccl (tpU tp 4 ((tp 4).1, (tp 4).2.1, s.2)) T), 0, 0)) (B := fun (r : (Nat → Int64)) => ∀ (z0 z1 z2 z3 z4 : Option Value), sxWP sc cl Q 254 (22, [z0, z1, z2, z3, z4], [], (wF im nrg nld nmt nps npl npw npr nss nso nsq nes neo neq ngs ngo ngq krg kld kmt kps kpl kpw kpr kss kso ksq kes keo keq kgs kgo kgq okn org osi oti ole oto oow oco ost owa owv owh olo ohi ora odi oqu skd sdp sfd sop str spr rsz rcl rsg rst mrg mkr mik msz gle gsu tat tfa cco cct cac caf cwe ms mkp mtx mso mmy mit gma gpi gst ghe gow gfa gqu glo ghi gby gib tto cfo cff ccl (tpU tp 4 ((tp 4).1, (tp 4).2.1, r)) T), 0, 0)) (fun s x hf hA hB => ?_)
  unfold J_Arrays_fillL_s6 at hf
  refine stp hm 3 (br hf (fun c1 hf => ?_) (fun c1 hf => ?_))
  · show sxWP sc cl Q 254 (22, [some (.ref 56), some (.long v1), none, some (.int s.1), some (.int v4)], [], (wF im nrg nld nmt nps npl npw npr nss nso nsq nes neo neq ngs ngo ngq krg kld kmt kps kpl kpw kpr kss kso ksq kes keo keq kgs kgo kgq okn org osi oti ole oto oow oco ost owa owv owh olo ohi ora odi oqu skd sdp sfd sop str spr rsz rcl rsg rst mrg mkr mik msz gle gsu tat tfa cco cct cac caf cwe ms mkp mtx mso mmy mit gma gpi gst ghe gow gfa gqu glo ghi gby gib tto cfo cff ccl (tpU tp 4 ((tp 4).1, (tp 4).2.1, s.2)) T), 0, 0)
    obtain rfl := Option.some.inj hf
    exact hB _ rfl _ _ _ _ _
  · show sxWP sc cl Q 254 (12, [some (.ref 56), some (.long v1), none, some (.int s.1), some (.int v4)], [], (wF im nrg nld nmt nps npl npw npr nss nso nsq nes neo neq ngs ngo ngq krg kld kmt kps kpl kpw kpr kss kso ksq kes keo keq kgs kgo kgq okn org osi oti ole oto oow oco ost owa owv owh olo ohi ora odi oqu skd sdp sfd sop str spr rsz rcl rsg rst mrg mkr mik msz gle gsu tat tfa cco cct cac caf cwe ms mkp mtx mso mmy mit gma gpi gst ghe gow gfa gqu glo ghi gby gib tto cfo cff ccl (tpU tp 4 ((tp 4).1, (tp 4).2.1, s.2)) T), 0, 0)
    obtain ⟨g2, hf⟩ := grd_e hf
    refine stp hm 4 (And.intro (gi_in g2) (?_ : sxWP sc cl Q 254 (16, [some (.ref 56), some (.long v1), none, some (.int s.1), some (.int v4)], [], (wF im nrg nld nmt nps npl npw npr nss nso nsq nes neo neq ngs ngo ngq krg kld kmt kps kpl kpw kpr kss kso ksq kes keo keq kgs kgo kgq okn org osi oti ole oto oow oco ost owa owv owh olo ohi ora odi oqu skd sdp sfd sop str spr rsz rcl rsg rst mrg mkr mik msz gle gsu tat tfa cco cct cac caf cwe ms mkp mtx mso mmy mit gma gpi gst ghe gow gfa gqu glo ghi gby gib tto cfo cff ccl (tpU tp 4 ((tp 4).1, (tp 4).2.1, vp_updL s.2 s.1.toNatClampNeg v1)) T), 0, 0)))
    obtain rfl := Option.some.inj hf
    refine stp hm 2 (?_ : sxWP sc cl Q 254 (6, [some (.ref 56), some (.long v1), none, some (.int (s.1 + (1:Int32))), some (.int v4)], [], (wF im nrg nld nmt nps npl npw npr nss nso nsq nes neo neq ngs ngo ngq krg kld kmt kps kpl kpw kpr kss kso ksq kes keo keq kgs kgo kgq okn org osi oti ole oto oow oco ost owa owv owh olo ohi ora odi oqu skd sdp sfd sop str spr rsz rcl rsg rst mrg mkr mik msz gle gsu tat tfa cco cct cac caf cwe ms mkp mtx mso mmy mit gma gpi gst ghe gow gfa gqu glo ghi gby gib tto cfo cff ccl (tpU tp 4 ((tp 4).1, (tp 4).2.1, vp_updL s.2 s.1.toNatClampNeg v1)) T), 0, 0))
    exact hA _ rfl
set_option maxRecDepth 10000 in
theorem J_Arrays_fillL_5_ok {v1 : Int64} {q : (Nat → Int64)} (hc : call = sxE sc (d + 1)) (hf : J_Arrays_fillL v1 ((tp 4).2.2) = some q) (h : Q none (wF im nrg nld nmt nps npl npw npr nss nso nsq nes neo neq ngs ngo ngq krg kld kmt kps kpl kpw kpr kss kso ksq kes keo keq kgs kgo kgq okn org osi oti ole oto oow oco ost owa owv owh olo ohi ora odi oqu skd sdp sfd sop str spr rsz rcl rsg rst mrg mkr mik msz gle gsu tat tfa cco cct cac caf cwe ms mkp mtx mso mmy mit gma gpi gst ghe gow gfa gqu glo ghi gby gib tto cfo cff ccl (tpU tp 4 ((tp 4).1, (tp 4).2.1, q)) T)) : call 254 [.ref 56, .long v1] (wF im nrg nld nmt nps npl npw npr nss nso nsq nes neo neq ngs ngo ngq krg kld kmt kps kpl kpw kpr kss kso ksq kes keo keq kgs kgo kgq okn org osi oti ole oto oow oco ost owa owv owh olo ohi ora odi oqu skd sdp sfd sop str spr rsz rcl rsg rst mrg mkr mik msz gle gsu tat tfa cco cct cac caf cwe ms mkp mtx mso mmy mit gma gpi gst ghe gow gfa gqu glo ghi gby gib tto cfo cff ccl tp T) Q := by
  refine ent hc rfl (fun cl hE hm => ?_)
  unfold J_Arrays_fillL at hf
  obtain ⟨w1, hw1, hf⟩ := bnd hf
  refine stp hm 5 (?_ : sxWP sc cl Q 254 (6, [some (.ref 56), some (.long v1), none, some (.int (0:Int32)), some (.int (Int32.ofNat 60))], [], (wF im nrg nld nmt nps npl npw npr nss nso nsq nes neo neq ngs ngo ngq krg kld kmt kps kpl kpw kpr kss kso ksq kes keo keq kgs kgo kgq okn org osi oti ole oto oow oco ost owa owv owh olo ohi ora odi oqu skd sdp sfd sop str spr rsz rcl rsg rst mrg mkr mik msz gle gsu tat tfa cco cct cac caf cwe ms mkp mtx mso mmy mit gma gpi gst ghe gow gfa gqu glo ghi gby gib tto cfo cff ccl tp T), 0, 0))
  refine J_Arrays_fillL_5_l6 hE hm FU ((0:Int32), (tp 4).2.2) w1 (by exact hw1) ?_
  intro w1_z0 w1_z1 w1_z2 w1_z3 w1_z4
  show sxWP sc cl Q 254 (22, [w1_z0, w1_z1, w1_z2, w1_z3, w1_z4], [], (wF im nrg nld nmt nps npl npw npr nss nso nsq nes neo neq ngs ngo ngq krg kld kmt kps kpl kpw kpr kss kso ksq kes keo keq kgs kgo kgq okn org osi oti ole oto oow oco ost owa owv owh olo ohi ora odi oqu skd sdp sfd sop str spr rsz rcl rsg rst mrg mkr mik msz gle gsu tat tfa cco cct cac caf cwe ms mkp mtx mso mmy mit gma gpi gst ghe gow gfa gqu glo ghi gby gib tto cfo cff ccl (tpU tp 4 ((tp 4).1, (tp 4).2.1, w1)) T), 0, 0)
  obtain rfl := Option.some.inj hf
  refine stp hm 1 ?_
  exact h
set_option maxRecDepth 10000 in
theorem T_become_5_ok {v1 : Int32} {v2 : Int32} {q : (Int32 × Int32 × (Nat → Int64))} (hc : call = sxE sc (d + 2)) (hf : T_become v1 v2 ((tp 4).2.2) = some q) (h : Q none (wF im nrg nld nmt nps npl npw npr nss nso nsq nes neo neq ngs ngo ngq krg kld kmt kps kpl kpw kpr kss kso ksq kes keo keq kgs kgo kgq okn org osi oti ole oto oow oco ost owa owv owh olo ohi ora odi oqu skd sdp sfd sop str spr rsz rcl rsg rst mrg mkr mik msz gle gsu tat tfa cco cct cac caf cwe ms mkp mtx mso mmy mit gma gpi gst ghe gow gfa gqu glo ghi gby gib tto cfo cff ccl (tpU tp 4 (q.1, q.2.1, q.2.2)) T)) : call 83 [.ref 55, .int v1, .int v2] (wF im nrg nld nmt nps npl npw npr nss nso nsq nes neo neq ngs ngo ngq krg kld kmt kps kpl kpw kpr kss kso ksq kes keo keq kgs kgo kgq okn org osi oti ole oto oow oco ost owa owv owh olo ohi ora odi oqu skd sdp sfd sop str spr rsz rcl rsg rst mrg mkr mik msz gle gsu tat tfa cco cct cac caf cwe ms mkp mtx mso mmy mit gma gpi gst ghe gow gfa gqu glo ghi gby gib tto cfo cff ccl tp T) Q := by
  refine ent hc rfl (fun cl hE hm => ?_)
  unfold T_become at hf
  refine stp hm 9 (?_ : sxWP sc cl Q 83 (15, [some (.ref 55), some (.int v1), some (.int v2)], [.long (0:Int64), .ref 56], (wF im nrg nld nmt nps npl npw npr nss nso nsq nes neo neq ngs ngo ngq krg kld kmt kps kpl kpw kpr kss kso ksq kes keo keq kgs kgo kgq okn org osi oti ole oto oow oco ost owa owv owh olo ohi ora odi oqu skd sdp sfd sop str spr rsz rcl rsg rst mrg mkr mik msz gle gsu tat tfa cco cct cac caf cwe ms mkp mtx mso mmy mit gma gpi gst ghe gow gfa gqu glo ghi gby gib tto cfo cff ccl (tpU tp 4 (v1, v2, (tp 4).2.2)) T), 0, 0))
  obtain ⟨q1, hq1, hf⟩ := bnd hf
  refine stp hm 1 (J_Arrays_fillL_5_ok (q := q1) hE (by exact hq1) ?_)
  show sxWP sc cl Q 83 (18, [some (.ref 55), some (.int v1), some (.int v2)], [], (wF im nrg nld nmt nps npl npw npr nss nso nsq nes neo neq ngs ngo ngq krg kld kmt kps kpl kpw kpr kss kso ksq kes keo keq kgs kgo kgq okn org osi oti ole oto oow oco ost owa owv owh olo ohi ora odi oqu skd sdp sfd sop str spr rsz rcl rsg rst mrg mkr mik msz gle gsu tat tfa cco cct cac caf cwe ms mkp mtx mso mmy mit gma gpi gst ghe gow gfa gqu glo ghi gby gib tto cfo cff ccl (tpU tp 4 (v1, v2, q1)) T), 0, 0)
  obtain rfl := Option.some.inj hf
  refine stp hm 1 ?_
  exact h
set_option maxRecDepth 10000 in
theorem X_tape_6_ok {v2 : Int32} {v3 : Int32} {q : (Int32 × Int32 × Int32 × (Nat → Int64))} (hc : call = sxE sc (d + 3)) (hf : X_tape_2 (4:Int32) v2 v3 ((tp 4).1) ((tp 4).2.1) ((tp 4).2.2) = some q) (h : Q (some (.int q.1)) (wF im nrg nld nmt nps npl npw npr nss nso nsq nes neo neq ngs ngo ngq krg kld kmt kps kpl kpw kpr kss kso ksq kes keo keq kgs kgo kgq okn org osi oti ole oto oow oco ost owa owv owh olo ohi ora odi oqu skd sdp sfd sop str spr rsz rcl rsg rst mrg mkr mik msz gle gsu tat tfa cco cct cac caf cwe ms mkp mtx mso mmy mit gma gpi gst ghe gow gfa gqu glo ghi gby gib tto cfo cff ccl (tpU tp 4 (q.2.1, q.2.2.1, q.2.2.2)) T)) : call 131 [.ref 0, .int (4:Int32), .int v2, .int v3] (wF im nrg nld nmt nps npl npw npr nss nso nsq nes neo neq ngs ngo ngq krg kld kmt kps kpl kpw kpr kss kso ksq kes keo keq kgs kgo kgq okn org osi oti ole oto oow oco ost owa owv owh olo ohi ora odi oqu skd sdp sfd sop str spr rsz rcl rsg rst mrg mkr mik msz gle gsu tat tfa cco cct cac caf cwe ms mkp mtx mso mmy mit gma gpi gst ghe gow gfa gqu glo ghi gby gib tto cfo cff ccl tp T) Q := by
  refine ent hc rfl (fun cl hE hm => ?_)
  have J42 : ∀ (tp4s_j : Int32) (tp4n_j : Int32) (tp4i_j : (Nat → Int64)) (z0 : Option Value) (z1 : Option Value) (z2 : Option Value) (z3 : Option Value), X_tape_2_j42 tp4s_j tp4n_j tp4i_j = some q → sxWP sc cl Q 131 (42, [z0, z1, z2, z3], [], (wF im nrg nld nmt nps npl npw npr nss nso nsq nes neo neq ngs ngo ngq krg kld kmt kps kpl kpw kpr kss kso ksq kes keo keq kgs kgo kgq okn org osi oti ole oto oow oco ost owa owv owh olo ohi ora odi oqu skd sdp sfd sop str spr rsz rcl rsg rst mrg mkr mik msz gle gsu tat tfa cco cct cac caf cwe ms mkp mtx mso mmy mit gma gpi gst ghe gow gfa gqu glo ghi gby gib tto cfo cff ccl (tpU tp 4 (tp4s_j, tp4n_j, tp4i_j)) T), 0, 0) := by
    intro tp4s_j tp4n_j tp4i_j z0 z1 z2 z3 hf
    unfold X_tape_2_j42 at hf
    obtain rfl := Option.some.inj hf
    refine stp hm 2 ?_
    exact h
  unfold X_tape_2 at hf
  refine stp hm 2 (X_isTape_ok hE rfl ?_)
  show sxWP sc cl Q 131 (4, [some (.ref 0), some (.int (4:Int32)), some (.int v2), some (.int v3)], [.int (X_isTape (4:Int32))], (wF im nrg nld nmt nps npl npw npr nss nso nsq nes neo neq ngs ngo ngq krg kld kmt kps kpl kpw kpr kss kso ksq kes keo keq kgs kgo kgq okn org osi oti ole oto oow oco ost owa owv owh olo ohi ora odi oqu skd sdp sfd sop str spr rsz rcl rsg rst mrg mkr mik msz gle gsu tat tfa cco cct cac caf cwe ms mkp mtx mso mmy mit gma gpi gst ghe gow gfa gqu glo ghi gby gib tto cfo cff ccl tp T), 0, 0)
  refine stp hm 1 (brn hf (fun c1 hf => ?_) (fun c1 hf => ?_))
  · show sxWP sc cl Q 131 (9, [some (.ref 0), some (.int (4:Int32)), some (.int v2), some (.int v3)], [], (wF im nrg nld nmt nps npl npw npr nss nso nsq nes neo neq ngs ngo ngq krg kld kmt kps kpl kpw kpr kss kso ksq kes keo keq kgs kgo kgq okn org osi oti ole oto oow oco ost owa owv owh olo ohi ora odi oqu skd sdp sfd sop str spr rsz rcl rsg rst mrg mkr mik msz gle gsu tat tfa cco cct cac caf cwe ms mkp mtx mso mmy mit gma gpi gst ghe gow gfa gqu glo ghi gby gib tto cfo cff ccl tp T), 0, 0)
    refine stp hm 3 (brn hf (fun c2 hf => ?_) (fun c2 hf => ?_))
    · show sxWP sc cl Q 131 (27, [some (.ref 0), some (.int (4:Int32)), some (.int v2), some (.int v3)], [], (wF im nrg nld nmt nps npl npw npr nss nso nsq nes neo neq ngs ngo ngq krg kld kmt kps kpl kpw kpr kss kso ksq kes keo keq kgs kgo kgq okn org osi oti ole oto oow oco ost owa owv owh olo ohi ora odi oqu skd sdp sfd sop str spr rsz rcl rsg rst mrg mkr mik msz gle gsu tat tfa cco cct cac caf cwe ms mkp mtx mso mmy mit gma gpi gst ghe gow gfa gqu glo ghi gby gib tto cfo cff ccl tp T), 0, 0)
      refine stp hm 2 (br hf (fun c3 hf => ?_) (fun c3 hf => ?_))
      · show sxWP sc cl Q 131 (42, [some (.ref 0), some (.int (4:Int32)), some (.int v2), some (.int v3)], [], (wF im nrg nld nmt nps npl npw npr nss nso nsq nes neo neq ngs ngo ngq krg kld kmt kps kpl kpw kpr kss kso ksq kes keo keq kgs kgo kgq okn org osi oti ole oto oow oco ost owa owv owh olo ohi ora odi oqu skd sdp sfd sop str spr rsz rcl rsg rst mrg mkr mik msz gle gsu tat tfa cco cct cac caf cwe ms mkp mtx mso mmy mit gma gpi gst ghe gow gfa gqu glo ghi gby gib tto cfo cff ccl tp T), 0, 0)
        exact J42 _ _ _ _ _ _ _ hf
      · show sxWP sc cl Q 131 (31, [some (.ref 0), some (.int (4:Int32)), some (.int v2), some (.int v3)], [], (wF im nrg nld nmt nps npl npw npr nss nso nsq nes neo neq ngs ngo ngq krg kld kmt kps kpl kpw kpr kss kso ksq kes keo keq kgs kgo kgq okn org osi oti ole oto oow oco ost owa owv owh olo ohi ora odi oqu skd sdp sfd sop str spr rsz rcl rsg rst mrg mkr mik msz gle gsu tat tfa cco cct cac caf cwe ms mkp mtx mso mmy mit gma gpi gst ghe gow gfa gqu glo ghi gby gib tto cfo cff ccl tp T), 0, 0)
        refine stp hm 3 (br hf (fun c4 hf => ?_) (fun c4 hf => ?_))
        · show sxWP sc cl Q 131 (42, [some (.ref 0), some (.int (4:Int32)), some (.int v2), some (.int v3)], [], (wF im nrg nld nmt nps npl npw npr nss nso nsq nes neo neq ngs ngo ngq krg kld kmt kps kpl kpw kpr kss kso ksq kes keo keq kgs kgo kgq okn org osi oti ole oto oow oco ost owa owv owh olo ohi ora odi oqu skd sdp sfd sop str spr rsz rcl rsg rst mrg mkr mik msz gle gsu tat tfa cco cct cac caf cwe ms mkp mtx mso mmy mit gma gpi gst ghe gow gfa gqu glo ghi gby gib tto cfo cff ccl tp T), 0, 0)
          exact J42 _ _ _ _ _ _ _ hf
        · show sxWP sc cl Q 131 (36, [some (.ref 0), some (.int (4:Int32)), some (.int v2), some (.int v3)], [], (wF im nrg nld nmt nps npl npw npr nss nso nsq nes neo neq ngs ngo ngq krg kld kmt kps kpl kpw kpr kss kso ksq kes keo keq kgs kgo kgq okn org osi oti ole oto oow oco ost owa owv owh olo ohi ora odi oqu skd sdp sfd sop str spr rsz rcl rsg rst mrg mkr mik msz gle gsu tat tfa cco cct cac caf cwe ms mkp mtx mso mmy mit gma gpi gst ghe gow gfa gqu glo ghi gby gib tto cfo cff ccl tp T), 0, 0)
          refine stp hm 3 (br hf (fun c5 hf => ?_) (fun c5 hf => ?_))
          · show sxWP sc cl Q 131 (45, [some (.ref 0), some (.int (4:Int32)), some (.int v2), some (.int v3)], [], (wF im nrg nld nmt nps npl npw npr nss nso nsq nes neo neq ngs ngo ngq krg kld kmt kps kpl kpw kpr kss kso ksq kes keo keq kgs kgo kgq okn org osi oti ole oto oow oco ost owa owv owh olo ohi ora odi oqu skd sdp sfd sop str spr rsz rcl rsg rst mrg mkr mik msz gle gsu tat tfa cco cct cac caf cwe ms mkp mtx mso mmy mit gma gpi gst ghe gow gfa gqu glo ghi gby gib tto cfo cff ccl tp T), 0, 0)
            refine stp hm 2 (br hf (fun c6 hf => ?_) (fun c6 hf => ?_))
            · show sxWP sc cl Q 131 (52, [some (.ref 0), some (.int (4:Int32)), some (.int v2), some (.int v3)], [], (wF im nrg nld nmt nps npl npw npr nss nso nsq nes neo neq ngs ngo ngq krg kld kmt kps kpl kpw kpr kss kso ksq kes keo keq kgs kgo kgq okn org osi oti ole oto oow oco ost owa owv owh olo ohi ora odi oqu skd sdp sfd sop str spr rsz rcl rsg rst mrg mkr mik msz gle gsu tat tfa cco cct cac caf cwe ms mkp mtx mso mmy mit gma gpi gst ghe gow gfa gqu glo ghi gby gib tto cfo cff ccl tp T), 0, 0)
              refine stp hm 4 (And.intro (gi_in (by decide)) (?_ : sxWP sc cl Q 131 (58, [some (.ref 0), some (.int (4:Int32)), some (.int v2), some (.int v3)], [.ref 55], (wF im nrg nld nmt nps npl npw npr nss nso nsq nes neo neq ngs ngo ngq krg kld kmt kps kpl kpw kpr kss kso ksq kes keo keq kgs kgo kgq okn org osi oti ole oto oow oco ost owa owv owh olo ohi ora odi oqu skd sdp sfd sop str spr rsz rcl rsg rst mrg mkr mik msz gle gsu tat tfa cco cct cac caf cwe ms mkp mtx mso mmy mit gma gpi gst ghe gow gfa gqu glo ghi gby gib tto cfo cff ccl tp T), 0, 0)))
              obtain ⟨q7, hq7, hf⟩ := bnd hf
              refine stp hm 3 (T_become_5_ok (q := q7) hE (by exact hq7) ?_)
              show sxWP sc cl Q 131 (63, [some (.ref 0), some (.int (4:Int32)), some (.int v2), some (.int v3)], [], (wF im nrg nld nmt nps npl npw npr nss nso nsq nes neo neq ngs ngo ngq krg kld kmt kps kpl kpw kpr kss kso ksq kes keo keq kgs kgo kgq okn org osi oti ole oto oow oco ost owa owv owh olo ohi ora odi oqu skd sdp sfd sop str spr rsz rcl rsg rst mrg mkr mik msz gle gsu tat tfa cco cct cac caf cwe ms mkp mtx mso mmy mit gma gpi gst ghe gow gfa gqu glo ghi gby gib tto cfo cff ccl (tpU tp 4 (q7.1, q7.2.1, q7.2.2)) T), 0, 0)
              obtain rfl := Option.some.inj hf
              refine stp hm 2 ?_
              exact h
            · show sxWP sc cl Q 131 (49, [some (.ref 0), some (.int (4:Int32)), some (.int v2), some (.int v3)], [], (wF im nrg nld nmt nps npl npw npr nss nso nsq nes neo neq ngs ngo ngq krg kld kmt kps kpl kpw kpr kss kso ksq kes keo keq kgs kgo kgq okn org osi oti ole oto oow oco ost owa owv owh olo ohi ora odi oqu skd sdp sfd sop str spr rsz rcl rsg rst mrg mkr mik msz gle gsu tat tfa cco cct cac caf cwe ms mkp mtx mso mmy mit gma gpi gst ghe gow gfa gqu glo ghi gby gib tto cfo cff ccl tp T), 0, 0)
              obtain rfl := Option.some.inj hf
              refine stp hm 2 ?_
              exact h
          · show sxWP sc cl Q 131 (42, [some (.ref 0), some (.int (4:Int32)), some (.int v2), some (.int v3)], [], (wF im nrg nld nmt nps npl npw npr nss nso nsq nes neo neq ngs ngo ngq krg kld kmt kps kpl kpw kpr kss kso ksq kes keo keq kgs kgo kgq okn org osi oti ole oto oow oco ost owa owv owh olo ohi ora odi oqu skd sdp sfd sop str spr rsz rcl rsg rst mrg mkr mik msz gle gsu tat tfa cco cct cac caf cwe ms mkp mtx mso mmy mit gma gpi gst ghe gow gfa gqu glo ghi gby gib tto cfo cff ccl tp T), 0, 0)
            exact J42 _ _ _ _ _ _ _ hf
    · show sxWP sc cl Q 131 (14, [some (.ref 0), some (.int (4:Int32)), some (.int v2), some (.int v3)], [], (wF im nrg nld nmt nps npl npw npr nss nso nsq nes neo neq ngs ngo ngq krg kld kmt kps kpl kpw kpr kss kso ksq kes keo keq kgs kgo kgq okn org osi oti ole oto oow oco ost owa owv owh olo ohi ora odi oqu skd sdp sfd sop str spr rsz rcl rsg rst mrg mkr mik msz gle gsu tat tfa cco cct cac caf cwe ms mkp mtx mso mmy mit gma gpi gst ghe gow gfa gqu glo ghi gby gib tto cfo cff ccl tp T), 0, 0)
      refine stp hm 4 (And.intro (gi_in (by decide)) (?_ : sxWP sc cl Q 131 (20, [some (.ref 0), some (.int (4:Int32)), some (.int v2), some (.int v3)], [.ref 55], (wF im nrg nld nmt nps npl npw npr nss nso nsq nes neo neq ngs ngo ngq krg kld kmt kps kpl kpw kpr kss kso ksq kes keo keq kgs kgo kgq okn org osi oti ole oto oow oco ost owa owv owh olo ohi ora odi oqu skd sdp sfd sop str spr rsz rcl rsg rst mrg mkr mik msz gle gsu tat tfa cco cct cac caf cwe ms mkp mtx mso mmy mit gma gpi gst ghe gow gfa gqu glo ghi gby gib tto cfo cff ccl tp T), 0, 0)))
      obtain ⟨q8, hq8, hf⟩ := bnd hf
      refine stp hm 3 (T_become_5_ok (q := q8) hE (by exact hq8) ?_)
      show sxWP sc cl Q 131 (25, [some (.ref 0), some (.int (4:Int32)), some (.int v2), some (.int v3)], [], (wF im nrg nld nmt nps npl npw npr nss nso nsq nes neo neq ngs ngo ngq krg kld kmt kps kpl kpw kpr kss kso ksq kes keo keq kgs kgo kgq okn org osi oti ole oto oow oco ost owa owv owh olo ohi ora odi oqu skd sdp sfd sop str spr rsz rcl rsg rst mrg mkr mik msz gle gsu tat tfa cco cct cac caf cwe ms mkp mtx mso mmy mit gma gpi gst ghe gow gfa gqu glo ghi gby gib tto cfo cff ccl (tpU tp 4 (q8.1, q8.2.1, q8.2.2)) T), 0, 0)
      obtain rfl := Option.some.inj hf
      refine stp hm 2 ?_
      exact h
  · show sxWP sc cl Q 131 (7, [some (.ref 0), some (.int (4:Int32)), some (.int v2), some (.int v3)], [], (wF im nrg nld nmt nps npl npw npr nss nso nsq nes neo neq ngs ngo ngq krg kld kmt kps kpl kpw kpr kss kso ksq kes keo keq kgs kgo kgq okn org osi oti ole oto oow oco ost owa owv owh olo ohi ora odi oqu skd sdp sfd sop str spr rsz rcl rsg rst mrg mkr mik msz gle gsu tat tfa cco cct cac caf cwe ms mkp mtx mso mmy mit gma gpi gst ghe gow gfa gqu glo ghi gby gib tto cfo cff ccl tp T), 0, 0)
    obtain rfl := Option.some.inj hf
    refine stp hm 2 ?_
    exact h
set_option maxRecDepth 10000 in
theorem J_Arrays_fillL_6_l6 {v1 : Int64} {v4 : Int32}   (hE : cl = sxE sc (d + 0)) (hm : CallMono cl) : ∀ (n : Nat) (s : (Int32 × (Nat → Int64))) (r : (Nat → Int64)), wh (J_Arrays_fillL_s6 v1 v4) n s = some r → (∀ (z0 z1 z2 z3 z4 : Option Value), sxWP sc cl Q 254 (22, [z0, z1, z2, z3, z4], [], (wF im nrg nld nmt nps npl npw npr nss nso nsq nes neo neq ngs ngo ngq krg kld kmt kps kpl kpw kpr kss kso ksq kes keo keq kgs kgo kgq okn org osi oti ole oto oow oco ost owa owv owh olo ohi ora odi oqu skd sdp sfd sop str spr rsz rcl rsg rst mrg mkr mik msz gle gsu tat tfa cco cct cac caf cwe ms mkp mtx mso mmy mit gma gpi gst ghe gow gfa gqu glo ghi gby gib tto cfo cff ccl (tpU tp 5 ((tp 5).1, (tp 5).2.1, r)) T), 0, 0)) → sxWP sc cl Q 254 (6, [some (.ref 58), some (.long v1), none, some (.int s.1), some (.int v4)], [], (wF im nrg nld nmt nps npl npw npr nss nso nsq nes neo neq ngs ngo ngq krg kld kmt kps kpl kpw kpr kss kso ksq kes keo keq kgs kgo kgq okn org osi oti ole oto oow oco ost owa owv owh olo ohi ora odi oqu skd sdp sfd sop str spr rsz rcl rsg rst mrg mkr mik msz gle gsu tat tfa cco cct cac caf cwe ms mkp mtx mso mmy mit gma gpi gst ghe gow gfa gqu glo ghi gby gib tto cfo cff ccl (tpU tp 5 ((tp 5).1, (tp 5).2.1, s.2)) T), 0, 0) := by
  refine wh_run (A := fun (s : (Int32 × (Nat → Int64))) => sxWP sc cl Q 254 (6, [some (.ref 58), some (.long v1), none, some (.int s.1), some (.int v4)], [], (wF im nrg nld nmt nps npl npw npr nss nso nsq nes neo neq ngs ngo ngq krg kld kmt kps kpl kpw kpr kss kso ksq kes keo keq kgs kgo kgq okn org osi oti ole oto oow oco ost owa owv owh olo ohi ora odi oqu skd sdp sfd sop str spr rsz rcl rsg rst mrg mkr mik msz gle gsu tat tfa cco cct cac caf cwe ms mkp mtx mso mmy mit gma gpi gst ghe gow gfa gqu glo ghi gby gib tto cfo cff ccl (tpU tp 5 ((tp 5).1, (tp 5).2.1, s.2)) T), 0, 0)) (B := fun (r : (Nat → Int64)) => ∀ (z0 z1 z2 z3 z4 : Option Value), sxWP sc cl Q 254 (22, [z0, z1, z2, z3, z4], [], (wF im nrg nld nmt nps npl npw npr nss nso nsq nes neo neq ngs ngo ngq krg kld kmt kps kpl kpw kpr kss kso ksq kes keo keq kgs kgo kgq okn org osi oti ole oto oow oco ost owa owv owh olo ohi ora odi oqu skd sdp sfd sop str spr rsz rcl rsg rst mrg mkr mik msz gle gsu tat tfa cco cct cac caf cwe ms mkp mtx mso mmy mit gma gpi gst ghe gow gfa gqu glo ghi gby gib tto cfo cff ccl (tpU tp 5 ((tp 5).1, (tp 5).2.1, r)) T), 0, 0)) (fun s x hf hA hB => ?_)
  unfold J_Arrays_fillL_s6 at hf
  refine stp hm 3 (br hf (fun c1 hf => ?_) (fun c1 hf => ?_))
  · show sxWP sc cl Q 254 (22, [some (.ref 58), some (.long v1), none, some (.int s.1), some (.int v4)], [], (wF im nrg nld nmt nps npl npw npr nss nso nsq nes neo neq ngs ngo ngq krg kld kmt kps kpl kpw kpr kss kso ksq kes keo keq kgs kgo kgq okn org osi oti ole oto oow oco ost owa owv owh olo ohi ora odi oqu skd sdp sfd sop str spr rsz rcl rsg rst mrg mkr mik msz gle gsu tat tfa cco cct cac caf cwe ms mkp mtx mso mmy mit gma gpi gst ghe gow gfa gqu glo ghi gby gib tto cfo cff ccl (tpU tp 5 ((tp 5).1, (tp 5).2.1, s.2)) T), 0, 0)
    obtain rfl := Option.some.inj hf
    exact hB _ rfl _ _ _ _ _
  · show sxWP sc cl Q 254 (12, [some (.ref 58), some (.long v1), none, some (.int s.1), some (.int v4)], [], (wF im nrg nld nmt nps npl npw npr nss nso nsq nes neo neq ngs ngo ngq krg kld kmt kps kpl kpw kpr kss kso ksq kes keo keq kgs kgo kgq okn org osi oti ole oto oow oco ost owa owv owh olo ohi ora odi oqu skd sdp sfd sop str spr rsz rcl rsg rst mrg mkr mik msz gle gsu tat tfa cco cct cac caf cwe ms mkp mtx mso mmy mit gma gpi gst ghe gow gfa gqu glo ghi gby gib tto cfo cff ccl (tpU tp 5 ((tp 5).1, (tp 5).2.1, s.2)) T), 0, 0)
    obtain ⟨g2, hf⟩ := grd_e hf
    refine stp hm 4 (And.intro (gi_in g2) (?_ : sxWP sc cl Q 254 (16, [some (.ref 58), some (.long v1), none, some (.int s.1), some (.int v4)], [], (wF im nrg nld nmt nps npl npw npr nss nso nsq nes neo neq ngs ngo ngq krg kld kmt kps kpl kpw kpr kss kso ksq kes keo keq kgs kgo kgq okn org osi oti ole oto oow oco ost owa owv owh olo ohi ora odi oqu skd sdp sfd sop str spr rsz rcl rsg rst mrg mkr mik msz gle gsu tat tfa cco cct cac caf cwe ms mkp mtx mso mmy mit gma gpi gst ghe gow gfa gqu glo ghi gby gib tto cfo cff ccl (tpU tp 5 ((tp 5).1, (tp 5).2.1, vp_updL s.2 s.1.toNatClampNeg v1)) T), 0, 0)))
    obtain rfl := Option.some.inj hf
    refine stp hm 2 (?_ : sxWP sc cl Q 254 (6, [some (.ref 58), some (.long v1), none, some (.int (s.1 + (1:Int32))), some (.int v4)], [], (wF im nrg nld nmt nps npl npw npr nss nso nsq nes neo neq ngs ngo ngq krg kld kmt kps kpl kpw kpr kss kso ksq kes keo keq kgs kgo kgq okn org osi oti ole oto oow oco ost owa owv owh olo ohi ora odi oqu skd sdp sfd sop str spr rsz rcl rsg rst mrg mkr mik msz gle gsu tat tfa cco cct cac caf cwe ms mkp mtx mso mmy mit gma gpi gst ghe gow gfa gqu glo ghi gby gib tto cfo cff ccl (tpU tp 5 ((tp 5).1, (tp 5).2.1, vp_updL s.2 s.1.toNatClampNeg v1)) T), 0, 0))
    exact hA _ rfl
set_option maxRecDepth 10000 in
theorem J_Arrays_fillL_6_ok {v1 : Int64} {q : (Nat → Int64)} (hc : call = sxE sc (d + 1)) (hf : J_Arrays_fillL v1 ((tp 5).2.2) = some q) (h : Q none (wF im nrg nld nmt nps npl npw npr nss nso nsq nes neo neq ngs ngo ngq krg kld kmt kps kpl kpw kpr kss kso ksq kes keo keq kgs kgo kgq okn org osi oti ole oto oow oco ost owa owv owh olo ohi ora odi oqu skd sdp sfd sop str spr rsz rcl rsg rst mrg mkr mik msz gle gsu tat tfa cco cct cac caf cwe ms mkp mtx mso mmy mit gma gpi gst ghe gow gfa gqu glo ghi gby gib tto cfo cff ccl (tpU tp 5 ((tp 5).1, (tp 5).2.1, q)) T)) : call 254 [.ref 58, .long v1] (wF im nrg nld nmt nps npl npw npr nss nso nsq nes neo neq ngs ngo ngq krg kld kmt kps kpl kpw kpr kss kso ksq kes keo keq kgs kgo kgq okn org osi oti ole oto oow oco ost owa owv owh olo ohi ora odi oqu skd sdp sfd sop str spr rsz rcl rsg rst mrg mkr mik msz gle gsu tat tfa cco cct cac caf cwe ms mkp mtx mso mmy mit gma gpi gst ghe gow gfa gqu glo ghi gby gib tto cfo cff ccl tp T) Q := by
  refine ent hc rfl (fun cl hE hm => ?_)
  unfold J_Arrays_fillL at hf
  obtain ⟨w1, hw1, hf⟩ := bnd hf
  refine stp hm 5 (?_ : sxWP sc cl Q 254 (6, [some (.ref 58), some (.long v1), none, some (.int (0:Int32)), some (.int (Int32.ofNat 60))], [], (wF im nrg nld nmt nps npl npw npr nss nso nsq nes neo neq ngs ngo ngq krg kld kmt kps kpl kpw kpr kss kso ksq kes keo keq kgs kgo kgq okn org osi oti ole oto oow oco ost owa owv owh olo ohi ora odi oqu skd sdp sfd sop str spr rsz rcl rsg rst mrg mkr mik msz gle gsu tat tfa cco cct cac caf cwe ms mkp mtx mso mmy mit gma gpi gst ghe gow gfa gqu glo ghi gby gib tto cfo cff ccl tp T), 0, 0))
  refine J_Arrays_fillL_6_l6 hE hm FU ((0:Int32), (tp 5).2.2) w1 (by exact hw1) ?_
  intro w1_z0 w1_z1 w1_z2 w1_z3 w1_z4
  show sxWP sc cl Q 254 (22, [w1_z0, w1_z1, w1_z2, w1_z3, w1_z4], [], (wF im nrg nld nmt nps npl npw npr nss nso nsq nes neo neq ngs ngo ngq krg kld kmt kps kpl kpw kpr kss kso ksq kes keo keq kgs kgo kgq okn org osi oti ole oto oow oco ost owa owv owh olo ohi ora odi oqu skd sdp sfd sop str spr rsz rcl rsg rst mrg mkr mik msz gle gsu tat tfa cco cct cac caf cwe ms mkp mtx mso mmy mit gma gpi gst ghe gow gfa gqu glo ghi gby gib tto cfo cff ccl (tpU tp 5 ((tp 5).1, (tp 5).2.1, w1)) T), 0, 0)
  obtain rfl := Option.some.inj hf
  refine stp hm 1 ?_
  exact h
set_option maxRecDepth 10000 in
theorem T_become_6_ok {v1 : Int32} {v2 : Int32} {q : (Int32 × Int32 × (Nat → Int64))} (hc : call = sxE sc (d + 2)) (hf : T_become v1 v2 ((tp 5).2.2) = some q) (h : Q none (wF im nrg nld nmt nps npl npw npr nss nso nsq nes neo neq ngs ngo ngq krg kld kmt kps kpl kpw kpr kss kso ksq kes keo keq kgs kgo kgq okn org osi oti ole oto oow oco ost owa owv owh olo ohi ora odi oqu skd sdp sfd sop str spr rsz rcl rsg rst mrg mkr mik msz gle gsu tat tfa cco cct cac caf cwe ms mkp mtx mso mmy mit gma gpi gst ghe gow gfa gqu glo ghi gby gib tto cfo cff ccl (tpU tp 5 (q.1, q.2.1, q.2.2)) T)) : call 83 [.ref 57, .int v1, .int v2] (wF im nrg nld nmt nps npl npw npr nss nso nsq nes neo neq ngs ngo ngq krg kld kmt kps kpl kpw kpr kss kso ksq kes keo keq kgs kgo kgq okn org osi oti ole oto oow oco ost owa owv owh olo ohi ora odi oqu skd sdp sfd sop str spr rsz rcl rsg rst mrg mkr mik msz gle gsu tat tfa cco cct cac caf cwe ms mkp mtx mso mmy mit gma gpi gst ghe gow gfa gqu glo ghi gby gib tto cfo cff ccl tp T) Q := by
  refine ent hc rfl (fun cl hE hm => ?_)
  unfold T_become at hf
  refine stp hm 9 (?_ : sxWP sc cl Q 83 (15, [some (.ref 57), some (.int v1), some (.int v2)], [.long (0:Int64), .ref 58], (wF im nrg nld nmt nps npl npw npr nss nso nsq nes neo neq ngs ngo ngq krg kld kmt kps kpl kpw kpr kss kso ksq kes keo keq kgs kgo kgq okn org osi oti ole oto oow oco ost owa owv owh olo ohi ora odi oqu skd sdp sfd sop str spr rsz rcl rsg rst mrg mkr mik msz gle gsu tat tfa cco cct cac caf cwe ms mkp mtx mso mmy mit gma gpi gst ghe gow gfa gqu glo ghi gby gib tto cfo cff ccl (tpU tp 5 (v1, v2, (tp 5).2.2)) T), 0, 0))
  obtain ⟨q1, hq1, hf⟩ := bnd hf
  refine stp hm 1 (J_Arrays_fillL_6_ok (q := q1) hE (by exact hq1) ?_)
  show sxWP sc cl Q 83 (18, [some (.ref 57), some (.int v1), some (.int v2)], [], (wF im nrg nld nmt nps npl npw npr nss nso nsq nes neo neq ngs ngo ngq krg kld kmt kps kpl kpw kpr kss kso ksq kes keo keq kgs kgo kgq okn org osi oti ole oto oow oco ost owa owv owh olo ohi ora odi oqu skd sdp sfd sop str spr rsz rcl rsg rst mrg mkr mik msz gle gsu tat tfa cco cct cac caf cwe ms mkp mtx mso mmy mit gma gpi gst ghe gow gfa gqu glo ghi gby gib tto cfo cff ccl (tpU tp 5 (v1, v2, q1)) T), 0, 0)
  obtain rfl := Option.some.inj hf
  refine stp hm 1 ?_
  exact h
set_option maxRecDepth 10000 in
theorem X_tape_7_ok {v2 : Int32} {v3 : Int32} {q : (Int32 × Int32 × Int32 × (Nat → Int64))} (hc : call = sxE sc (d + 3)) (hf : X_tape_2 (5:Int32) v2 v3 ((tp 5).1) ((tp 5).2.1) ((tp 5).2.2) = some q) (h : Q (some (.int q.1)) (wF im nrg nld nmt nps npl npw npr nss nso nsq nes neo neq ngs ngo ngq krg kld kmt kps kpl kpw kpr kss kso ksq kes keo keq kgs kgo kgq okn org osi oti ole oto oow oco ost owa owv owh olo ohi ora odi oqu skd sdp sfd sop str spr rsz rcl rsg rst mrg mkr mik msz gle gsu tat tfa cco cct cac caf cwe ms mkp mtx mso mmy mit gma gpi gst ghe gow gfa gqu glo ghi gby gib tto cfo cff ccl (tpU tp 5 (q.2.1, q.2.2.1, q.2.2.2)) T)) : call 131 [.ref 0, .int (5:Int32), .int v2, .int v3] (wF im nrg nld nmt nps npl npw npr nss nso nsq nes neo neq ngs ngo ngq krg kld kmt kps kpl kpw kpr kss kso ksq kes keo keq kgs kgo kgq okn org osi oti ole oto oow oco ost owa owv owh olo ohi ora odi oqu skd sdp sfd sop str spr rsz rcl rsg rst mrg mkr mik msz gle gsu tat tfa cco cct cac caf cwe ms mkp mtx mso mmy mit gma gpi gst ghe gow gfa gqu glo ghi gby gib tto cfo cff ccl tp T) Q := by
  refine ent hc rfl (fun cl hE hm => ?_)
  have J42 : ∀ (tp5s_j : Int32) (tp5n_j : Int32) (tp5i_j : (Nat → Int64)) (z0 : Option Value) (z1 : Option Value) (z2 : Option Value) (z3 : Option Value), X_tape_2_j42 tp5s_j tp5n_j tp5i_j = some q → sxWP sc cl Q 131 (42, [z0, z1, z2, z3], [], (wF im nrg nld nmt nps npl npw npr nss nso nsq nes neo neq ngs ngo ngq krg kld kmt kps kpl kpw kpr kss kso ksq kes keo keq kgs kgo kgq okn org osi oti ole oto oow oco ost owa owv owh olo ohi ora odi oqu skd sdp sfd sop str spr rsz rcl rsg rst mrg mkr mik msz gle gsu tat tfa cco cct cac caf cwe ms mkp mtx mso mmy mit gma gpi gst ghe gow gfa gqu glo ghi gby gib tto cfo cff ccl (tpU tp 5 (tp5s_j, tp5n_j, tp5i_j)) T), 0, 0) := by
    intro tp5s_j tp5n_j tp5i_j z0 z1 z2 z3 hf
    unfold X_tape_2_j42 at hf
    obtain rfl := Option.some.inj hf
    refine stp hm 2 ?_
    exact h
  unfold X_tape_2 at hf
  refine stp hm 2 (X_isTape_ok hE rfl ?_)
  show sxWP sc cl Q 131 (4, [some (.ref 0), some (.int (5:Int32)), some (.int v2), some (.int v3)], [.int (X_isTape (5:Int32))], (wF im nrg nld nmt nps npl npw npr nss nso nsq nes neo neq ngs ngo ngq krg kld kmt kps kpl kpw kpr kss kso ksq kes keo keq kgs kgo kgq okn org osi oti ole oto oow oco ost owa owv owh olo ohi ora odi oqu skd sdp sfd sop str spr rsz rcl rsg rst mrg mkr mik msz gle gsu tat tfa cco cct cac caf cwe ms mkp mtx mso mmy mit gma gpi gst ghe gow gfa gqu glo ghi gby gib tto cfo cff ccl tp T), 0, 0)
  refine stp hm 1 (brn hf (fun c1 hf => ?_) (fun c1 hf => ?_))
  · show sxWP sc cl Q 131 (9, [some (.ref 0), some (.int (5:Int32)), some (.int v2), some (.int v3)], [], (wF im nrg nld nmt nps npl npw npr nss nso nsq nes neo neq ngs ngo ngq krg kld kmt kps kpl kpw kpr kss kso ksq kes keo keq kgs kgo kgq okn org osi oti ole oto oow oco ost owa owv owh olo ohi ora odi oqu skd sdp sfd sop str spr rsz rcl rsg rst mrg mkr mik msz gle gsu tat tfa cco cct cac caf cwe ms mkp mtx mso mmy mit gma gpi gst ghe gow gfa gqu glo ghi gby gib tto cfo cff ccl tp T), 0, 0)
    refine stp hm 3 (brn hf (fun c2 hf => ?_) (fun c2 hf => ?_))
    · show sxWP sc cl Q 131 (27, [some (.ref 0), some (.int (5:Int32)), some (.int v2), some (.int v3)], [], (wF im nrg nld nmt nps npl npw npr nss nso nsq nes neo neq ngs ngo ngq krg kld kmt kps kpl kpw kpr kss kso ksq kes keo keq kgs kgo kgq okn org osi oti ole oto oow oco ost owa owv owh olo ohi ora odi oqu skd sdp sfd sop str spr rsz rcl rsg rst mrg mkr mik msz gle gsu tat tfa cco cct cac caf cwe ms mkp mtx mso mmy mit gma gpi gst ghe gow gfa gqu glo ghi gby gib tto cfo cff ccl tp T), 0, 0)
      refine stp hm 2 (br hf (fun c3 hf => ?_) (fun c3 hf => ?_))
      · show sxWP sc cl Q 131 (42, [some (.ref 0), some (.int (5:Int32)), some (.int v2), some (.int v3)], [], (wF im nrg nld nmt nps npl npw npr nss nso nsq nes neo neq ngs ngo ngq krg kld kmt kps kpl kpw kpr kss kso ksq kes keo keq kgs kgo kgq okn org osi oti ole oto oow oco ost owa owv owh olo ohi ora odi oqu skd sdp sfd sop str spr rsz rcl rsg rst mrg mkr mik msz gle gsu tat tfa cco cct cac caf cwe ms mkp mtx mso mmy mit gma gpi gst ghe gow gfa gqu glo ghi gby gib tto cfo cff ccl tp T), 0, 0)
        exact J42 _ _ _ _ _ _ _ hf
      · show sxWP sc cl Q 131 (31, [some (.ref 0), some (.int (5:Int32)), some (.int v2), some (.int v3)], [], (wF im nrg nld nmt nps npl npw npr nss nso nsq nes neo neq ngs ngo ngq krg kld kmt kps kpl kpw kpr kss kso ksq kes keo keq kgs kgo kgq okn org osi oti ole oto oow oco ost owa owv owh olo ohi ora odi oqu skd sdp sfd sop str spr rsz rcl rsg rst mrg mkr mik msz gle gsu tat tfa cco cct cac caf cwe ms mkp mtx mso mmy mit gma gpi gst ghe gow gfa gqu glo ghi gby gib tto cfo cff ccl tp T), 0, 0)
        refine stp hm 3 (br hf (fun c4 hf => ?_) (fun c4 hf => ?_))
        · show sxWP sc cl Q 131 (42, [some (.ref 0), some (.int (5:Int32)), some (.int v2), some (.int v3)], [], (wF im nrg nld nmt nps npl npw npr nss nso nsq nes neo neq ngs ngo ngq krg kld kmt kps kpl kpw kpr kss kso ksq kes keo keq kgs kgo kgq okn org osi oti ole oto oow oco ost owa owv owh olo ohi ora odi oqu skd sdp sfd sop str spr rsz rcl rsg rst mrg mkr mik msz gle gsu tat tfa cco cct cac caf cwe ms mkp mtx mso mmy mit gma gpi gst ghe gow gfa gqu glo ghi gby gib tto cfo cff ccl tp T), 0, 0)
          exact J42 _ _ _ _ _ _ _ hf
        · show sxWP sc cl Q 131 (36, [some (.ref 0), some (.int (5:Int32)), some (.int v2), some (.int v3)], [], (wF im nrg nld nmt nps npl npw npr nss nso nsq nes neo neq ngs ngo ngq krg kld kmt kps kpl kpw kpr kss kso ksq kes keo keq kgs kgo kgq okn org osi oti ole oto oow oco ost owa owv owh olo ohi ora odi oqu skd sdp sfd sop str spr rsz rcl rsg rst mrg mkr mik msz gle gsu tat tfa cco cct cac caf cwe ms mkp mtx mso mmy mit gma gpi gst ghe gow gfa gqu glo ghi gby gib tto cfo cff ccl tp T), 0, 0)
          refine stp hm 3 (br hf (fun c5 hf => ?_) (fun c5 hf => ?_))
          · show sxWP sc cl Q 131 (45, [some (.ref 0), some (.int (5:Int32)), some (.int v2), some (.int v3)], [], (wF im nrg nld nmt nps npl npw npr nss nso nsq nes neo neq ngs ngo ngq krg kld kmt kps kpl kpw kpr kss kso ksq kes keo keq kgs kgo kgq okn org osi oti ole oto oow oco ost owa owv owh olo ohi ora odi oqu skd sdp sfd sop str spr rsz rcl rsg rst mrg mkr mik msz gle gsu tat tfa cco cct cac caf cwe ms mkp mtx mso mmy mit gma gpi gst ghe gow gfa gqu glo ghi gby gib tto cfo cff ccl tp T), 0, 0)
            refine stp hm 2 (br hf (fun c6 hf => ?_) (fun c6 hf => ?_))
            · show sxWP sc cl Q 131 (52, [some (.ref 0), some (.int (5:Int32)), some (.int v2), some (.int v3)], [], (wF im nrg nld nmt nps npl npw npr nss nso nsq nes neo neq ngs ngo ngq krg kld kmt kps kpl kpw kpr kss kso ksq kes keo keq kgs kgo kgq okn org osi oti ole oto oow oco ost owa owv owh olo ohi ora odi oqu skd sdp sfd sop str spr rsz rcl rsg rst mrg mkr mik msz gle gsu tat tfa cco cct cac caf cwe ms mkp mtx mso mmy mit gma gpi gst ghe gow gfa gqu glo ghi gby gib tto cfo cff ccl tp T), 0, 0)
              refine stp hm 4 (And.intro (gi_in (by decide)) (?_ : sxWP sc cl Q 131 (58, [some (.ref 0), some (.int (5:Int32)), some (.int v2), some (.int v3)], [.ref 57], (wF im nrg nld nmt nps npl npw npr nss nso nsq nes neo neq ngs ngo ngq krg kld kmt kps kpl kpw kpr kss kso ksq kes keo keq kgs kgo kgq okn org osi oti ole oto oow oco ost owa owv owh olo ohi ora odi oqu skd sdp sfd sop str spr rsz rcl rsg rst mrg mkr mik msz gle gsu tat tfa cco cct cac caf cwe ms mkp mtx mso mmy mit gma gpi gst ghe gow gfa gqu glo ghi gby gib tto cfo cff ccl tp T), 0, 0)))
              obtain ⟨q7, hq7, hf⟩ := bnd hf
              refine stp hm 3 (T_become_6_ok (q := q7) hE (by exact hq7) ?_)
              show sxWP sc cl Q 131 (63, [some (.ref 0), some (.int (5:Int32)), some (.int v2), some (.int v3)], [], (wF im nrg nld nmt nps npl npw npr nss nso nsq nes neo neq ngs ngo ngq krg kld kmt kps kpl kpw kpr kss kso ksq kes keo keq kgs kgo kgq okn org osi oti ole oto oow oco ost owa owv owh olo ohi ora odi oqu skd sdp sfd sop str spr rsz rcl rsg rst mrg mkr mik msz gle gsu tat tfa cco cct cac caf cwe ms mkp mtx mso mmy mit gma gpi gst ghe gow gfa gqu glo ghi gby gib tto cfo cff ccl (tpU tp 5 (q7.1, q7.2.1, q7.2.2)) T), 0, 0)
              obtain rfl := Option.some.inj hf
              refine stp hm 2 ?_
              exact h
            · show sxWP sc cl Q 131 (49, [some (.ref 0), some (.int (5:Int32)), some (.int v2), some (.int v3)], [], (wF im nrg nld nmt nps npl npw npr nss nso nsq nes neo neq ngs ngo ngq krg kld kmt kps kpl kpw kpr kss kso ksq kes keo keq kgs kgo kgq okn org osi oti ole oto oow oco ost owa owv owh olo ohi ora odi oqu skd sdp sfd sop str spr rsz rcl rsg rst mrg mkr mik msz gle gsu tat tfa cco cct cac caf cwe ms mkp mtx mso mmy mit gma gpi gst ghe gow gfa gqu glo ghi gby gib tto cfo cff ccl tp T), 0, 0)
              obtain rfl := Option.some.inj hf
              refine stp hm 2 ?_
              exact h
          · show sxWP sc cl Q 131 (42, [some (.ref 0), some (.int (5:Int32)), some (.int v2), some (.int v3)], [], (wF im nrg nld nmt nps npl npw npr nss nso nsq nes neo neq ngs ngo ngq krg kld kmt kps kpl kpw kpr kss kso ksq kes keo keq kgs kgo kgq okn org osi oti ole oto oow oco ost owa owv owh olo ohi ora odi oqu skd sdp sfd sop str spr rsz rcl rsg rst mrg mkr mik msz gle gsu tat tfa cco cct cac caf cwe ms mkp mtx mso mmy mit gma gpi gst ghe gow gfa gqu glo ghi gby gib tto cfo cff ccl tp T), 0, 0)
            exact J42 _ _ _ _ _ _ _ hf
    · show sxWP sc cl Q 131 (14, [some (.ref 0), some (.int (5:Int32)), some (.int v2), some (.int v3)], [], (wF im nrg nld nmt nps npl npw npr nss nso nsq nes neo neq ngs ngo ngq krg kld kmt kps kpl kpw kpr kss kso ksq kes keo keq kgs kgo kgq okn org osi oti ole oto oow oco ost owa owv owh olo ohi ora odi oqu skd sdp sfd sop str spr rsz rcl rsg rst mrg mkr mik msz gle gsu tat tfa cco cct cac caf cwe ms mkp mtx mso mmy mit gma gpi gst ghe gow gfa gqu glo ghi gby gib tto cfo cff ccl tp T), 0, 0)
      refine stp hm 4 (And.intro (gi_in (by decide)) (?_ : sxWP sc cl Q 131 (20, [some (.ref 0), some (.int (5:Int32)), some (.int v2), some (.int v3)], [.ref 57], (wF im nrg nld nmt nps npl npw npr nss nso nsq nes neo neq ngs ngo ngq krg kld kmt kps kpl kpw kpr kss kso ksq kes keo keq kgs kgo kgq okn org osi oti ole oto oow oco ost owa owv owh olo ohi ora odi oqu skd sdp sfd sop str spr rsz rcl rsg rst mrg mkr mik msz gle gsu tat tfa cco cct cac caf cwe ms mkp mtx mso mmy mit gma gpi gst ghe gow gfa gqu glo ghi gby gib tto cfo cff ccl tp T), 0, 0)))
      obtain ⟨q8, hq8, hf⟩ := bnd hf
      refine stp hm 3 (T_become_6_ok (q := q8) hE (by exact hq8) ?_)
      show sxWP sc cl Q 131 (25, [some (.ref 0), some (.int (5:Int32)), some (.int v2), some (.int v3)], [], (wF im nrg nld nmt nps npl npw npr nss nso nsq nes neo neq ngs ngo ngq krg kld kmt kps kpl kpw kpr kss kso ksq kes keo keq kgs kgo kgq okn org osi oti ole oto oow oco ost owa owv owh olo ohi ora odi oqu skd sdp sfd sop str spr rsz rcl rsg rst mrg mkr mik msz gle gsu tat tfa cco cct cac caf cwe ms mkp mtx mso mmy mit gma gpi gst ghe gow gfa gqu glo ghi gby gib tto cfo cff ccl (tpU tp 5 (q8.1, q8.2.1, q8.2.2)) T), 0, 0)
      obtain rfl := Option.some.inj hf
      refine stp hm 2 ?_
      exact h
  · show sxWP sc cl Q 131 (7, [some (.ref 0), some (.int (5:Int32)), some (.int v2), some (.int v3)], [], (wF im nrg nld nmt nps npl npw npr nss nso nsq nes neo neq ngs ngo ngq krg kld kmt kps kpl kpw kpr kss kso ksq kes keo keq kgs kgo kgq okn org osi oti ole oto oow oco ost owa owv owh olo ohi ora odi oqu skd sdp sfd sop str spr rsz rcl rsg rst mrg mkr mik msz gle gsu tat tfa cco cct cac caf cwe ms mkp mtx mso mmy mit gma gpi gst ghe gow gfa gqu glo ghi gby gib tto cfo cff ccl tp T), 0, 0)
    obtain rfl := Option.some.inj hf
    refine stp hm 2 ?_
    exact h
def M_tape_s70  (v1 : Int32) (s : (Int32 × (Nat → Int64))) : Option ((Int32 × (Nat → Int64)) ⊕ (Nat → Int64)) := if (60:Int32) ≤ s.1 then (some (Sum.inr s.2)) else (grd (gi (((60:Int32) * v1) + s.1) 360) (some (Sum.inl (s.1 + (1:Int32), vp_updL s.2 (((60:Int32) * v1) + s.1).toNatClampNeg (0:Int64)))))
def M_tape_j44  (v1 : Int32) (v2 : Int32) (v3 : Int32) (mso_j : (Nat → Int32)) (mmy_j : (Nat → Int32)) (mit_j : (Nat → Int64)) : Option (Int32 × (Nat → Int32) × (Nat → Int32) × (Nat → Int64)) := grd (gi v1 6) (grd (gi v1 6) (Option.bind (wh (M_tape_s70 v1) FU ((0:Int32), mit_j)) (fun w4 => some ((1:Int32), upd mso_j v1.toNatClampNeg v2, upd mmy_j v1.toNatClampNeg (if v2 = (-1:Int32) then (0:Int32) else v3), w4))))
def M_tape_j32  (v1 : Int32) (v2 : Int32) (v3 : Int32) (mso_j : (Nat → Int32)) (mmy_j : (Nat → Int32)) (mit_j : (Nat → Int64)) : Option (Int32 × (Nat → Int32) × (Nat → Int32) × (Nat → Int64)) := if v2 = (-1:Int32) then (M_tape_j44 v1 v2 v3 mso_j mmy_j mit_j) else (if (0:Int32) ≤ v3 then (M_tape_j44 v1 v2 v3 mso_j mmy_j mit_j) else (some ((-14:Int32), mso_j, mmy_j, mit_j)))
def M_tape_j29  (mso_j : (Nat → Int32)) (mmy_j : (Nat → Int32)) (mit_j : (Nat → Int64)) : Option (Int32 × (Nat → Int32) × (Nat → Int32) × (Nat → Int64)) := some ((-2:Int32), mso_j, mmy_j, mit_j)
def M_tape (v1 : Int32) (v2 : Int32) (v3 : Int32) (mso : (Nat → Int32)) (mmy : (Nat → Int32)) (mit : (Nat → Int64)) : Option (Int32 × (Nat → Int32) × (Nat → Int32) × (Nat → Int64)) := if (M_isTape v1) = (0:Int32) then (some ((-1:Int32), mso, mmy, mit)) else (if (M_isIn v2 (-1:Int32) (4:Int32)) = (0:Int32) then (M_tape_j29 mso mmy mit) else (if v2 = (-1:Int32) then (M_tape_j32 v1 v2 v3 mso mmy mit) else (if v3 ≤ (60:Int32) then (M_tape_j32 v1 v2 v3 mso mmy mit) else (M_tape_j29 mso mmy mit))))
set_option maxRecDepth 10000 in
theorem M_tape_l70 {v1 : Int32}   (hE : cl = sxE sc (d + 2)) (hm : CallMono cl) : ∀ (n : Nat) (s : (Int32 × (Nat → Int64))) (r : (Nat → Int64)), wh (M_tape_s70 v1) n s = some r → (∀ (z0 z1 z2 z3 z4 : Option Value), sxWP sc cl Q 237 (96, [z0, z1, z2, z3, z4], [], (wF im nrg nld nmt nps npl npw npr nss nso nsq nes neo neq ngs ngo ngq krg kld kmt kps kpl kpw kpr kss kso ksq kes keo keq kgs kgo kgq okn org osi oti ole oto oow oco ost owa owv owh olo ohi ora odi oqu skd sdp sfd sop str spr rsz rcl rsg rst mrg mkr mik msz gle gsu tat tfa cco cct cac caf cwe ms mkp mtx mso mmy r gma gpi gst ghe gow gfa gqu glo ghi gby gib tto cfo cff ccl tp T), 0, 0)) → ∀ (z2 z3 : Option Value), sxWP sc cl Q 237 (70, [some (.ref 59), some (.int v1), z2, z3, some (.int s.1)], [], (wF im nrg nld nmt nps npl npw npr nss nso nsq nes neo neq ngs ngo ngq krg kld kmt kps kpl kpw kpr kss kso ksq kes keo keq kgs kgo kgq okn org osi oti ole oto oow oco ost owa owv owh olo ohi ora odi oqu skd sdp sfd sop str spr rsz rcl rsg rst mrg mkr mik msz gle gsu tat tfa cco cct cac caf cwe ms mkp mtx mso mmy s.2 gma gpi gst ghe gow gfa gqu glo ghi gby gib tto cfo cff ccl tp T), 0, 0) := by
  refine wh_run (A := fun (s : (Int32 × (Nat → Int64))) => ∀ (z2 z3 : Option Value), sxWP sc cl Q 237 (70, [some (.ref 59), some (.int v1), z2, z3, some (.int s.1)], [], (wF im nrg nld nmt nps npl npw npr nss nso nsq nes neo neq ngs ngo ngq krg kld kmt kps kpl kpw kpr kss kso ksq kes keo keq kgs kgo kgq okn org osi oti ole oto oow oco ost owa owv owh olo ohi ora odi oqu skd sdp sfd sop str spr rsz rcl rsg rst mrg mkr mik msz gle gsu tat tfa cco cct cac caf cwe ms mkp mtx mso mmy s.2 gma gpi gst ghe gow gfa gqu glo ghi gby gib tto cfo cff ccl tp T), 0, 0)) (B := fun (r : (Nat → Int64)) => ∀ (z0 z1 z2 z3 z4 : Option Value), sxWP sc cl Q 237 (96, [z0, z1, z2, z3, z4], [], (wF im nrg nld nmt nps npl npw npr nss nso nsq nes neo neq ngs ngo ngq krg kld kmt kps kpl kpw kpr kss kso ksq kes keo keq kgs kgo kgq okn org osi oti ole oto oow oco ost owa owv owh olo ohi ora odi oqu skd sdp sfd sop str spr rsz rcl rsg rst mrg mkr mik msz gle gsu tat tfa cco cct cac caf cwe ms mkp mtx mso mmy r gma gpi gst ghe gow gfa gqu glo ghi gby gib tto cfo cff ccl tp T), 0, 0)) (fun s x hf hA hB => ?_)
  intro z2 z3
  unfold M_tape_s70 at hf
  refine stp hm 3 (br hf (fun c1 hf => ?_) (fun c1 hf => ?_))
  · show sxWP sc cl Q 237 (96, [some (.ref 59), some (.int v1), z2, z3, some (.int s.1)], [], (wF im nrg nld nmt nps npl npw npr nss nso nsq nes neo neq ngs ngo ngq krg kld kmt kps kpl kpw kpr kss kso ksq kes keo keq kgs kgo kgq okn org osi oti ole oto oow oco ost owa owv owh olo ohi ora odi oqu skd sdp sfd sop str spr rsz rcl rsg rst mrg mkr mik msz gle gsu tat tfa cco cct cac caf cwe ms mkp mtx mso mmy s.2 gma gpi gst ghe gow gfa gqu glo ghi gby gib tto cfo cff ccl tp T), 0, 0)
    obtain rfl := Option.some.inj hf
    exact hB _ rfl _ _ _ _ _
  · show sxWP sc cl Q 237 (77, [some (.ref 59), some (.int v1), z2, z3, some (.int s.1)], [], (wF im nrg nld nmt nps npl npw npr nss nso nsq nes neo neq ngs ngo ngq krg kld kmt kps kpl kpw kpr kss kso ksq kes keo keq kgs kgo kgq okn org osi oti ole oto oow oco ost owa owv owh olo ohi ora odi oqu skd sdp sfd sop str spr rsz rcl rsg rst mrg mkr mik msz gle gsu tat tfa cco cct cac caf cwe ms mkp mtx mso mmy s.2 gma gpi gst ghe gow gfa gqu glo ghi gby gib tto cfo cff ccl tp T), 0, 0)
    obtain ⟨g2, hf⟩ := grd_e hf
    refine stp hm 9 (And.intro (gi_in g2) (?_ : sxWP sc cl Q 237 (90, [some (.ref 59), some (.int v1), z2, z3, some (.int s.1)], [], (wF im nrg nld nmt nps npl npw npr nss nso nsq nes neo neq ngs ngo ngq krg kld kmt kps kpl kpw kpr kss kso ksq kes keo keq kgs kgo kgq okn org osi oti ole oto oow oco ost owa owv owh olo ohi ora odi oqu skd sdp sfd sop str spr rsz rcl rsg rst mrg mkr mik msz gle gsu tat tfa cco cct cac caf cwe ms mkp mtx mso mmy (vp_updL s.2 (((60:Int32) * v1) + s.1).toNatClampNeg (0:Int64)) gma gpi gst ghe gow gfa gqu glo ghi gby gib tto cfo cff ccl tp T), 0, 0)))
    obtain rfl := Option.some.inj hf
    refine stp hm 2 (?_ : sxWP sc cl Q 237 (70, [some (.ref 59), some (.int v1), z2, (sxc2 z3), some (.int (s.1 + (1:Int32)))], [], (wF im nrg nld nmt nps npl npw npr nss nso nsq nes neo neq ngs ngo ngq krg kld kmt kps kpl kpw kpr kss kso ksq kes keo keq kgs kgo kgq okn org osi oti ole oto oow oco ost owa owv owh olo ohi ora odi oqu skd sdp sfd sop str spr rsz rcl rsg rst mrg mkr mik msz gle gsu tat tfa cco cct cac caf cwe ms mkp mtx mso mmy (vp_updL s.2 (((60:Int32) * v1) + s.1).toNatClampNeg (0:Int64)) gma gpi gst ghe gow gfa gqu glo ghi gby gib tto cfo cff ccl tp T), 0, 0))
    exact hA _ rfl _ _
set_option maxRecDepth 10000 in
theorem M_tape_ok {v1 : Int32} {v2 : Int32} {v3 : Int32} {q : (Int32 × (Nat → Int32) × (Nat → Int32) × (Nat → Int64))} (hc : call = sxE sc (d + 3)) (hf : M_tape v1 v2 v3 mso mmy mit = some q) (h : Q (some (.int q.1)) (wF im nrg nld nmt nps npl npw npr nss nso nsq nes neo neq ngs ngo ngq krg kld kmt kps kpl kpw kpr kss kso ksq kes keo keq kgs kgo kgq okn org osi oti ole oto oow oco ost owa owv owh olo ohi ora odi oqu skd sdp sfd sop str spr rsz rcl rsg rst mrg mkr mik msz gle gsu tat tfa cco cct cac caf cwe ms mkp mtx q.2.1 q.2.2.1 q.2.2.2 gma gpi gst ghe gow gfa gqu glo ghi gby gib tto cfo cff ccl tp T)) : call 237 [.ref 59, .int v1, .int v2, .int v3] (wF im nrg nld nmt nps npl npw npr nss nso nsq nes neo neq ngs ngo ngq krg kld kmt kps kpl kpw kpr kss kso ksq kes keo keq kgs kgo kgq okn org osi oti ole oto oow oco ost owa owv owh olo ohi ora odi oqu skd sdp sfd sop str spr rsz rcl rsg rst mrg mkr mik msz gle gsu tat tfa cco cct cac caf cwe ms mkp mtx mso mmy mit gma gpi gst ghe gow gfa gqu glo ghi gby gib tto cfo cff ccl tp T) Q := by
  refine ent hc rfl (fun cl hE hm => ?_)
  have J44 : ∀ (v1 : Int32) (v2 : Int32) (v3 : Int32) (mso_j : (Nat → Int32)) (mmy_j : (Nat → Int32)) (mit_j : (Nat → Int64)) (z4 : Option Value), M_tape_j44 v1 v2 v3 mso_j mmy_j mit_j = some q → sxWP sc cl Q 237 (44, [some (.ref 59), some (.int v1), some (.int v2), some (.int v3), z4], [], (wF im nrg nld nmt nps npl npw npr nss nso nsq nes neo neq ngs ngo ngq krg kld kmt kps kpl kpw kpr kss kso ksq kes keo keq kgs kgo kgq okn org osi oti ole oto oow oco ost owa owv owh olo ohi ora odi oqu skd sdp sfd sop str spr rsz rcl rsg rst mrg mkr mik msz gle gsu tat tfa cco cct cac caf cwe ms mkp mtx mso_j mmy_j mit_j gma gpi gst ghe gow gfa gqu glo ghi gby gib tto cfo cff ccl tp T), 0, 0) := by
    intro v1 v2 v3 mso_j mmy_j mit_j z4 hf
    unfold M_tape_j44 at hf
    obtain ⟨g1, hf⟩ := grd_e hf
    refine stp hm 5 (And.intro (gi_in g1) (?_ : sxWP sc cl Q 237 (51, [some (.ref 59), some (.int v1), some (.int v2), some (.int v3), z4], [], (wF im nrg nld nmt nps npl npw npr nss nso nsq nes neo neq ngs ngo ngq krg kld kmt kps kpl kpw kpr kss kso ksq kes keo keq kgs kgo kgq okn org osi oti ole oto oow oco ost owa owv owh olo ohi ora odi oqu skd sdp sfd sop str spr rsz rcl rsg rst mrg mkr mik msz gle gsu tat tfa cco cct cac caf cwe ms mkp mtx (upd mso_j v1.toNatClampNeg v2) mmy_j mit_j gma gpi gst ghe gow gfa gqu glo ghi gby gib tto cfo cff ccl tp T), 0, 0)))
    have m2 : ∀ (m2_0 : Int32), m2_0 = (if v2 = (-1:Int32) then (0:Int32) else v3) → sxWP sc cl Q 237 (66, [some (.ref 59), some (.int v1), some (.int v2), some (.int v3), z4], [.int m2_0, .int v1, .ref 64], (wF im nrg nld nmt nps npl npw npr nss nso nsq nes neo neq ngs ngo ngq krg kld kmt kps kpl kpw kpr kss kso ksq kes keo keq kgs kgo kgq okn org osi oti ole oto oow oco ost owa owv owh olo ohi ora odi oqu skd sdp sfd sop str spr rsz rcl rsg rst mrg mkr mik msz gle gsu tat tfa cco cct cac caf cwe ms mkp mtx (upd mso_j v1.toNatClampNeg v2) mmy_j mit_j gma gpi gst ghe gow gfa gqu glo ghi gby gib tto cfo cff ccl tp T), 0, 0) := by
      intro m2_0 em2_0
      subst em2_0
      obtain ⟨g3, hf⟩ := grd_e hf
      refine stp hm 1 (And.intro (gi_in g3) (?_ : sxWP sc cl Q 237 (67, [some (.ref 59), some (.int v1), some (.int v2), some (.int v3), z4], [], (wF im nrg nld nmt nps npl npw npr nss nso nsq nes neo neq ngs ngo ngq krg kld kmt kps kpl kpw kpr kss kso ksq kes keo keq kgs kgo kgq okn org osi oti ole oto oow oco ost owa owv owh olo ohi ora odi oqu skd sdp sfd sop str spr rsz rcl rsg rst mrg mkr mik msz gle gsu tat tfa cco cct cac caf cwe ms mkp mtx (upd mso_j v1.toNatClampNeg v2) (upd mmy_j v1.toNatClampNeg (if v2 = (-1:Int32) then (0:Int32) else v3)) mit_j gma gpi gst ghe gow gfa gqu glo ghi gby gib tto cfo cff ccl tp T), 0, 0)))
      obtain ⟨w4, hw4, hf⟩ := bnd hf
      refine stp hm 2 (?_ : sxWP sc cl Q 237 (70, [some (.ref 59), some (.int v1), some (.int v2), some (.int v3), some (.int (0:Int32))], [], (wF im nrg nld nmt nps npl npw npr nss nso nsq nes neo neq ngs ngo ngq krg kld kmt kps kpl kpw kpr kss kso ksq kes keo keq kgs kgo kgq okn org osi oti ole oto oow oco ost owa owv owh olo ohi ora odi oqu skd sdp sfd sop str spr rsz rcl rsg rst mrg mkr mik msz gle gsu tat tfa cco cct cac caf cwe ms mkp mtx (upd mso_j v1.toNatClampNeg v2) (upd mmy_j v1.toNatClampNeg (if v2 = (-1:Int32) then (0:Int32) else v3)) mit_j gma gpi gst ghe gow gfa gqu glo ghi gby gib tto cfo cff ccl tp T), 0, 0))
      refine M_tape_l70 hE hm FU ((0:Int32), mit_j) w4 (by exact hw4) ?_ _ _
      intro w4_z0 w4_z1 w4_z2 w4_z3 w4_z4
      show sxWP sc cl Q 237 (96, [w4_z0, w4_z1, w4_z2, w4_z3, w4_z4], [], (wF im nrg nld nmt nps npl npw npr nss nso nsq nes neo neq ngs ngo ngq krg kld kmt kps kpl kpw kpr kss kso ksq kes keo keq kgs kgo kgq okn org osi oti ole oto oow oco ost owa owv owh olo ohi ora odi oqu skd sdp sfd sop str spr rsz rcl rsg rst mrg mkr mik msz gle gsu tat tfa cco cct cac caf cwe ms mkp mtx (upd mso_j v1.toNatClampNeg v2) (upd mmy_j v1.toNatClampNeg (if v2 = (-1:Int32) then (0:Int32) else v3)) w4 gma gpi gst ghe gow gfa gqu glo ghi gby gib tto cfo cff ccl tp T), 0, 0)
      obtain rfl := Option.some.inj hf
      refine stp hm 2 ?_
      exact h
    refine stp hm 6 (bsn (c := v2 = (-1:Int32)) (fun c5 => ?_) (fun c5 => ?_))
    · have c5 : ¬ v2 = (-1:Int32) := c5
      refine stp hm 1 (?_ : sxWP sc cl Q 237 (66, [some (.ref 59), some (.int v1), some (.int v2), some (.int v3), z4], [.int v3, .int v1, .ref 64], (wF im nrg nld nmt nps npl npw npr nss nso nsq nes neo neq ngs ngo ngq krg kld kmt kps kpl kpw kpr kss kso ksq kes keo keq kgs kgo kgq okn org osi oti ole oto oow oco ost owa owv owh olo ohi ora odi oqu skd sdp sfd sop str spr rsz rcl rsg rst mrg mkr mik msz gle gsu tat tfa cco cct cac caf cwe ms mkp mtx (upd mso_j v1.toNatClampNeg v2) mmy_j mit_j gma gpi gst ghe gow gfa gqu glo ghi gby gib tto cfo cff ccl tp T), 0, 0))
      exact m2 _ (by rw [if_neg c5])
    · have c5 : v2 = (-1:Int32) := c5
      refine stp hm 2 (?_ : sxWP sc cl Q 237 (66, [some (.ref 59), some (.int v1), some (.int v2), some (.int v3), z4], [.int (0:Int32), .int v1, .ref 64], (wF im nrg nld nmt nps npl npw npr nss nso nsq nes neo neq ngs ngo ngq krg kld kmt kps kpl kpw kpr kss kso ksq kes keo keq kgs kgo kgq okn org osi oti ole oto oow oco ost owa owv owh olo ohi ora odi oqu skd sdp sfd sop str spr rsz rcl rsg rst mrg mkr mik msz gle gsu tat tfa cco cct cac caf cwe ms mkp mtx (upd mso_j v1.toNatClampNeg v2) mmy_j mit_j gma gpi gst ghe gow gfa gqu glo ghi gby gib tto cfo cff ccl tp T), 0, 0))
      exact m2 _ (by rw [if_pos c5])
  have J32 : ∀ (v1 : Int32) (v2 : Int32) (v3 : Int32) (mso_j : (Nat → Int32)) (mmy_j : (Nat → Int32)) (mit_j : (Nat → Int64)) (z4 : Option Value), M_tape_j32 v1 v2 v3 mso_j mmy_j mit_j = some q → sxWP sc cl Q 237 (32, [some (.ref 59), some (.int v1), some (.int v2), some (.int v3), z4], [], (wF im nrg nld nmt nps npl npw npr nss nso nsq nes neo neq ngs ngo ngq krg kld kmt kps kpl kpw kpr kss kso ksq kes keo keq kgs kgo kgq okn org osi oti ole oto oow oco ost owa owv owh olo ohi ora odi oqu skd sdp sfd sop str spr rsz rcl rsg rst mrg mkr mik msz gle gsu tat tfa cco cct cac caf cwe ms mkp mtx mso_j mmy_j mit_j gma gpi gst ghe gow gfa gqu glo ghi gby gib tto cfo cff ccl tp T), 0, 0) := by
    intro v1 v2 v3 mso_j mmy_j mit_j z4 hf
    unfold M_tape_j32 at hf
    refine stp hm 3 (br hf (fun c6 hf => ?_) (fun c6 hf => ?_))
    · show sxWP sc cl Q 237 (44, [some (.ref 59), some (.int v1), some (.int v2), some (.int v3), z4], [], (wF im nrg nld nmt nps npl npw npr nss nso nsq nes neo neq ngs ngo ngq krg kld kmt kps kpl kpw kpr kss kso ksq kes keo keq kgs kgo kgq okn org osi oti ole oto oow oco ost owa owv owh olo ohi ora odi oqu skd sdp sfd sop str spr rsz rcl rsg rst mrg mkr mik msz gle gsu tat tfa cco cct cac caf cwe ms mkp mtx mso_j mmy_j mit_j gma gpi gst ghe gow gfa gqu glo ghi gby gib tto cfo cff ccl tp T), 0, 0)
      exact J44 _ _ _ _ _ _ _ hf
    · show sxWP sc cl Q 237 (37, [some (.ref 59), some (.int v1), some (.int v2), some (.int v3), z4], [], (wF im nrg nld nmt nps npl npw npr nss nso nsq nes neo neq ngs ngo ngq krg kld kmt kps kpl kpw kpr kss kso ksq kes keo keq kgs kgo kgq okn org osi oti ole oto oow oco ost owa owv owh olo ohi ora odi oqu skd sdp sfd sop str spr rsz rcl rsg rst mrg mkr mik msz gle gsu tat tfa cco cct cac caf cwe ms mkp mtx mso_j mmy_j mit_j gma gpi gst ghe gow gfa gqu glo ghi gby gib tto cfo cff ccl tp T), 0, 0)
      refine stp hm 2 (br hf (fun c7 hf => ?_) (fun c7 hf => ?_))
      · show sxWP sc cl Q 237 (44, [some (.ref 59), some (.int v1), some (.int v2), some (.int v3), z4], [], (wF im nrg nld nmt nps npl npw npr nss nso nsq nes neo neq ngs ngo ngq krg kld kmt kps kpl kpw kpr kss kso ksq kes keo keq kgs kgo kgq okn org osi oti ole oto oow oco ost owa owv owh olo ohi ora odi oqu skd sdp sfd sop str spr rsz rcl rsg rst mrg mkr mik msz gle gsu tat tfa cco cct cac caf cwe ms mkp mtx mso_j mmy_j mit_j gma gpi gst ghe gow gfa gqu glo ghi gby gib tto cfo cff ccl tp T), 0, 0)
        exact J44 _ _ _ _ _ _ _ hf
      · show sxWP sc cl Q 237 (41, [some (.ref 59), some (.int v1), some (.int v2), some (.int v3), z4], [], (wF im nrg nld nmt nps npl npw npr nss nso nsq nes neo neq ngs ngo ngq krg kld kmt kps kpl kpw kpr kss kso ksq kes keo keq kgs kgo kgq okn org osi oti ole oto oow oco ost owa owv owh olo ohi ora odi oqu skd sdp sfd sop str spr rsz rcl rsg rst mrg mkr mik msz gle gsu tat tfa cco cct cac caf cwe ms mkp mtx mso_j mmy_j mit_j gma gpi gst ghe gow gfa gqu glo ghi gby gib tto cfo cff ccl tp T), 0, 0)
        obtain rfl := Option.some.inj hf
        refine stp hm 2 ?_
        exact h
  have J29 : ∀ (mso_j : (Nat → Int32)) (mmy_j : (Nat → Int32)) (mit_j : (Nat → Int64)) (z0 : Option Value) (z1 : Option Value) (z2 : Option Value) (z3 : Option Value) (z4 : Option Value), M_tape_j29 mso_j mmy_j mit_j = some q → sxWP sc cl Q 237 (29, [z0, z1, z2, z3, z4], [], (wF im nrg nld nmt nps npl npw npr nss nso nsq nes neo neq ngs ngo ngq krg kld kmt kps kpl kpw kpr kss kso ksq kes keo keq kgs kgo kgq okn org osi oti ole oto oow oco ost owa owv owh olo ohi ora odi oqu skd sdp sfd sop str spr rsz rcl rsg rst mrg mkr mik msz gle gsu tat tfa cco cct cac caf cwe ms mkp mtx mso_j mmy_j mit_j gma gpi gst ghe gow gfa gqu glo ghi gby gib tto cfo cff ccl tp T), 0, 0) := by
    intro mso_j mmy_j mit_j z0 z1 z2 z3 z4 hf
    unfold M_tape_j29 at hf
    obtain rfl := Option.some.inj hf
    refine stp hm 2 ?_
    exact h
  unfold M_tape at hf
  refine stp hm 2 (M_isTape_ok hE rfl ?_)
  show sxWP sc cl Q 237 (4, [some (.ref 59), some (.int v1), some (.int v2), some (.int v3), none], [.int (M_isTape v1)], (wF im nrg nld nmt nps npl npw npr nss nso nsq nes neo neq ngs ngo ngq krg kld kmt kps kpl kpw kpr kss kso ksq kes keo keq kgs kgo kgq okn org osi oti ole oto oow oco ost owa owv owh olo ohi ora odi oqu skd sdp sfd sop str spr rsz rcl rsg rst mrg mkr mik msz gle gsu tat tfa cco cct cac caf cwe ms mkp mtx mso mmy mit gma gpi gst ghe gow gfa gqu glo ghi gby gib tto cfo cff ccl tp T), 0, 0)
  refine stp hm 1 (brn hf (fun c8 hf => ?_) (fun c8 hf => ?_))
  · show sxWP sc cl Q 237 (9, [some (.ref 59), some (.int v1), some (.int v2), some (.int v3), none], [], (wF im nrg nld nmt nps npl npw npr nss nso nsq nes neo neq ngs ngo ngq krg kld kmt kps kpl kpw kpr kss kso ksq kes keo keq kgs kgo kgq okn org osi oti ole oto oow oco ost owa owv owh olo ohi ora odi oqu skd sdp sfd sop str spr rsz rcl rsg rst mrg mkr mik msz gle gsu tat tfa cco cct cac caf cwe ms mkp mtx mso mmy mit gma gpi gst ghe gow gfa gqu glo ghi gby gib tto cfo cff ccl tp T), 0, 0)
    refine stp hm 4 (M_isIn_ok hE rfl ?_)
    show sxWP sc cl Q 237 (15, [some (.ref 59), some (.int v1), some (.int v2), some (.int v3), none], [.int (M_isIn v2 (-1:Int32) (4:Int32))], (wF im nrg nld nmt nps npl npw npr nss nso nsq nes neo neq ngs ngo ngq krg kld kmt kps kpl kpw kpr kss kso ksq kes keo keq kgs kgo kgq okn org osi oti ole oto oow oco ost owa owv owh olo ohi ora odi oqu skd sdp sfd sop str spr rsz rcl rsg rst mrg mkr mik msz gle gsu tat tfa cco cct cac caf cwe ms mkp mtx mso mmy mit gma gpi gst ghe gow gfa gqu glo ghi gby gib tto cfo cff ccl tp T), 0, 0)
    refine stp hm 1 (br hf (fun c9 hf => ?_) (fun c9 hf => ?_))
    · show sxWP sc cl Q 237 (29, [some (.ref 59), some (.int v1), some (.int v2), some (.int v3), none], [], (wF im nrg nld nmt nps npl npw npr nss nso nsq nes neo neq ngs ngo ngq krg kld kmt kps kpl kpw kpr kss kso ksq kes keo keq kgs kgo kgq okn org osi oti ole oto oow oco ost owa owv owh olo ohi ora odi oqu skd sdp sfd sop str spr rsz rcl rsg rst mrg mkr mik msz gle gsu tat tfa cco cct cac caf cwe ms mkp mtx mso mmy mit gma gpi gst ghe gow gfa gqu glo ghi gby gib tto cfo cff ccl tp T), 0, 0)
      exact J29 _ _ _ _ _ _ _ _ hf
    · show sxWP sc cl Q 237 (18, [some (.ref 59), some (.int v1), some (.int v2), some (.int v3), none], [], (wF im nrg nld nmt nps npl npw npr nss nso nsq nes neo neq ngs ngo ngq krg kld kmt kps kpl kpw kpr kss kso ksq kes keo keq kgs kgo kgq okn org osi oti ole oto oow oco ost owa owv owh olo ohi ora odi oqu skd sdp sfd sop str spr rsz rcl rsg rst mrg mkr mik msz gle gsu tat tfa cco cct cac caf cwe ms mkp mtx mso mmy mit gma gpi gst ghe gow gfa gqu glo ghi gby gib tto cfo cff ccl tp T), 0, 0)
      refine stp hm 3 (br hf (fun c10 hf => ?_) (fun c10 hf => ?_))
      · show sxWP sc cl Q 237 (32, [some (.ref 59), some (.int v1), some (.int v2), some (.int v3), none], [], (wF im nrg nld nmt nps npl npw npr nss nso nsq nes neo neq ngs ngo ngq krg kld kmt kps kpl kpw kpr kss kso ksq kes keo keq kgs kgo kgq okn org osi oti ole oto oow oco ost owa owv owh olo ohi ora odi oqu skd sdp sfd sop str spr rsz rcl rsg rst mrg mkr mik msz gle gsu tat tfa cco cct cac caf cwe ms mkp mtx mso mmy mit gma gpi gst ghe gow gfa gqu glo ghi gby gib tto cfo cff ccl tp T), 0, 0)
        exact J32 _ _ _ _ _ _ _ hf
      · show sxWP sc cl Q 237 (23, [some (.ref 59), some (.int v1), some (.int v2), some (.int v3), none], [], (wF im nrg nld nmt nps npl npw npr nss nso nsq nes neo neq ngs ngo ngq krg kld kmt kps kpl kpw kpr kss kso ksq kes keo keq kgs kgo kgq okn org osi oti ole oto oow oco ost owa owv owh olo ohi ora odi oqu skd sdp sfd sop str spr rsz rcl rsg rst mrg mkr mik msz gle gsu tat tfa cco cct cac caf cwe ms mkp mtx mso mmy mit gma gpi gst ghe gow gfa gqu glo ghi gby gib tto cfo cff ccl tp T), 0, 0)
        refine stp hm 3 (br hf (fun c11 hf => ?_) (fun c11 hf => ?_))
        · show sxWP sc cl Q 237 (32, [some (.ref 59), some (.int v1), some (.int v2), some (.int v3), none], [], (wF im nrg nld nmt nps npl npw npr nss nso nsq nes neo neq ngs ngo ngq krg kld kmt kps kpl kpw kpr kss kso ksq kes keo keq kgs kgo kgq okn org osi oti ole oto oow oco ost owa owv owh olo ohi ora odi oqu skd sdp sfd sop str spr rsz rcl rsg rst mrg mkr mik msz gle gsu tat tfa cco cct cac caf cwe ms mkp mtx mso mmy mit gma gpi gst ghe gow gfa gqu glo ghi gby gib tto cfo cff ccl tp T), 0, 0)
          exact J32 _ _ _ _ _ _ _ hf
        · show sxWP sc cl Q 237 (29, [some (.ref 59), some (.int v1), some (.int v2), some (.int v3), none], [], (wF im nrg nld nmt nps npl npw npr nss nso nsq nes neo neq ngs ngo ngq krg kld kmt kps kpl kpw kpr kss kso ksq kes keo keq kgs kgo kgq okn org osi oti ole oto oow oco ost owa owv owh olo ohi ora odi oqu skd sdp sfd sop str spr rsz rcl rsg rst mrg mkr mik msz gle gsu tat tfa cco cct cac caf cwe ms mkp mtx mso mmy mit gma gpi gst ghe gow gfa gqu glo ghi gby gib tto cfo cff ccl tp T), 0, 0)
          exact J29 _ _ _ _ _ _ _ _ hf
  · show sxWP sc cl Q 237 (7, [some (.ref 59), some (.int v1), some (.int v2), some (.int v3), none], [], (wF im nrg nld nmt nps npl npw npr nss nso nsq nes neo neq ngs ngo ngq krg kld kmt kps kpl kpw kpr kss kso ksq kes keo keq kgs kgo kgq okn org osi oti ole oto oow oco ost owa owv owh olo ohi ora odi oqu skd sdp sfd sop str spr rsz rcl rsg rst mrg mkr mik msz gle gsu tat tfa cco cct cac caf cwe ms mkp mtx mso mmy mit gma gpi gst ghe gow gfa gqu glo ghi gby gib tto cfo cff ccl tp T), 0, 0)
    obtain rfl := Option.some.inj hf
    refine stp hm 2 ?_
    exact h
def X_item (v1 : Int32) (v2 : Int32) (v3 : Int64)  : Option Int32 := if (X_isTape v1) = (0:Int32) then (some (-1:Int32)) else none
set_option maxRecDepth 10000 in
theorem X_item_ok {v1 : Int32} {v2 : Int32} {v3 : Int64} {q : Int32} (hc : call = sxE sc (d + 2)) (hf : X_item v1 v2 v3 = some q) (h : Q (some (.int q)) (wF im nrg nld nmt nps npl npw npr nss nso nsq nes neo neq ngs ngo ngq krg kld kmt kps kpl kpw kpr kss kso ksq kes keo keq kgs kgo kgq okn org osi oti ole oto oow oco ost owa owv owh olo ohi ora odi oqu skd sdp sfd sop str spr rsz rcl rsg rst mrg mkr mik msz gle gsu tat tfa cco cct cac caf cwe ms mkp mtx mso mmy mit gma gpi gst ghe gow gfa gqu glo ghi gby gib tto cfo cff ccl tp T)) : call 132 [.ref 0, .int v1, .int v2, .long v3] (wF im nrg nld nmt nps npl npw npr nss nso nsq nes neo neq ngs ngo ngq krg kld kmt kps kpl kpw kpr kss kso ksq kes keo keq kgs kgo kgq okn org osi oti ole oto oow oco ost owa owv owh olo ohi ora odi oqu skd sdp sfd sop str spr rsz rcl rsg rst mrg mkr mik msz gle gsu tat tfa cco cct cac caf cwe ms mkp mtx mso mmy mit gma gpi gst ghe gow gfa gqu glo ghi gby gib tto cfo cff ccl tp T) Q := by
  refine ent hc rfl (fun cl hE hm => ?_)
  unfold X_item at hf
  refine stp hm 2 (X_isTape_ok hE rfl ?_)
  show sxWP sc cl Q 132 (4, [some (.ref 0), some (.int v1), some (.int v2), some (.long v3), none], [.int (X_isTape v1)], (wF im nrg nld nmt nps npl npw npr nss nso nsq nes neo neq ngs ngo ngq krg kld kmt kps kpl kpw kpr kss kso ksq kes keo keq kgs kgo kgq okn org osi oti ole oto oow oco ost owa owv owh olo ohi ora odi oqu skd sdp sfd sop str spr rsz rcl rsg rst mrg mkr mik msz gle gsu tat tfa cco cct cac caf cwe ms mkp mtx mso mmy mit gma gpi gst ghe gow gfa gqu glo ghi gby gib tto cfo cff ccl tp T), 0, 0)
  refine stp hm 1 (brn hf (fun c1 hf => ?_) (fun c1 hf => ?_))
  · show sxWP sc cl Q 132 (9, [some (.ref 0), some (.int v1), some (.int v2), some (.long v3), none], [], (wF im nrg nld nmt nps npl npw npr nss nso nsq nes neo neq ngs ngo ngq krg kld kmt kps kpl kpw kpr kss kso ksq kes keo keq kgs kgo kgq okn org osi oti ole oto oow oco ost owa owv owh olo ohi ora odi oqu skd sdp sfd sop str spr rsz rcl rsg rst mrg mkr mik msz gle gsu tat tfa cco cct cac caf cwe ms mkp mtx mso mmy mit gma gpi gst ghe gow gfa gqu glo ghi gby gib tto cfo cff ccl tp T), 0, 0)
    cases hf
  · show sxWP sc cl Q 132 (7, [some (.ref 0), some (.int v1), some (.int v2), some (.long v3), none], [], (wF im nrg nld nmt nps npl npw npr nss nso nsq nes neo neq ngs ngo ngq krg kld kmt kps kpl kpw kpr kss kso ksq kes keo keq kgs kgo kgq okn org osi oti ole oto oow oco ost owa owv owh olo ohi ora odi oqu skd sdp sfd sop str spr rsz rcl rsg rst mrg mkr mik msz gle gsu tat tfa cco cct cac caf cwe ms mkp mtx mso mmy mit gma gpi gst ghe gow gfa gqu glo ghi gby gib tto cfo cff ccl tp T), 0, 0)
    obtain rfl := Option.some.inj hf
    refine stp hm 2 ?_
    exact h
def T_narrowed_j66  (v1 : Int64) : Int64 := v1
def T_narrowed (v1 : Int64) (tp0s : Int32) : Int64 := if tp0s = (0:Int32) then v1.toInt32.toInt8.toInt32.toInt64 else (if tp0s = (1:Int32) then v1.toInt32.toInt16.toInt32.toInt64 else (if tp0s = (2:Int32) then v1.toInt32.toInt64 else (if tp0s = (3:Int32) then (T_narrowed_j66 v1) else (if tp0s = (4:Int32) then (if v1 = (0:Int64) then (0:Int64) else (1:Int64)) else (T_narrowed_j66 v1)))))
set_option maxRecDepth 10000 in
theorem T_narrowed_ok {v1 : Int64} {r : Int64} (hc : call = sxE sc (d + 1)) (hf : T_narrowed v1 ((tp 0).1) = r) (h : Q (some (.long r)) (wF im nrg nld nmt nps npl npw npr nss nso nsq nes neo neq ngs ngo ngq krg kld kmt kps kpl kpw kpr kss kso ksq kes keo keq kgs kgo kgq okn org osi oti ole oto oow oco ost owa owv owh olo ohi ora odi oqu skd sdp sfd sop str spr rsz rcl rsg rst mrg mkr mik msz gle gsu tat tfa cco cct cac caf cwe ms mkp mtx mso mmy mit gma gpi gst ghe gow gfa gqu glo ghi gby gib tto cfo cff ccl tp T)) : call 88 [.ref 47, .long v1] (wF im nrg nld nmt nps npl npw npr nss nso nsq nes neo neq ngs ngo ngq krg kld kmt kps kpl kpw kpr kss kso ksq kes keo keq kgs kgo kgq okn org osi oti ole oto oow oco ost owa owv owh olo ohi ora odi oqu skd sdp sfd sop str spr rsz rcl rsg rst mrg mkr mik msz gle gsu tat tfa cco cct cac caf cwe ms mkp mtx mso mmy mit gma gpi gst ghe gow gfa gqu glo ghi gby gib tto cfo cff ccl tp T) Q := by
  refine ent hc rfl (fun cl hE hm => ?_)
  have J66 : ∀ (v1 : Int64) (z0 : Option Value), T_narrowed_j66 v1 = r → sxWP sc cl Q 88 (66, [z0, some (.long v1), none], [], (wF im nrg nld nmt nps npl npw npr nss nso nsq nes neo neq ngs ngo ngq krg kld kmt kps kpl kpw kpr kss kso ksq kes keo keq kgs kgo kgq okn org osi oti ole oto oow oco ost owa owv owh olo ohi ora odi oqu skd sdp sfd sop str spr rsz rcl rsg rst mrg mkr mik msz gle gsu tat tfa cco cct cac caf cwe ms mkp mtx mso mmy mit gma gpi gst ghe gow gfa gqu glo ghi gby gib tto cfo cff ccl tp T), 0, 0) := by
    intro v1 z0 hf
    unfold T_narrowed_j66 at hf
    subst hf
    refine stp hm 2 ?_
    exact h
  unfold T_narrowed at hf
  refine stp hm 3 ?_
  show sxWP sc cl Q 88 ((swT ((tp 0).1).toInt (0) [40, 45, 50, 66, 54] 66), [some (.ref 47), some (.long v1), none], [], (wF im nrg nld nmt nps npl npw npr nss nso nsq nes neo neq ngs ngo ngq krg kld kmt kps kpl kpw kpr kss kso ksq kes keo keq kgs kgo kgq okn org osi oti ole oto oow oco ost owa owv owh olo ohi ora odi oqu skd sdp sfd sop str spr rsz rcl rsg rst mrg mkr mik msz gle gsu tat tfa cco cct cac caf cwe ms mkp mtx mso mmy mit gma gpi gst ghe gow gfa gqu glo ghi gby gib tto cfo cff ccl tp T), 0, 0)
  rcases ite_or hf with ⟨c1_0, hf⟩ | ⟨c1_0, hf⟩
  · rw [show swT ((tp 0).1).toInt (0) [40, 45, 50, 66, 54] 66 = 40 by rw [c1_0]; rfl]
    subst hf
    refine stp hm 5 ?_
    exact h
  rcases ite_or hf with ⟨c1_1, hf⟩ | ⟨c1_1, hf⟩
  · rw [show swT ((tp 0).1).toInt (0) [40, 45, 50, 66, 54] 66 = 45 by rw [c1_1]; rfl]
    subst hf
    refine stp hm 5 ?_
    exact h
  rcases ite_or hf with ⟨c1_2, hf⟩ | ⟨c1_2, hf⟩
  · rw [show swT ((tp 0).1).toInt (0) [40, 45, 50, 66, 54] 66 = 50 by rw [c1_2]; rfl]
    subst hf
    refine stp hm 4 ?_
    exact h
  rcases ite_or hf with ⟨c1_3, hf⟩ | ⟨c1_3, hf⟩
  · rw [show swT ((tp 0).1).toInt (0) [40, 45, 50, 66, 54] 66 = 66 by rw [c1_3]; rfl]
    exact J66 _ _ hf
  rcases ite_or hf with ⟨c1_4, hf⟩ | ⟨c1_4, hf⟩
  · rw [show swT ((tp 0).1).toInt (0) [40, 45, 50, 66, 54] 66 = 54 by rw [c1_4]; rfl]
    have m2 : ∀ (m2_0 : Int64), m2_0 = (if v1 = (0:Int64) then (0:Int64) else (1:Int64)) → sxWP sc cl Q 88 (65, [some (.ref 47), some (.long v1), none], [.long m2_0], (wF im nrg nld nmt nps npl npw npr nss nso nsq nes neo neq ngs ngo ngq krg kld kmt kps kpl kpw kpr kss kso ksq kes keo keq kgs kgo kgq okn org osi oti ole oto oow oco ost owa owv owh olo ohi ora odi oqu skd sdp sfd sop str spr rsz rcl rsg rst mrg mkr mik msz gle gsu tat tfa cco cct cac caf cwe ms mkp mtx mso mmy mit gma gpi gst ghe gow gfa gqu glo ghi gby gib tto cfo cff ccl tp T), 0, 0) := by
      intro m2_0 em2_0
      subst em2_0
      subst hf
      refine stp hm 1 ?_
      exact h
    refine stp hm 4 (bsI (lg_cmp_eq _ _) (fun c3 => ?_) (fun c3 => ?_))
    · have c3 : v1 = (0:Int64) := c3
      refine stp hm 1 (?_ : sxWP sc cl Q 88 (65, [some (.ref 47), some (.long v1), none], [.long (0:Int64)], (wF im nrg nld nmt nps npl npw npr nss nso nsq nes neo neq ngs ngo ngq krg kld kmt kps kpl kpw kpr kss kso ksq kes keo keq kgs kgo kgq okn org osi oti ole oto oow oco ost owa owv owh olo ohi ora odi oqu skd sdp sfd sop str spr rsz rcl rsg rst mrg mkr mik msz gle gsu tat tfa cco cct cac caf cwe ms mkp mtx mso mmy mit gma gpi gst ghe gow gfa gqu glo ghi gby gib tto cfo cff ccl tp T), 0, 0))
      exact m2 _ (by rw [if_pos c3])
    · have c3 : ¬ v1 = (0:Int64) := c3
      refine stp hm 2 (?_ : sxWP sc cl Q 88 (65, [some (.ref 47), some (.long v1), none], [.long (1:Int64)], (wF im nrg nld nmt nps npl npw npr nss nso nsq nes neo neq ngs ngo ngq krg kld kmt kps kpl kpw kpr kss kso ksq kes keo keq kgs kgo kgq okn org osi oti ole oto oow oco ost owa owv owh olo ohi ora odi oqu skd sdp sfd sop str spr rsz rcl rsg rst mrg mkr mik msz gle gsu tat tfa cco cct cac caf cwe ms mkp mtx mso mmy mit gma gpi gst ghe gow gfa gqu glo ghi gby gib tto cfo cff ccl tp T), 0, 0))
      exact m2 _ (by rw [if_neg c3])
  have tc1_0 : ¬ ((tp 0).1).toInt = 0 := fun e => c1_0 (Int32.toInt_inj.mp e)
  have tc1_1 : ¬ ((tp 0).1).toInt = 1 := fun e => c1_1 (Int32.toInt_inj.mp e)
  have tc1_2 : ¬ ((tp 0).1).toInt = 2 := fun e => c1_2 (Int32.toInt_inj.mp e)
  have tc1_3 : ¬ ((tp 0).1).toInt = 3 := fun e => c1_3 (Int32.toInt_inj.mp e)
  have tc1_4 : ¬ ((tp 0).1).toInt = 4 := fun e => c1_4 (Int32.toInt_inj.mp e)
  rw [show swT ((tp 0).1).toInt (0) [40, 45, 50, 66, 54] 66 = 66 by simp [swT, tc1_0, tc1_1, tc1_2, tc1_3, tc1_4]]
  exact J66 _ _ hf
def T_put_j19  (tp0i_j : (Nat → Int64)) : Option (Nat → Int64) := some tp0i_j
def T_put (v1 : Int32) (v2 : Int64) (tp0s : Int32) (tp0n : Int32) (tp0i : (Nat → Int64)) : Option (Nat → Int64) := if (T_hasPlace v1 tp0n) = (0:Int32) then (T_put_j19 tp0i) else (grd (gi v1 60) (T_put_j19 (vp_updL tp0i v1.toNatClampNeg (T_narrowed v2 tp0s))))
set_option maxRecDepth 10000 in
theorem T_put_ok {v1 : Int32} {v2 : Int64} {q : (Nat → Int64)} (hc : call = sxE sc (d + 2)) (hf : T_put v1 v2 ((tp 0).1) ((tp 0).2.1) ((tp 0).2.2) = some q) (h : Q none (wF im nrg nld nmt nps npl npw npr nss nso nsq nes neo neq ngs ngo ngq krg kld kmt kps kpl kpw kpr kss kso ksq kes keo keq kgs kgo kgq okn org osi oti ole oto oow oco ost owa owv owh olo ohi ora odi oqu skd sdp sfd sop str spr rsz rcl rsg rst mrg mkr mik msz gle gsu tat tfa cco cct cac caf cwe ms mkp mtx mso mmy mit gma gpi gst ghe gow gfa gqu glo ghi gby gib tto cfo cff ccl (tpU tp 0 ((tp 0).1, (tp 0).2.1, q)) T)) : call 87 [.ref 47, .int v1, .long v2] (wF im nrg nld nmt nps npl npw npr nss nso nsq nes neo neq ngs ngo ngq krg kld kmt kps kpl kpw kpr kss kso ksq kes keo keq kgs kgo kgq okn org osi oti ole oto oow oco ost owa owv owh olo ohi ora odi oqu skd sdp sfd sop str spr rsz rcl rsg rst mrg mkr mik msz gle gsu tat tfa cco cct cac caf cwe ms mkp mtx mso mmy mit gma gpi gst ghe gow gfa gqu glo ghi gby gib tto cfo cff ccl tp T) Q := by
  refine ent hc rfl (fun cl hE hm => ?_)
  have J19 : ∀ (tp0i_j : (Nat → Int64)) (z0 : Option Value) (z1 : Option Value) (z2 : Option Value) (z3 : Option Value), T_put_j19 tp0i_j = some q → sxWP sc cl Q 87 (19, [z0, z1, z2, z3], [], (wF im nrg nld nmt nps npl npw npr nss nso nsq nes neo neq ngs ngo ngq krg kld kmt kps kpl kpw kpr kss kso ksq kes keo keq kgs kgo kgq okn org osi oti ole oto oow oco ost owa owv owh olo ohi ora odi oqu skd sdp sfd sop str spr rsz rcl rsg rst mrg mkr mik msz gle gsu tat tfa cco cct cac caf cwe ms mkp mtx mso mmy mit gma gpi gst ghe gow gfa gqu glo ghi gby gib tto cfo cff ccl (tpU tp 0 ((tp 0).1, (tp 0).2.1, tp0i_j)) T), 0, 0) := by
    intro tp0i_j z0 z1 z2 z3 hf
    unfold T_put_j19 at hf
    obtain rfl := Option.some.inj hf
    refine stp hm 1 ?_
    exact h
  unfold T_put at hf
  refine stp hm 3 (T_hasPlace_ok hE rfl ?_)
  show sxWP sc cl Q 87 (5, [some (.ref 47), some (.int v1), some (.long v2), none], [.int (T_hasPlace v1 (tp 0).2.1)], (wF im nrg nld nmt nps npl npw npr nss nso nsq nes neo neq ngs ngo ngq krg kld kmt kps kpl kpw kpr kss kso ksq kes keo keq kgs kgo kgq okn org osi oti ole oto oow oco ost owa owv owh olo ohi ora odi oqu skd sdp sfd sop str spr rsz rcl rsg rst mrg mkr mik msz gle gsu tat tfa cco cct cac caf cwe ms mkp mtx mso mmy mit gma gpi gst ghe gow gfa gqu glo ghi gby gib tto cfo cff ccl tp T), 0, 0)
  refine stp hm 1 (br hf (fun c1 hf => ?_) (fun c1 hf => ?_))
  · show sxWP sc cl Q 87 (19, [some (.ref 47), some (.int v1), some (.long v2), none], [], (wF im nrg nld nmt nps npl npw npr nss nso nsq nes neo neq ngs ngo ngq krg kld kmt kps kpl kpw kpr kss kso ksq kes keo keq kgs kgo kgq okn org osi oti ole oto oow oco ost owa owv owh olo ohi ora odi oqu skd sdp sfd sop str spr rsz rcl rsg rst mrg mkr mik msz gle gsu tat tfa cco cct cac caf cwe ms mkp mtx mso mmy mit gma gpi gst ghe gow gfa gqu glo ghi gby gib tto cfo cff ccl tp T), 0, 0)
    exact J19 _ _ _ _ _ hf
  · show sxWP sc cl Q 87 (8, [some (.ref 47), some (.int v1), some (.long v2), none], [], (wF im nrg nld nmt nps npl npw npr nss nso nsq nes neo neq ngs ngo ngq krg kld kmt kps kpl kpw kpr kss kso ksq kes keo keq kgs kgo kgq okn org osi oti ole oto oow oco ost owa owv owh olo ohi ora odi oqu skd sdp sfd sop str spr rsz rcl rsg rst mrg mkr mik msz gle gsu tat tfa cco cct cac caf cwe ms mkp mtx mso mmy mit gma gpi gst ghe gow gfa gqu glo ghi gby gib tto cfo cff ccl tp T), 0, 0)
    refine stp hm 6 (T_narrowed_ok hE rfl ?_)
    show sxWP sc cl Q 87 (18, [some (.ref 47), some (.int v1), some (.long v2), none], [.long (T_narrowed v2 (tp 0).1), .int v1, .ref 48], (wF im nrg nld nmt nps npl npw npr nss nso nsq nes neo neq ngs ngo ngq krg kld kmt kps kpl kpw kpr kss kso ksq kes keo keq kgs kgo kgq okn org osi oti ole oto oow oco ost owa owv owh olo ohi ora odi oqu skd sdp sfd sop str spr rsz rcl rsg rst mrg mkr mik msz gle gsu tat tfa cco cct cac caf cwe ms mkp mtx mso mmy mit gma gpi gst ghe gow gfa gqu glo ghi gby gib tto cfo cff ccl tp T), 0, 0)
    obtain ⟨g2, hf⟩ := grd_e hf
    refine stp hm 1 (And.intro (gi_in g2) (?_ : sxWP sc cl Q 87 (19, [some (.ref 47), some (.int v1), some (.long v2), none], [], (wF im nrg nld nmt nps npl npw npr nss nso nsq nes neo neq ngs ngo ngq krg kld kmt kps kpl kpw kpr kss kso ksq kes keo keq kgs kgo kgq okn org osi oti ole oto oow oco ost owa owv owh olo ohi ora odi oqu skd sdp sfd sop str spr rsz rcl rsg rst mrg mkr mik msz gle gsu tat tfa cco cct cac caf cwe ms mkp mtx mso mmy mit gma gpi gst ghe gow gfa gqu glo ghi gby gib tto cfo cff ccl (tpU tp 0 ((tp 0).1, (tp 0).2.1, vp_updL (tp 0).2.2 v1.toNatClampNeg (T_narrowed v2 (tp 0).1))) T), 0, 0)))
    exact J19 _ _ _ _ _ hf
def X_item_2 (v1 : Int32) (v2 : Int32) (v3 : Int64) (tp0s : Int32) (tp0n : Int32) (tp0i : (Nat → Int64)) : Option (Int32 × (Nat → Int64)) := if (X_isTape v1) = (0:Int32) then (some ((-1:Int32), tp0i)) else (if tp0s = (-1:Int32) then (some ((-11:Int32), tp0i)) else (if (T_hasPlace v2 tp0n) = (0:Int32) then (some ((-13:Int32), tp0i)) else (Option.bind (T_put v2 v3 tp0s tp0n tp0i) (fun q4 => some ((1:Int32), q4)))))
set_option maxRecDepth 10000 in
theorem X_item_2_ok {v2 : Int32} {v3 : Int64} {q : (Int32 × (Nat → Int64))} (hc : call = sxE sc (d + 3)) (hf : X_item_2 (0:Int32) v2 v3 ((tp 0).1) ((tp 0).2.1) ((tp 0).2.2) = some q) (h : Q (some (.int q.1)) (wF im nrg nld nmt nps npl npw npr nss nso nsq nes neo neq ngs ngo ngq krg kld kmt kps kpl kpw kpr kss kso ksq kes keo keq kgs kgo kgq okn org osi oti ole oto oow oco ost owa owv owh olo ohi ora odi oqu skd sdp sfd sop str spr rsz rcl rsg rst mrg mkr mik msz gle gsu tat tfa cco cct cac caf cwe ms mkp mtx mso mmy mit gma gpi gst ghe gow gfa gqu glo ghi gby gib tto cfo cff ccl (tpU tp 0 ((tp 0).1, (tp 0).2.1, q.2)) T)) : call 132 [.ref 0, .int (0:Int32), .int v2, .long v3] (wF im nrg nld nmt nps npl npw npr nss nso nsq nes neo neq ngs ngo ngq krg kld kmt kps kpl kpw kpr kss kso ksq kes keo keq kgs kgo kgq okn org osi oti ole oto oow oco ost owa owv owh olo ohi ora odi oqu skd sdp sfd sop str spr rsz rcl rsg rst mrg mkr mik msz gle gsu tat tfa cco cct cac caf cwe ms mkp mtx mso mmy mit gma gpi gst ghe gow gfa gqu glo ghi gby gib tto cfo cff ccl tp T) Q := by
  refine ent hc rfl (fun cl hE hm => ?_)
  unfold X_item_2 at hf
  refine stp hm 2 (X_isTape_ok hE rfl ?_)
  show sxWP sc cl Q 132 (4, [some (.ref 0), some (.int (0:Int32)), some (.int v2), some (.long v3), none], [.int (X_isTape (0:Int32))], (wF im nrg nld nmt nps npl npw npr nss nso nsq nes neo neq ngs ngo ngq krg kld kmt kps kpl kpw kpr kss kso ksq kes keo keq kgs kgo kgq okn org osi oti ole oto oow oco ost owa owv owh olo ohi ora odi oqu skd sdp sfd sop str spr rsz rcl rsg rst mrg mkr mik msz gle gsu tat tfa cco cct cac caf cwe ms mkp mtx mso mmy mit gma gpi gst ghe gow gfa gqu glo ghi gby gib tto cfo cff ccl tp T), 0, 0)
  refine stp hm 1 (brn hf (fun c1 hf => ?_) (fun c1 hf => ?_))
  · show sxWP sc cl Q 132 (9, [some (.ref 0), some (.int (0:Int32)), some (.int v2), some (.long v3), none], [], (wF im nrg nld nmt nps npl npw npr nss nso nsq nes neo neq ngs ngo ngq krg kld kmt kps kpl kpw kpr kss kso ksq kes keo keq kgs kgo kgq okn org osi oti ole oto oow oco ost owa owv owh olo ohi ora odi oqu skd sdp sfd sop str spr rsz rcl rsg rst mrg mkr mik msz gle gsu tat tfa cco cct cac caf cwe ms mkp mtx mso mmy mit gma gpi gst ghe gow gfa gqu glo ghi gby gib tto cfo cff ccl tp T), 0, 0)
    refine stp hm 4 (And.intro (gi_in (by decide)) (?_ : sxWP sc cl Q 132 (15, [some (.ref 0), some (.int (0:Int32)), some (.int v2), some (.long v3), none], [.ref 47], (wF im nrg nld nmt nps npl npw npr nss nso nsq nes neo neq ngs ngo ngq krg kld kmt kps kpl kpw kpr kss kso ksq kes keo keq kgs kgo kgq okn org osi oti ole oto oow oco ost owa owv owh olo ohi ora odi oqu skd sdp sfd sop str spr rsz rcl rsg rst mrg mkr mik msz gle gsu tat tfa cco cct cac caf cwe ms mkp mtx mso mmy mit gma gpi gst ghe gow gfa gqu glo ghi gby gib tto cfo cff ccl tp T), 0, 0)))
    refine stp hm 3 (brn hf (fun c2 hf => ?_) (fun c2 hf => ?_))
    · show sxWP sc cl Q 132 (25, [some (.ref 0), some (.int (0:Int32)), some (.int v2), some (.long v3), none], [], (wF im nrg nld nmt nps npl npw npr nss nso nsq nes neo neq ngs ngo ngq krg kld kmt kps kpl kpw kpr kss kso ksq kes keo keq kgs kgo kgq okn org osi oti ole oto oow oco ost owa owv owh olo ohi ora odi oqu skd sdp sfd sop str spr rsz rcl rsg rst mrg mkr mik msz gle gsu tat tfa cco cct cac caf cwe ms mkp mtx mso mmy mit gma gpi gst ghe gow gfa gqu glo ghi gby gib tto cfo cff ccl tp T), 0, 0)
      refine stp hm 4 (And.intro (gi_in (by decide)) (?_ : sxWP sc cl Q 132 (31, [some (.ref 0), some (.int (0:Int32)), some (.int v2), some (.long v3), none], [.ref 47], (wF im nrg nld nmt nps npl npw npr nss nso nsq nes neo neq ngs ngo ngq krg kld kmt kps kpl kpw kpr kss kso ksq kes keo keq kgs kgo kgq okn org osi oti ole oto oow oco ost owa owv owh olo ohi ora odi oqu skd sdp sfd sop str spr rsz rcl rsg rst mrg mkr mik msz gle gsu tat tfa cco cct cac caf cwe ms mkp mtx mso mmy mit gma gpi gst ghe gow gfa gqu glo ghi gby gib tto cfo cff ccl tp T), 0, 0)))
      refine stp hm 2 (T_hasPlace_ok hE rfl ?_)
      show sxWP sc cl Q 132 (35, [some (.ref 0), some (.int (0:Int32)), some (.int v2), some (.long v3), none], [.int (T_hasPlace v2 (tp 0).2.1)], (wF im nrg nld nmt nps npl npw npr nss nso nsq nes neo neq ngs ngo ngq krg kld kmt kps kpl kpw kpr kss kso ksq kes keo keq kgs kgo kgq okn org osi oti ole oto oow oco ost owa owv owh olo ohi ora odi oqu skd sdp sfd sop str spr rsz rcl rsg rst mrg mkr mik msz gle gsu tat tfa cco cct cac caf cwe ms mkp mtx mso mmy mit gma gpi gst ghe gow gfa gqu glo ghi gby gib tto cfo cff ccl tp T), 0, 0)
      refine stp hm 1 (brn hf (fun c3 hf => ?_) (fun c3 hf => ?_))
      · show sxWP sc cl Q 132 (41, [some (.ref 0), some (.int (0:Int32)), some (.int v2), some (.long v3), none], [], (wF im nrg nld nmt nps npl npw npr nss nso nsq nes neo neq ngs ngo ngq krg kld kmt kps kpl kpw kpr kss kso ksq kes keo keq kgs kgo kgq okn org osi oti ole oto oow oco ost owa owv owh olo ohi ora odi oqu skd sdp sfd sop str spr rsz rcl rsg rst mrg mkr mik msz gle gsu tat tfa cco cct cac caf cwe ms mkp mtx mso mmy mit gma gpi gst ghe gow gfa gqu glo ghi gby gib tto cfo cff ccl tp T), 0, 0)
        refine stp hm 4 (And.intro (gi_in (by decide)) (?_ : sxWP sc cl Q 132 (47, [some (.ref 0), some (.int (0:Int32)), some (.int v2), some (.long v3), none], [.ref 47], (wF im nrg nld nmt nps npl npw npr nss nso nsq nes neo neq ngs ngo ngq krg kld kmt kps kpl kpw kpr kss kso ksq kes keo keq kgs kgo kgq okn org osi oti ole oto oow oco ost owa owv owh olo ohi ora odi oqu skd sdp sfd sop str spr rsz rcl rsg rst mrg mkr mik msz gle gsu tat tfa cco cct cac caf cwe ms mkp mtx mso mmy mit gma gpi gst ghe gow gfa gqu glo ghi gby gib tto cfo cff ccl tp T), 0, 0)))
        obtain ⟨q4, hq4, hf⟩ := bnd hf
        refine stp hm 3 (T_put_ok (q := q4) hE (by exact hq4) ?_)
        show sxWP sc cl Q 132 (52, [some (.ref 0), some (.int (0:Int32)), some (.int v2), some (.long v3), none], [], (wF im nrg nld nmt nps npl npw npr nss nso nsq nes neo neq ngs ngo ngq krg kld kmt kps kpl kpw kpr kss kso ksq kes keo keq kgs kgo kgq okn org osi oti ole oto oow oco ost owa owv owh olo ohi ora odi oqu skd sdp sfd sop str spr rsz rcl rsg rst mrg mkr mik msz gle gsu tat tfa cco cct cac caf cwe ms mkp mtx mso mmy mit gma gpi gst ghe gow gfa gqu glo ghi gby gib tto cfo cff ccl (tpU tp 0 ((tp 0).1, (tp 0).2.1, q4)) T), 0, 0)
        obtain rfl := Option.some.inj hf
        refine stp hm 2 ?_
        exact h
      · show sxWP sc cl Q 132 (38, [some (.ref 0), some (.int (0:Int32)), some (.int v2), some (.long v3), none], [], (wF im nrg nld nmt nps npl npw npr nss nso nsq nes neo neq ngs ngo ngq krg kld kmt kps kpl kpw kpr kss kso ksq kes keo keq kgs kgo kgq okn org osi oti ole oto oow oco ost owa owv owh olo ohi ora odi oqu skd sdp sfd sop str spr rsz rcl rsg rst mrg mkr mik msz gle gsu tat tfa cco cct cac caf cwe ms mkp mtx mso mmy mit gma gpi gst ghe gow gfa gqu glo ghi gby gib tto cfo cff ccl tp T), 0, 0)
        obtain rfl := Option.some.inj hf
        refine stp hm 2 ?_
        exact h
    · show sxWP sc cl Q 132 (22, [some (.ref 0), some (.int (0:Int32)), some (.int v2), some (.long v3), none], [], (wF im nrg nld nmt nps npl npw npr nss nso nsq nes neo neq ngs ngo ngq krg kld kmt kps kpl kpw kpr kss kso ksq kes keo keq kgs kgo kgq okn org osi oti ole oto oow oco ost owa owv owh olo ohi ora odi oqu skd sdp sfd sop str spr rsz rcl rsg rst mrg mkr mik msz gle gsu tat tfa cco cct cac caf cwe ms mkp mtx mso mmy mit gma gpi gst ghe gow gfa gqu glo ghi gby gib tto cfo cff ccl tp T), 0, 0)
      obtain rfl := Option.some.inj hf
      refine stp hm 2 ?_
      exact h
  · show sxWP sc cl Q 132 (7, [some (.ref 0), some (.int (0:Int32)), some (.int v2), some (.long v3), none], [], (wF im nrg nld nmt nps npl npw npr nss nso nsq nes neo neq ngs ngo ngq krg kld kmt kps kpl kpw kpr kss kso ksq kes keo keq kgs kgo kgq okn org osi oti ole oto oow oco ost owa owv owh olo ohi ora odi oqu skd sdp sfd sop str spr rsz rcl rsg rst mrg mkr mik msz gle gsu tat tfa cco cct cac caf cwe ms mkp mtx mso mmy mit gma gpi gst ghe gow gfa gqu glo ghi gby gib tto cfo cff ccl tp T), 0, 0)
    obtain rfl := Option.some.inj hf
    refine stp hm 2 ?_
    exact h
set_option maxRecDepth 10000 in
theorem T_narrowed_2_ok {v1 : Int64} {r : Int64} (hc : call = sxE sc (d + 1)) (hf : T_narrowed v1 ((tp 1).1) = r) (h : Q (some (.long r)) (wF im nrg nld nmt nps npl npw npr nss nso nsq nes neo neq ngs ngo ngq krg kld kmt kps kpl kpw kpr kss kso ksq kes keo keq kgs kgo kgq okn org osi oti ole oto oow oco ost owa owv owh olo ohi ora odi oqu skd sdp sfd sop str spr rsz rcl rsg rst mrg mkr mik msz gle gsu tat tfa cco cct cac caf cwe ms mkp mtx mso mmy mit gma gpi gst ghe gow gfa gqu glo ghi gby gib tto cfo cff ccl tp T)) : call 88 [.ref 49, .long v1] (wF im nrg nld nmt nps npl npw npr nss nso nsq nes neo neq ngs ngo ngq krg kld kmt kps kpl kpw kpr kss kso ksq kes keo keq kgs kgo kgq okn org osi oti ole oto oow oco ost owa owv owh olo ohi ora odi oqu skd sdp sfd sop str spr rsz rcl rsg rst mrg mkr mik msz gle gsu tat tfa cco cct cac caf cwe ms mkp mtx mso mmy mit gma gpi gst ghe gow gfa gqu glo ghi gby gib tto cfo cff ccl tp T) Q := by
  refine ent hc rfl (fun cl hE hm => ?_)
  have J66 : ∀ (v1 : Int64) (z0 : Option Value), T_narrowed_j66 v1 = r → sxWP sc cl Q 88 (66, [z0, some (.long v1), none], [], (wF im nrg nld nmt nps npl npw npr nss nso nsq nes neo neq ngs ngo ngq krg kld kmt kps kpl kpw kpr kss kso ksq kes keo keq kgs kgo kgq okn org osi oti ole oto oow oco ost owa owv owh olo ohi ora odi oqu skd sdp sfd sop str spr rsz rcl rsg rst mrg mkr mik msz gle gsu tat tfa cco cct cac caf cwe ms mkp mtx mso mmy mit gma gpi gst ghe gow gfa gqu glo ghi gby gib tto cfo cff ccl tp T), 0, 0) := by
    intro v1 z0 hf
    unfold T_narrowed_j66 at hf
    subst hf
    refine stp hm 2 ?_
    exact h
  unfold T_narrowed at hf
  refine stp hm 3 ?_
  show sxWP sc cl Q 88 ((swT ((tp 1).1).toInt (0) [40, 45, 50, 66, 54] 66), [some (.ref 49), some (.long v1), none], [], (wF im nrg nld nmt nps npl npw npr nss nso nsq nes neo neq ngs ngo ngq krg kld kmt kps kpl kpw kpr kss kso ksq kes keo keq kgs kgo kgq okn org osi oti ole oto oow oco ost owa owv owh olo ohi ora odi oqu skd sdp sfd sop str spr rsz rcl rsg rst mrg mkr mik msz gle gsu tat tfa cco cct cac caf cwe ms mkp mtx mso mmy mit gma gpi gst ghe gow gfa gqu glo ghi gby gib tto cfo cff ccl tp T), 0, 0)
  rcases ite_or hf with ⟨c1_0, hf⟩ | ⟨c1_0, hf⟩
  · rw [show swT ((tp 1).1).toInt (0) [40, 45, 50, 66, 54] 66 = 40 by rw [c1_0]; rfl]
    subst hf
    refine stp hm 5 ?_
    exact h
  rcases ite_or hf with ⟨c1_1, hf⟩ | ⟨c1_1, hf⟩
  · rw [show swT ((tp 1).1).toInt (0) [40, 45, 50, 66, 54] 66 = 45 by rw [c1_1]; rfl]
    subst hf
    refine stp hm 5 ?_
    exact h
  rcases ite_or hf with ⟨c1_2, hf⟩ | ⟨c1_2, hf⟩
  · rw [show swT ((tp 1).1).toInt (0) [40, 45, 50, 66, 54] 66 = 50 by rw [c1_2]; rfl]
    subst hf
    refine stp hm 4 ?_
    exact h
  rcases ite_or hf with ⟨c1_3, hf⟩ | ⟨c1_3, hf⟩
  · rw [show swT ((tp 1).1).toInt (0) [40, 45, 50, 66, 54] 66 = 66 by rw [c1_3]; rfl]
    exact J66 _ _ hf
  rcases ite_or hf with ⟨c1_4, hf⟩ | ⟨c1_4, hf⟩
  · rw [show swT ((tp 1).1).toInt (0) [40, 45, 50, 66, 54] 66 = 54 by rw [c1_4]; rfl]
    have m2 : ∀ (m2_0 : Int64), m2_0 = (if v1 = (0:Int64) then (0:Int64) else (1:Int64)) → sxWP sc cl Q 88 (65, [some (.ref 49), some (.long v1), none], [.long m2_0], (wF im nrg nld nmt nps npl npw npr nss nso nsq nes neo neq ngs ngo ngq krg kld kmt kps kpl kpw kpr kss kso ksq kes keo keq kgs kgo kgq okn org osi oti ole oto oow oco ost owa owv owh olo ohi ora odi oqu skd sdp sfd sop str spr rsz rcl rsg rst mrg mkr mik msz gle gsu tat tfa cco cct cac caf cwe ms mkp mtx mso mmy mit gma gpi gst ghe gow gfa gqu glo ghi gby gib tto cfo cff ccl tp T), 0, 0) := by
      intro m2_0 em2_0
      subst em2_0
      subst hf
      refine stp hm 1 ?_
      exact h
    refine stp hm 4 (bsI (lg_cmp_eq _ _) (fun c3 => ?_) (fun c3 => ?_))
    · have c3 : v1 = (0:Int64) := c3
      refine stp hm 1 (?_ : sxWP sc cl Q 88 (65, [some (.ref 49), some (.long v1), none], [.long (0:Int64)], (wF im nrg nld nmt nps npl npw npr nss nso nsq nes neo neq ngs ngo ngq krg kld kmt kps kpl kpw kpr kss kso ksq kes keo keq kgs kgo kgq okn org osi oti ole oto oow oco ost owa owv owh olo ohi ora odi oqu skd sdp sfd sop str spr rsz rcl rsg rst mrg mkr mik msz gle gsu tat tfa cco cct cac caf cwe ms mkp mtx mso mmy mit gma gpi gst ghe gow gfa gqu glo ghi gby gib tto cfo cff ccl tp T), 0, 0))
      exact m2 _ (by rw [if_pos c3])
    · have c3 : ¬ v1 = (0:Int64) := c3
      refine stp hm 2 (?_ : sxWP sc cl Q 88 (65, [some (.ref 49), some (.long v1), none], [.long (1:Int64)], (wF im nrg nld nmt nps npl npw npr nss nso nsq nes neo neq ngs ngo ngq krg kld kmt kps kpl kpw kpr kss kso ksq kes keo keq kgs kgo kgq okn org osi oti ole oto oow oco ost owa owv owh olo ohi ora odi oqu skd sdp sfd sop str spr rsz rcl rsg rst mrg mkr mik msz gle gsu tat tfa cco cct cac caf cwe ms mkp mtx mso mmy mit gma gpi gst ghe gow gfa gqu glo ghi gby gib tto cfo cff ccl tp T), 0, 0))
      exact m2 _ (by rw [if_neg c3])
  have tc1_0 : ¬ ((tp 1).1).toInt = 0 := fun e => c1_0 (Int32.toInt_inj.mp e)
  have tc1_1 : ¬ ((tp 1).1).toInt = 1 := fun e => c1_1 (Int32.toInt_inj.mp e)
  have tc1_2 : ¬ ((tp 1).1).toInt = 2 := fun e => c1_2 (Int32.toInt_inj.mp e)
  have tc1_3 : ¬ ((tp 1).1).toInt = 3 := fun e => c1_3 (Int32.toInt_inj.mp e)
  have tc1_4 : ¬ ((tp 1).1).toInt = 4 := fun e => c1_4 (Int32.toInt_inj.mp e)
  rw [show swT ((tp 1).1).toInt (0) [40, 45, 50, 66, 54] 66 = 66 by simp [swT, tc1_0, tc1_1, tc1_2, tc1_3, tc1_4]]
  exact J66 _ _ hf
set_option maxRecDepth 10000 in
theorem T_put_2_ok {v1 : Int32} {v2 : Int64} {q : (Nat → Int64)} (hc : call = sxE sc (d + 2)) (hf : T_put v1 v2 ((tp 1).1) ((tp 1).2.1) ((tp 1).2.2) = some q) (h : Q none (wF im nrg nld nmt nps npl npw npr nss nso nsq nes neo neq ngs ngo ngq krg kld kmt kps kpl kpw kpr kss kso ksq kes keo keq kgs kgo kgq okn org osi oti ole oto oow oco ost owa owv owh olo ohi ora odi oqu skd sdp sfd sop str spr rsz rcl rsg rst mrg mkr mik msz gle gsu tat tfa cco cct cac caf cwe ms mkp mtx mso mmy mit gma gpi gst ghe gow gfa gqu glo ghi gby gib tto cfo cff ccl (tpU tp 1 ((tp 1).1, (tp 1).2.1, q)) T)) : call 87 [.ref 49, .int v1, .long v2] (wF im nrg nld nmt nps npl npw npr nss nso nsq nes neo neq ngs ngo ngq krg kld kmt kps kpl kpw kpr kss kso ksq kes keo keq kgs kgo kgq okn org osi oti ole oto oow oco ost owa owv owh olo ohi ora odi oqu skd sdp sfd sop str spr rsz rcl rsg rst mrg mkr mik msz gle gsu tat tfa cco cct cac caf cwe ms mkp mtx mso mmy mit gma gpi gst ghe gow gfa gqu glo ghi gby gib tto cfo cff ccl tp T) Q := by
  refine ent hc rfl (fun cl hE hm => ?_)
  have J19 : ∀ (tp1i_j : (Nat → Int64)) (z0 : Option Value) (z1 : Option Value) (z2 : Option Value) (z3 : Option Value), T_put_j19 tp1i_j = some q → sxWP sc cl Q 87 (19, [z0, z1, z2, z3], [], (wF im nrg nld nmt nps npl npw npr nss nso nsq nes neo neq ngs ngo ngq krg kld kmt kps kpl kpw kpr kss kso ksq kes keo keq kgs kgo kgq okn org osi oti ole oto oow oco ost owa owv owh olo ohi ora odi oqu skd sdp sfd sop str spr rsz rcl rsg rst mrg mkr mik msz gle gsu tat tfa cco cct cac caf cwe ms mkp mtx mso mmy mit gma gpi gst ghe gow gfa gqu glo ghi gby gib tto cfo cff ccl (tpU tp 1 ((tp 1).1, (tp 1).2.1, tp1i_j)) T), 0, 0) := by
    intro tp1i_j z0 z1 z2 z3 hf
    unfold T_put_j19 at hf
    obtain rfl := Option.some.inj hf
    refine stp hm 1 ?_
    exact h
  unfold T_put at hf
  refine stp hm 3 (T_hasPlace_2_ok hE rfl ?_)
  show sxWP sc cl Q 87 (5, [some (.ref 49), some (.int v1), some (.long v2), none], [.int (T_hasPlace v1 (tp 1).2.1)], (wF im nrg nld nmt nps npl npw npr nss nso nsq nes neo neq ngs ngo ngq krg kld kmt kps kpl kpw kpr kss kso ksq kes keo keq kgs kgo kgq okn org osi oti ole oto oow oco ost owa owv owh olo ohi ora odi oqu skd sdp sfd sop str spr rsz rcl rsg rst mrg mkr mik msz gle gsu tat tfa cco cct cac caf cwe ms mkp mtx mso mmy mit gma gpi gst ghe gow gfa gqu glo ghi gby gib tto cfo cff ccl tp T), 0, 0)
  refine stp hm 1 (br hf (fun c1 hf => ?_) (fun c1 hf => ?_))
  · show sxWP sc cl Q 87 (19, [some (.ref 49), some (.int v1), some (.long v2), none], [], (wF im nrg nld nmt nps npl npw npr nss nso nsq nes neo neq ngs ngo ngq krg kld kmt kps kpl kpw kpr kss kso ksq kes keo keq kgs kgo kgq okn org osi oti ole oto oow oco ost owa owv owh olo ohi ora odi oqu skd sdp sfd sop str spr rsz rcl rsg rst mrg mkr mik msz gle gsu tat tfa cco cct cac caf cwe ms mkp mtx mso mmy mit gma gpi gst ghe gow gfa gqu glo ghi gby gib tto cfo cff ccl tp T), 0, 0)
    exact J19 _ _ _ _ _ hf
  · show sxWP sc cl Q 87 (8, [some (.ref 49), some (.int v1), some (.long v2), none], [], (wF im nrg nld nmt nps npl npw npr nss nso nsq nes neo neq ngs ngo ngq krg kld kmt kps kpl kpw kpr kss kso ksq kes keo keq kgs kgo kgq okn org osi oti ole oto oow oco ost owa owv owh olo ohi ora odi oqu skd sdp sfd sop str spr rsz rcl rsg rst mrg mkr mik msz gle gsu tat tfa cco cct cac caf cwe ms mkp mtx mso mmy mit gma gpi gst ghe gow gfa gqu glo ghi gby gib tto cfo cff ccl tp T), 0, 0)
    refine stp hm 6 (T_narrowed_2_ok hE rfl ?_)
    show sxWP sc cl Q 87 (18, [some (.ref 49), some (.int v1), some (.long v2), none], [.long (T_narrowed v2 (tp 1).1), .int v1, .ref 50], (wF im nrg nld nmt nps npl npw npr nss nso nsq nes neo neq ngs ngo ngq krg kld kmt kps kpl kpw kpr kss kso ksq kes keo keq kgs kgo kgq okn org osi oti ole oto oow oco ost owa owv owh olo ohi ora odi oqu skd sdp sfd sop str spr rsz rcl rsg rst mrg mkr mik msz gle gsu tat tfa cco cct cac caf cwe ms mkp mtx mso mmy mit gma gpi gst ghe gow gfa gqu glo ghi gby gib tto cfo cff ccl tp T), 0, 0)
    obtain ⟨g2, hf⟩ := grd_e hf
    refine stp hm 1 (And.intro (gi_in g2) (?_ : sxWP sc cl Q 87 (19, [some (.ref 49), some (.int v1), some (.long v2), none], [], (wF im nrg nld nmt nps npl npw npr nss nso nsq nes neo neq ngs ngo ngq krg kld kmt kps kpl kpw kpr kss kso ksq kes keo keq kgs kgo kgq okn org osi oti ole oto oow oco ost owa owv owh olo ohi ora odi oqu skd sdp sfd sop str spr rsz rcl rsg rst mrg mkr mik msz gle gsu tat tfa cco cct cac caf cwe ms mkp mtx mso mmy mit gma gpi gst ghe gow gfa gqu glo ghi gby gib tto cfo cff ccl (tpU tp 1 ((tp 1).1, (tp 1).2.1, vp_updL (tp 1).2.2 v1.toNatClampNeg (T_narrowed v2 (tp 1).1))) T), 0, 0)))
    exact J19 _ _ _ _ _ hf
set_option maxRecDepth 10000 in
theorem X_item_3_ok {v2 : Int32} {v3 : Int64} {q : (Int32 × (Nat → Int64))} (hc : call = sxE sc (d + 3)) (hf : X_item_2 (1:Int32) v2 v3 ((tp 1).1) ((tp 1).2.1) ((tp 1).2.2) = some q) (h : Q (some (.int q.1)) (wF im nrg nld nmt nps npl npw npr nss nso nsq nes neo neq ngs ngo ngq krg kld kmt kps kpl kpw kpr kss kso ksq kes keo keq kgs kgo kgq okn org osi oti ole oto oow oco ost owa owv owh olo ohi ora odi oqu skd sdp sfd sop str spr rsz rcl rsg rst mrg mkr mik msz gle gsu tat tfa cco cct cac caf cwe ms mkp mtx mso mmy mit gma gpi gst ghe gow gfa gqu glo ghi gby gib tto cfo cff ccl (tpU tp 1 ((tp 1).1, (tp 1).2.1, q.2)) T)) : call 132 [.ref 0, .int (1:Int32), .int v2, .long v3] (wF im nrg nld nmt nps npl npw npr nss nso nsq nes neo neq ngs ngo ngq krg kld kmt kps kpl kpw kpr kss kso ksq kes keo keq kgs kgo kgq okn org osi oti ole oto oow oco ost owa owv owh olo ohi ora odi oqu skd sdp sfd sop str spr rsz rcl rsg rst mrg mkr mik msz gle gsu tat tfa cco cct cac caf cwe ms mkp mtx mso mmy mit gma gpi gst ghe gow gfa gqu glo ghi gby gib tto cfo cff ccl tp T) Q := by
  refine ent hc rfl (fun cl hE hm => ?_)
  unfold X_item_2 at hf
  refine stp hm 2 (X_isTape_ok hE rfl ?_)
  show sxWP sc cl Q 132 (4, [some (.ref 0), some (.int (1:Int32)), some (.int v2), some (.long v3), none], [.int (X_isTape (1:Int32))], (wF im nrg nld nmt nps npl npw npr nss nso nsq nes neo neq ngs ngo ngq krg kld kmt kps kpl kpw kpr kss kso ksq kes keo keq kgs kgo kgq okn org osi oti ole oto oow oco ost owa owv owh olo ohi ora odi oqu skd sdp sfd sop str spr rsz rcl rsg rst mrg mkr mik msz gle gsu tat tfa cco cct cac caf cwe ms mkp mtx mso mmy mit gma gpi gst ghe gow gfa gqu glo ghi gby gib tto cfo cff ccl tp T), 0, 0)
  refine stp hm 1 (brn hf (fun c1 hf => ?_) (fun c1 hf => ?_))
  · show sxWP sc cl Q 132 (9, [some (.ref 0), some (.int (1:Int32)), some (.int v2), some (.long v3), none], [], (wF im nrg nld nmt nps npl npw npr nss nso nsq nes neo neq ngs ngo ngq krg kld kmt kps kpl kpw kpr kss kso ksq kes keo keq kgs kgo kgq okn org osi oti ole oto oow oco ost owa owv owh olo ohi ora odi oqu skd sdp sfd sop str spr rsz rcl rsg rst mrg mkr mik msz gle gsu tat tfa cco cct cac caf cwe ms mkp mtx mso mmy mit gma gpi gst ghe gow gfa gqu glo ghi gby gib tto cfo cff ccl tp T), 0, 0)
    refine stp hm 4 (And.intro (gi_in (by decide)) (?_ : sxWP sc cl Q 132 (15, [some (.ref 0), some (.int (1:Int32)), some (.int v2), some (.long v3), none], [.ref 49], (wF im nrg nld nmt nps npl npw npr nss nso nsq nes neo neq ngs ngo ngq krg kld kmt kps kpl kpw kpr kss kso ksq kes keo keq kgs kgo kgq okn org osi oti ole oto oow oco ost owa owv owh olo ohi ora odi oqu skd sdp sfd sop str spr rsz rcl rsg rst mrg mkr mik msz gle gsu tat tfa cco cct cac caf cwe ms mkp mtx mso mmy mit gma gpi gst ghe gow gfa gqu glo ghi gby gib tto cfo cff ccl tp T), 0, 0)))
    refine stp hm 3 (brn hf (fun c2 hf => ?_) (fun c2 hf => ?_))
    · show sxWP sc cl Q 132 (25, [some (.ref 0), some (.int (1:Int32)), some (.int v2), some (.long v3), none], [], (wF im nrg nld nmt nps npl npw npr nss nso nsq nes neo neq ngs ngo ngq krg kld kmt kps kpl kpw kpr kss kso ksq kes keo keq kgs kgo kgq okn org osi oti ole oto oow oco ost owa owv owh olo ohi ora odi oqu skd sdp sfd sop str spr rsz rcl rsg rst mrg mkr mik msz gle gsu tat tfa cco cct cac caf cwe ms mkp mtx mso mmy mit gma gpi gst ghe gow gfa gqu glo ghi gby gib tto cfo cff ccl tp T), 0, 0)
      refine stp hm 4 (And.intro (gi_in (by decide)) (?_ : sxWP sc cl Q 132 (31, [some (.ref 0), some (.int (1:Int32)), some (.int v2), some (.long v3), none], [.ref 49], (wF im nrg nld nmt nps npl npw npr nss nso nsq nes neo neq ngs ngo ngq krg kld kmt kps kpl kpw kpr kss kso ksq kes keo keq kgs kgo kgq okn org osi oti ole oto oow oco ost owa owv owh olo ohi ora odi oqu skd sdp sfd sop str spr rsz rcl rsg rst mrg mkr mik msz gle gsu tat tfa cco cct cac caf cwe ms mkp mtx mso mmy mit gma gpi gst ghe gow gfa gqu glo ghi gby gib tto cfo cff ccl tp T), 0, 0)))
      refine stp hm 2 (T_hasPlace_2_ok hE rfl ?_)
      show sxWP sc cl Q 132 (35, [some (.ref 0), some (.int (1:Int32)), some (.int v2), some (.long v3), none], [.int (T_hasPlace v2 (tp 1).2.1)], (wF im nrg nld nmt nps npl npw npr nss nso nsq nes neo neq ngs ngo ngq krg kld kmt kps kpl kpw kpr kss kso ksq kes keo keq kgs kgo kgq okn org osi oti ole oto oow oco ost owa owv owh olo ohi ora odi oqu skd sdp sfd sop str spr rsz rcl rsg rst mrg mkr mik msz gle gsu tat tfa cco cct cac caf cwe ms mkp mtx mso mmy mit gma gpi gst ghe gow gfa gqu glo ghi gby gib tto cfo cff ccl tp T), 0, 0)
      refine stp hm 1 (brn hf (fun c3 hf => ?_) (fun c3 hf => ?_))
      · show sxWP sc cl Q 132 (41, [some (.ref 0), some (.int (1:Int32)), some (.int v2), some (.long v3), none], [], (wF im nrg nld nmt nps npl npw npr nss nso nsq nes neo neq ngs ngo ngq krg kld kmt kps kpl kpw kpr kss kso ksq kes keo keq kgs kgo kgq okn org osi oti ole oto oow oco ost owa owv owh olo ohi ora odi oqu skd sdp sfd sop str spr rsz rcl rsg rst mrg mkr mik msz gle gsu tat tfa cco cct cac caf cwe ms mkp mtx mso mmy mit gma gpi gst ghe gow gfa gqu glo ghi gby gib tto cfo cff ccl tp T), 0, 0)
        refine stp hm 4 (And.intro (gi_in (by decide)) (?_ : sxWP sc cl Q 132 (47, [some (.ref 0), some (.int (1:Int32)), some (.int v2), some (.long v3), none], [.ref 49], (wF im nrg nld nmt nps npl npw npr nss nso nsq nes neo neq ngs ngo ngq krg kld kmt kps kpl kpw kpr kss kso ksq kes keo keq kgs kgo kgq okn org osi oti ole oto oow oco ost owa owv owh olo ohi ora odi oqu skd sdp sfd sop str spr rsz rcl rsg rst mrg mkr mik msz gle gsu tat tfa cco cct cac caf cwe ms mkp mtx mso mmy mit gma gpi gst ghe gow gfa gqu glo ghi gby gib tto cfo cff ccl tp T), 0, 0)))
        obtain ⟨q4, hq4, hf⟩ := bnd hf
        refine stp hm 3 (T_put_2_ok (q := q4) hE (by exact hq4) ?_)
        show sxWP sc cl Q 132 (52, [some (.ref 0), some (.int (1:Int32)), some (.int v2), some (.long v3), none], [], (wF im nrg nld nmt nps npl npw npr nss nso nsq nes neo neq ngs ngo ngq krg kld kmt kps kpl kpw kpr kss kso ksq kes keo keq kgs kgo kgq okn org osi oti ole oto oow oco ost owa owv owh olo ohi ora odi oqu skd sdp sfd sop str spr rsz rcl rsg rst mrg mkr mik msz gle gsu tat tfa cco cct cac caf cwe ms mkp mtx mso mmy mit gma gpi gst ghe gow gfa gqu glo ghi gby gib tto cfo cff ccl (tpU tp 1 ((tp 1).1, (tp 1).2.1, q4)) T), 0, 0)
        obtain rfl := Option.some.inj hf
        refine stp hm 2 ?_
        exact h
      · show sxWP sc cl Q 132 (38, [some (.ref 0), some (.int (1:Int32)), some (.int v2), some (.long v3), none], [], (wF im nrg nld nmt nps npl npw npr nss nso nsq nes neo neq ngs ngo ngq krg kld kmt kps kpl kpw kpr kss kso ksq kes keo keq kgs kgo kgq okn org osi oti ole oto oow oco ost owa owv owh olo ohi ora odi oqu skd sdp sfd sop str spr rsz rcl rsg rst mrg mkr mik msz gle gsu tat tfa cco cct cac caf cwe ms mkp mtx mso mmy mit gma gpi gst ghe gow gfa gqu glo ghi gby gib tto cfo cff ccl tp T), 0, 0)
        obtain rfl := Option.some.inj hf
        refine stp hm 2 ?_
        exact h
    · show sxWP sc cl Q 132 (22, [some (.ref 0), some (.int (1:Int32)), some (.int v2), some (.long v3), none], [], (wF im nrg nld nmt nps npl npw npr nss nso nsq nes neo neq ngs ngo ngq krg kld kmt kps kpl kpw kpr kss kso ksq kes keo keq kgs kgo kgq okn org osi oti ole oto oow oco ost owa owv owh olo ohi ora odi oqu skd sdp sfd sop str spr rsz rcl rsg rst mrg mkr mik msz gle gsu tat tfa cco cct cac caf cwe ms mkp mtx mso mmy mit gma gpi gst ghe gow gfa gqu glo ghi gby gib tto cfo cff ccl tp T), 0, 0)
      obtain rfl := Option.some.inj hf
      refine stp hm 2 ?_
      exact h
  · show sxWP sc cl Q 132 (7, [some (.ref 0), some (.int (1:Int32)), some (.int v2), some (.long v3), none], [], (wF im nrg nld nmt nps npl npw npr nss nso nsq nes neo neq ngs ngo ngq krg kld kmt kps kpl kpw kpr kss kso ksq kes keo keq kgs kgo kgq okn org osi oti ole oto oow oco ost owa owv owh olo ohi ora odi oqu skd sdp sfd sop str spr rsz rcl rsg rst mrg mkr mik msz gle gsu tat tfa cco cct cac caf cwe ms mkp mtx mso mmy mit gma gpi gst ghe gow gfa gqu glo ghi gby gib tto cfo cff ccl tp T), 0, 0)
    obtain rfl := Option.some.inj hf
    refine stp hm 2 ?_
    exact h
set_option maxRecDepth 10000 in
theorem T_narrowed_3_ok {v1 : Int64} {r : Int64} (hc : call = sxE sc (d + 1)) (hf : T_narrowed v1 ((tp 2).1) = r) (h : Q (some (.long r)) (wF im nrg nld nmt nps npl npw npr nss nso nsq nes neo neq ngs ngo ngq krg kld kmt kps kpl kpw kpr kss kso ksq kes keo keq kgs kgo kgq okn org osi oti ole oto oow oco ost owa owv owh olo ohi ora odi oqu skd sdp sfd sop str spr rsz rcl rsg rst mrg mkr mik msz gle gsu tat tfa cco cct cac caf cwe ms mkp mtx mso mmy mit gma gpi gst ghe gow gfa gqu glo ghi gby gib tto cfo cff ccl tp T)) : call 88 [.ref 51, .long v1] (wF im nrg nld nmt nps npl npw npr nss nso nsq nes neo neq ngs ngo ngq krg kld kmt kps kpl kpw kpr kss kso ksq kes keo keq kgs kgo kgq okn org osi oti ole oto oow oco ost owa owv owh olo ohi ora odi oqu skd sdp sfd sop str spr rsz rcl rsg rst mrg mkr mik msz gle gsu tat tfa cco cct cac caf cwe ms mkp mtx mso mmy mit gma gpi gst ghe gow gfa gqu glo ghi gby gib tto cfo cff ccl tp T) Q := by
  refine ent hc rfl (fun cl hE hm => ?_)
  have J66 : ∀ (v1 : Int64) (z0 : Option Value), T_narrowed_j66 v1 = r → sxWP sc cl Q 88 (66, [z0, some (.long v1), none], [], (wF im nrg nld nmt nps npl npw npr nss nso nsq nes neo neq ngs ngo ngq krg kld kmt kps kpl kpw kpr kss kso ksq kes keo keq kgs kgo kgq okn org osi oti ole oto oow oco ost owa owv owh olo ohi ora odi oqu skd sdp sfd sop str spr rsz rcl rsg rst mrg mkr mik msz gle gsu tat tfa cco cct cac caf cwe ms mkp mtx mso mmy mit gma gpi gst ghe gow gfa gqu glo ghi gby gib tto cfo cff ccl tp T), 0, 0) := by
    intro v1 z0 hf
    unfold T_narrowed_j66 at hf
    subst hf
    refine stp hm 2 ?_
    exact h
  unfold T_narrowed at hf
  refine stp hm 3 ?_
  show sxWP sc cl Q 88 ((swT ((tp 2).1).toInt (0) [40, 45, 50, 66, 54] 66), [some (.ref 51), some (.long v1), none], [], (wF im nrg nld nmt nps npl npw npr nss nso nsq nes neo neq ngs ngo ngq krg kld kmt kps kpl kpw kpr kss kso ksq kes keo keq kgs kgo kgq okn org osi oti ole oto oow oco ost owa owv owh olo ohi ora odi oqu skd sdp sfd sop str spr rsz rcl rsg rst mrg mkr mik msz gle gsu tat tfa cco cct cac caf cwe ms mkp mtx mso mmy mit gma gpi gst ghe gow gfa gqu glo ghi gby gib tto cfo cff ccl tp T), 0, 0)
  rcases ite_or hf with ⟨c1_0, hf⟩ | ⟨c1_0, hf⟩
  · rw [show swT ((tp 2).1).toInt (0) [40, 45, 50, 66, 54] 66 = 40 by rw [c1_0]; rfl]
    subst hf
    refine stp hm 5 ?_
    exact h
  rcases ite_or hf with ⟨c1_1, hf⟩ | ⟨c1_1, hf⟩
  · rw [show swT ((tp 2).1).toInt (0) [40, 45, 50, 66, 54] 66 = 45 by rw [c1_1]; rfl]
    subst hf
    refine stp hm 5 ?_
    exact h
  rcases ite_or hf with ⟨c1_2, hf⟩ | ⟨c1_2, hf⟩
  · rw [show swT ((tp 2).1).toInt (0) [40, 45, 50, 66, 54] 66 = 50 by rw [c1_2]; rfl]
    subst hf
    refine stp hm 4 ?_
    exact h
  rcases ite_or hf with ⟨c1_3, hf⟩ | ⟨c1_3, hf⟩
  · rw [show swT ((tp 2).1).toInt (0) [40, 45, 50, 66, 54] 66 = 66 by rw [c1_3]; rfl]
    exact J66 _ _ hf
  rcases ite_or hf with ⟨c1_4, hf⟩ | ⟨c1_4, hf⟩
  · rw [show swT ((tp 2).1).toInt (0) [40, 45, 50, 66, 54] 66 = 54 by rw [c1_4]; rfl]
    have m2 : ∀ (m2_0 : Int64), m2_0 = (if v1 = (0:Int64) then (0:Int64) else (1:Int64)) → sxWP sc cl Q 88 (65, [some (.ref 51), some (.long v1), none], [.long m2_0], (wF im nrg nld nmt nps npl npw npr nss nso nsq nes neo neq ngs ngo ngq krg kld kmt kps kpl kpw kpr kss kso ksq kes keo keq kgs kgo kgq okn org osi oti ole oto oow oco ost owa owv owh olo ohi ora odi oqu skd sdp sfd sop str spr rsz rcl rsg rst mrg mkr mik msz gle gsu tat tfa cco cct cac caf cwe ms mkp mtx mso mmy mit gma gpi gst ghe gow gfa gqu glo ghi gby gib tto cfo cff ccl tp T), 0, 0) := by
      intro m2_0 em2_0
      subst em2_0
      subst hf
      refine stp hm 1 ?_
      exact h
    refine stp hm 4 (bsI (lg_cmp_eq _ _) (fun c3 => ?_) (fun c3 => ?_))
    · have c3 : v1 = (0:Int64) := c3
      refine stp hm 1 (?_ : sxWP sc cl Q 88 (65, [some (.ref 51), some (.long v1), none], [.long (0:Int64)], (wF im nrg nld nmt nps npl npw npr nss nso nsq nes neo neq ngs ngo ngq krg kld kmt kps kpl kpw kpr kss kso ksq kes keo keq kgs kgo kgq okn org osi oti ole oto oow oco ost owa owv owh olo ohi ora odi oqu skd sdp sfd sop str spr rsz rcl rsg rst mrg mkr mik msz gle gsu tat tfa cco cct cac caf cwe ms mkp mtx mso mmy mit gma gpi gst ghe gow gfa gqu glo ghi gby gib tto cfo cff ccl tp T), 0, 0))
      exact m2 _ (by rw [if_pos c3])
    · have c3 : ¬ v1 = (0:Int64) := c3
      refine stp hm 2 (?_ : sxWP sc cl Q 88 (65, [some (.ref 51), some (.long v1), none], [.long (1:Int64)], (wF im nrg nld nmt nps npl npw npr nss nso nsq nes neo neq ngs ngo ngq krg kld kmt kps kpl kpw kpr kss kso ksq kes keo keq kgs kgo kgq okn org osi oti ole oto oow oco ost owa owv owh olo ohi ora odi oqu skd sdp sfd sop str spr rsz rcl rsg rst mrg mkr mik msz gle gsu tat tfa cco cct cac caf cwe ms mkp mtx mso mmy mit gma gpi gst ghe gow gfa gqu glo ghi gby gib tto cfo cff ccl tp T), 0, 0))
      exact m2 _ (by rw [if_neg c3])
  have tc1_0 : ¬ ((tp 2).1).toInt = 0 := fun e => c1_0 (Int32.toInt_inj.mp e)
  have tc1_1 : ¬ ((tp 2).1).toInt = 1 := fun e => c1_1 (Int32.toInt_inj.mp e)
  have tc1_2 : ¬ ((tp 2).1).toInt = 2 := fun e => c1_2 (Int32.toInt_inj.mp e)
  have tc1_3 : ¬ ((tp 2).1).toInt = 3 := fun e => c1_3 (Int32.toInt_inj.mp e)
  have tc1_4 : ¬ ((tp 2).1).toInt = 4 := fun e => c1_4 (Int32.toInt_inj.mp e)
  rw [show swT ((tp 2).1).toInt (0) [40, 45, 50, 66, 54] 66 = 66 by simp [swT, tc1_0, tc1_1, tc1_2, tc1_3, tc1_4]]
  exact J66 _ _ hf
set_option maxRecDepth 10000 in
theorem T_put_3_ok {v1 : Int32} {v2 : Int64} {q : (Nat → Int64)} (hc : call = sxE sc (d + 2)) (hf : T_put v1 v2 ((tp 2).1) ((tp 2).2.1) ((tp 2).2.2) = some q) (h : Q none (wF im nrg nld nmt nps npl npw npr nss nso nsq nes neo neq ngs ngo ngq krg kld kmt kps kpl kpw kpr kss kso ksq kes keo keq kgs kgo kgq okn org osi oti ole oto oow oco ost owa owv owh olo ohi ora odi oqu skd sdp sfd sop str spr rsz rcl rsg rst mrg mkr mik msz gle gsu tat tfa cco cct cac caf cwe ms mkp mtx mso mmy mit gma gpi gst ghe gow gfa gqu glo ghi gby gib tto cfo cff ccl (tpU tp 2 ((tp 2).1, (tp 2).2.1, q)) T)) : call 87 [.ref 51, .int v1, .long v2] (wF im nrg nld nmt nps npl npw npr nss nso nsq nes neo neq ngs ngo ngq krg kld kmt kps kpl kpw kpr kss kso ksq kes keo keq kgs kgo kgq okn org osi oti ole oto oow oco ost owa owv owh olo ohi ora odi oqu skd sdp sfd sop str spr rsz rcl rsg rst mrg mkr mik msz gle gsu tat tfa cco cct cac caf cwe ms mkp mtx mso mmy mit gma gpi gst ghe gow gfa gqu glo ghi gby gib tto cfo cff ccl tp T) Q := by
  refine ent hc rfl (fun cl hE hm => ?_)
  have J19 : ∀ (tp2i_j : (Nat → Int64)) (z0 : Option Value) (z1 : Option Value) (z2 : Option Value) (z3 : Option Value), T_put_j19 tp2i_j = some q → sxWP sc cl Q 87 (19, [z0, z1, z2, z3], [], (wF im nrg nld nmt nps npl npw npr nss nso nsq nes neo neq ngs ngo ngq krg kld kmt kps kpl kpw kpr kss kso ksq kes keo keq kgs kgo kgq okn org osi oti ole oto oow oco ost owa owv owh olo ohi ora odi oqu skd sdp sfd sop str spr rsz rcl rsg rst mrg mkr mik msz gle gsu tat tfa cco cct cac caf cwe ms mkp mtx mso mmy mit gma gpi gst ghe gow gfa gqu glo ghi gby gib tto cfo cff ccl (tpU tp 2 ((tp 2).1, (tp 2).2.1, tp2i_j)) T), 0, 0) := by
    intro tp2i_j z0 z1 z2 z3 hf
    unfold T_put_j19 at hf
    obtain rfl := Option.some.inj hf
    refine stp hm 1 ?_
    exact h
  unfold T_put at hf
  refine stp hm 3 (T_hasPlace_3_ok hE rfl ?_)
  show sxWP sc cl Q 87 (5, [some (.ref 51), some (.int v1), some (.long v2), none], [.int (T_hasPlace v1 (tp 2).2.1)], (wF im nrg nld nmt nps npl npw npr nss nso nsq nes neo neq ngs ngo ngq krg kld kmt kps kpl kpw kpr kss kso ksq kes keo keq kgs kgo kgq okn org osi oti ole oto oow oco ost owa owv owh olo ohi ora odi oqu skd sdp sfd sop str spr rsz rcl rsg rst mrg mkr mik msz gle gsu tat tfa cco cct cac caf cwe ms mkp mtx mso mmy mit gma gpi gst ghe gow gfa gqu glo ghi gby gib tto cfo cff ccl tp T), 0, 0)
  refine stp hm 1 (br hf (fun c1 hf => ?_) (fun c1 hf => ?_))
  · show sxWP sc cl Q 87 (19, [some (.ref 51), some (.int v1), some (.long v2), none], [], (wF im nrg nld nmt nps npl npw npr nss nso nsq nes neo neq ngs ngo ngq krg kld kmt kps kpl kpw kpr kss kso ksq kes keo keq kgs kgo kgq okn org osi oti ole oto oow oco ost owa owv owh olo ohi ora odi oqu skd sdp sfd sop str spr rsz rcl rsg rst mrg mkr mik msz gle gsu tat tfa cco cct cac caf cwe ms mkp mtx mso mmy mit gma gpi gst ghe gow gfa gqu glo ghi gby gib tto cfo cff ccl tp T), 0, 0)
    exact J19 _ _ _ _ _ hf
  · show sxWP sc cl Q 87 (8, [some (.ref 51), some (.int v1), some (.long v2), none], [], (wF im nrg nld nmt nps npl npw npr nss nso nsq nes neo neq ngs ngo ngq krg kld kmt kps kpl kpw kpr kss kso ksq kes keo keq kgs kgo kgq okn org osi oti ole oto oow oco ost owa owv owh olo ohi ora odi oqu skd sdp sfd sop str spr rsz rcl rsg rst mrg mkr mik msz gle gsu tat tfa cco cct cac caf cwe ms mkp mtx mso mmy mit gma gpi gst ghe gow gfa gqu glo ghi gby gib tto cfo cff ccl tp T), 0, 0)
    refine stp hm 6 (T_narrowed_3_ok hE rfl ?_)
    show sxWP sc cl Q 87 (18, [some (.ref 51), some (.int v1), some (.long v2), none], [.long (T_narrowed v2 (tp 2).1), .int v1, .ref 52], (wF im nrg nld nmt nps npl npw npr nss nso nsq nes neo neq ngs ngo ngq krg kld kmt kps kpl kpw kpr kss kso ksq kes keo keq kgs kgo kgq okn org osi oti ole oto oow oco ost owa owv owh olo ohi ora odi oqu skd sdp sfd sop str spr rsz rcl rsg rst mrg mkr mik msz gle gsu tat tfa cco cct cac caf cwe ms mkp mtx mso mmy mit gma gpi gst ghe gow gfa gqu glo ghi gby gib tto cfo cff ccl tp T), 0, 0)
    obtain ⟨g2, hf⟩ := grd_e hf
    refine stp hm 1 (And.intro (gi_in g2) (?_ : sxWP sc cl Q 87 (19, [some (.ref 51), some (.int v1), some (.long v2), none], [], (wF im nrg nld nmt nps npl npw npr nss nso nsq nes neo neq ngs ngo ngq krg kld kmt kps kpl kpw kpr kss kso ksq kes keo keq kgs kgo kgq okn org osi oti ole oto oow oco ost owa owv owh olo ohi ora odi oqu skd sdp sfd sop str spr rsz rcl rsg rst mrg mkr mik msz gle gsu tat tfa cco cct cac caf cwe ms mkp mtx mso mmy mit gma gpi gst ghe gow gfa gqu glo ghi gby gib tto cfo cff ccl (tpU tp 2 ((tp 2).1, (tp 2).2.1, vp_updL (tp 2).2.2 v1.toNatClampNeg (T_narrowed v2 (tp 2).1))) T), 0, 0)))
    exact J19 _ _ _ _ _ hf
set_option maxRecDepth 10000 in
theorem X_item_4_ok {v2 : Int32} {v3 : Int64} {q : (Int32 × (Nat → Int64))} (hc : call = sxE sc (d + 3)) (hf : X_item_2 (2:Int32) v2 v3 ((tp 2).1) ((tp 2).2.1) ((tp 2).2.2) = some q) (h : Q (some (.int q.1)) (wF im nrg nld nmt nps npl npw npr nss nso nsq nes neo neq ngs ngo ngq krg kld kmt kps kpl kpw kpr kss kso ksq kes keo keq kgs kgo kgq okn org osi oti ole oto oow oco ost owa owv owh olo ohi ora odi oqu skd sdp sfd sop str spr rsz rcl rsg rst mrg mkr mik msz gle gsu tat tfa cco cct cac caf cwe ms mkp mtx mso mmy mit gma gpi gst ghe gow gfa gqu glo ghi gby gib tto cfo cff ccl (tpU tp 2 ((tp 2).1, (tp 2).2.1, q.2)) T)) : call 132 [.ref 0, .int (2:Int32), .int v2, .long v3] (wF im nrg nld nmt nps npl npw npr nss nso nsq nes neo neq ngs ngo ngq krg kld kmt kps kpl kpw kpr kss kso ksq kes keo keq kgs kgo kgq okn org osi oti ole oto oow oco ost owa owv owh olo ohi ora odi oqu skd sdp sfd sop str spr rsz rcl rsg rst mrg mkr mik msz gle gsu tat tfa cco cct cac caf cwe ms mkp mtx mso mmy mit gma gpi gst ghe gow gfa gqu glo ghi gby gib tto cfo cff ccl tp T) Q := by
  refine ent hc rfl (fun cl hE hm => ?_)
  unfold X_item_2 at hf
  refine stp hm 2 (X_isTape_ok hE rfl ?_)
  show sxWP sc cl Q 132 (4, [some (.ref 0), some (.int (2:Int32)), some (.int v2), some (.long v3), none], [.int (X_isTape (2:Int32))], (wF im nrg nld nmt nps npl npw npr nss nso nsq nes neo neq ngs ngo ngq krg kld kmt kps kpl kpw kpr kss kso ksq kes keo keq kgs kgo kgq okn org osi oti ole oto oow oco ost owa owv owh olo ohi ora odi oqu skd sdp sfd sop str spr rsz rcl rsg rst mrg mkr mik msz gle gsu tat tfa cco cct cac caf cwe ms mkp mtx mso mmy mit gma gpi gst ghe gow gfa gqu glo ghi gby gib tto cfo cff ccl tp T), 0, 0)
  refine stp hm 1 (brn hf (fun c1 hf => ?_) (fun c1 hf => ?_))
  · show sxWP sc cl Q 132 (9, [some (.ref 0), some (.int (2:Int32)), some (.int v2), some (.long v3), none], [], (wF im nrg nld nmt nps npl npw npr nss nso nsq nes neo neq ngs ngo ngq krg kld kmt kps kpl kpw kpr kss kso ksq kes keo keq kgs kgo kgq okn org osi oti ole oto oow oco ost owa owv owh olo ohi ora odi oqu skd sdp sfd sop str spr rsz rcl rsg rst mrg mkr mik msz gle gsu tat tfa cco cct cac caf cwe ms mkp mtx mso mmy mit gma gpi gst ghe gow gfa gqu glo ghi gby gib tto cfo cff ccl tp T), 0, 0)
    refine stp hm 4 (And.intro (gi_in (by decide)) (?_ : sxWP sc cl Q 132 (15, [some (.ref 0), some (.int (2:Int32)), some (.int v2), some (.long v3), none], [.ref 51], (wF im nrg nld nmt nps npl npw npr nss nso nsq nes neo neq ngs ngo ngq krg kld kmt kps kpl kpw kpr kss kso ksq kes keo keq kgs kgo kgq okn org osi oti ole oto oow oco ost owa owv owh olo ohi ora odi oqu skd sdp sfd sop str spr rsz rcl rsg rst mrg mkr mik msz gle gsu tat tfa cco cct cac caf cwe ms mkp mtx mso mmy mit gma gpi gst ghe gow gfa gqu glo ghi gby gib tto cfo cff ccl tp T), 0, 0)))
    refine stp hm 3 (brn hf (fun c2 hf => ?_) (fun c2 hf => ?_))
    · show sxWP sc cl Q 132 (25, [some (.ref 0), some (.int (2:Int32)), some (.int v2), some (.long v3), none], [], (wF im nrg nld nmt nps npl npw npr nss nso nsq nes neo neq ngs ngo ngq krg kld kmt kps kpl kpw kpr kss kso ksq kes keo keq kgs kgo kgq okn org osi oti ole oto oow oco ost owa owv owh olo ohi ora odi oqu skd sdp sfd sop str spr rsz rcl rsg rst mrg mkr mik msz gle gsu tat tfa cco cct cac caf cwe ms mkp mtx mso mmy mit gma gpi gst ghe gow gfa gqu glo ghi gby gib tto cfo cff ccl tp T), 0, 0)
      refine stp hm 4 (And.intro (gi_in (by decide)) (?_ : sxWP sc cl Q 132 (31, [some (.ref 0), some (.int (2:Int32)), some (.int v2), some (.long v3), none], [.ref 51], (wF im nrg nld nmt nps npl npw npr nss nso nsq nes neo neq ngs ngo ngq krg kld kmt kps kpl kpw kpr kss kso ksq kes keo keq kgs kgo kgq okn org osi oti ole oto oow oco ost owa owv owh olo ohi ora odi oqu skd sdp sfd sop str spr rsz rcl rsg rst mrg mkr mik msz gle gsu tat tfa cco cct cac caf cwe ms mkp mtx mso mmy mit gma gpi gst ghe gow gfa gqu glo ghi gby gib tto cfo cff ccl tp T), 0, 0)))
      refine stp hm 2 (T_hasPlace_3_ok hE rfl ?_)
      show sxWP sc cl Q 132 (35, [some (.ref 0), some (.int (2:Int32)), some (.int v2), some (.long v3), none], [.int (T_hasPlace v2 (tp 2).2.1)], (wF im nrg nld nmt nps npl npw npr nss nso nsq nes neo neq ngs ngo ngq krg kld kmt kps kpl kpw kpr kss kso ksq kes keo keq kgs kgo kgq okn org osi oti ole oto oow oco ost owa owv owh olo ohi ora odi oqu skd sdp sfd sop str spr rsz rcl rsg rst mrg mkr mik msz gle gsu tat tfa cco cct cac caf cwe ms mkp mtx mso mmy mit gma gpi gst ghe gow gfa gqu glo ghi gby gib tto cfo cff ccl tp T), 0, 0)
      refine stp hm 1 (brn hf (fun c3 hf => ?_) (fun c3 hf => ?_))
      · show sxWP sc cl Q 132 (41, [some (.ref 0), some (.int (2:Int32)), some (.int v2), some (.long v3), none], [], (wF im nrg nld nmt nps npl npw npr nss nso nsq nes neo neq ngs ngo ngq krg kld kmt kps kpl kpw kpr kss kso ksq kes keo keq kgs kgo kgq okn org osi oti ole oto oow oco ost owa owv owh olo ohi ora odi oqu skd sdp sfd sop str spr rsz rcl rsg rst mrg mkr mik msz gle gsu tat tfa cco cct cac caf cwe ms mkp mtx mso mmy mit gma gpi gst ghe gow gfa gqu glo ghi gby gib tto cfo cff ccl tp T), 0, 0)
        refine stp hm 4 (And.intro (gi_in (by decide)) (?_ : sxWP sc cl Q 132 (47, [some (.ref 0), some (.int (2:Int32)), some (.int v2), some (.long v3), none], [.ref 51], (wF im nrg nld nmt nps npl npw npr nss nso nsq nes neo neq ngs ngo ngq krg kld kmt kps kpl kpw kpr kss kso ksq kes keo keq kgs kgo kgq okn org osi oti ole oto oow oco ost owa owv owh olo ohi ora odi oqu skd sdp sfd sop str spr rsz rcl rsg rst mrg mkr mik msz gle gsu tat tfa cco cct cac caf cwe ms mkp mtx mso mmy mit gma gpi gst ghe gow gfa gqu glo ghi gby gib tto cfo cff ccl tp T), 0, 0)))
        obtain ⟨q4, hq4, hf⟩ := bnd hf
        refine stp hm 3 (T_put_3_ok (q := q4) hE (by exact hq4) ?_)
        show sxWP sc cl Q 132 (52, [some (.ref 0), some (.int (2:Int32)), some (.int v2), some (.long v3), none], [], (wF im nrg nld nmt nps npl npw npr nss nso nsq nes neo neq ngs ngo ngq krg kld kmt kps kpl kpw kpr kss kso ksq kes keo keq kgs kgo kgq okn org osi oti ole oto oow oco ost owa owv owh olo ohi ora odi oqu skd sdp sfd sop str spr rsz rcl rsg rst mrg mkr mik msz gle gsu tat tfa cco cct cac caf cwe ms mkp mtx mso mmy mit gma gpi gst ghe gow gfa gqu glo ghi gby gib tto cfo cff ccl (tpU tp 2 ((tp 2).1, (tp 2).2.1, q4)) T), 0, 0)
        obtain rfl := Option.some.inj hf
        refine stp hm 2 ?_
        exact h
      · show sxWP sc cl Q 132 (38, [some (.ref 0), some (.int (2:Int32)), some (.int v2), some (.long v3), none], [], (wF im nrg nld nmt nps npl npw npr nss nso nsq nes neo neq ngs ngo ngq krg kld kmt kps kpl kpw kpr kss kso ksq kes keo keq kgs kgo kgq okn org osi oti ole oto oow oco ost owa owv owh olo ohi ora odi oqu skd sdp sfd sop str spr rsz rcl rsg rst mrg mkr mik msz gle gsu tat tfa cco cct cac caf cwe ms mkp mtx mso mmy mit gma gpi gst ghe gow gfa gqu glo ghi gby gib tto cfo cff ccl tp T), 0, 0)
        obtain rfl := Option.some.inj hf
        refine stp hm 2 ?_
        exact h
    · show sxWP sc cl Q 132 (22, [some (.ref 0), some (.int (2:Int32)), some (.int v2), some (.long v3), none], [], (wF im nrg nld nmt nps npl npw npr nss nso nsq nes neo neq ngs ngo ngq krg kld kmt kps kpl kpw kpr kss kso ksq kes keo keq kgs kgo kgq okn org osi oti ole oto oow oco ost owa owv owh olo ohi ora odi oqu skd sdp sfd sop str spr rsz rcl rsg rst mrg mkr mik msz gle gsu tat tfa cco cct cac caf cwe ms mkp mtx mso mmy mit gma gpi gst ghe gow gfa gqu glo ghi gby gib tto cfo cff ccl tp T), 0, 0)
      obtain rfl := Option.some.inj hf
      refine stp hm 2 ?_
      exact h
  · show sxWP sc cl Q 132 (7, [some (.ref 0), some (.int (2:Int32)), some (.int v2), some (.long v3), none], [], (wF im nrg nld nmt nps npl npw npr nss nso nsq nes neo neq ngs ngo ngq krg kld kmt kps kpl kpw kpr kss kso ksq kes keo keq kgs kgo kgq okn org osi oti ole oto oow oco ost owa owv owh olo ohi ora odi oqu skd sdp sfd sop str spr rsz rcl rsg rst mrg mkr mik msz gle gsu tat tfa cco cct cac caf cwe ms mkp mtx mso mmy mit gma gpi gst ghe gow gfa gqu glo ghi gby gib tto cfo cff ccl tp T), 0, 0)
    obtain rfl := Option.some.inj hf
    refine stp hm 2 ?_
    exact h
set_option maxRecDepth 10000 in
theorem T_narrowed_4_ok {v1 : Int64} {r : Int64} (hc : call = sxE sc (d + 1)) (hf : T_narrowed v1 ((tp 3).1) = r) (h : Q (some (.long r)) (wF im nrg nld nmt nps npl npw npr nss nso nsq nes neo neq ngs ngo ngq krg kld kmt kps kpl kpw kpr kss kso ksq kes keo keq kgs kgo kgq okn org osi oti ole oto oow oco ost owa owv owh olo ohi ora odi oqu skd sdp sfd sop str spr rsz rcl rsg rst mrg mkr mik msz gle gsu tat tfa cco cct cac caf cwe ms mkp mtx mso mmy mit gma gpi gst ghe gow gfa gqu glo ghi gby gib tto cfo cff ccl tp T)) : call 88 [.ref 53, .long v1] (wF im nrg nld nmt nps npl npw npr nss nso nsq nes neo neq ngs ngo ngq krg kld kmt kps kpl kpw kpr kss kso ksq kes keo keq kgs kgo kgq okn org osi oti ole oto oow oco ost owa owv owh olo ohi ora odi oqu skd sdp sfd sop str spr rsz rcl rsg rst mrg mkr mik msz gle gsu tat tfa cco cct cac caf cwe ms mkp mtx mso mmy mit gma gpi gst ghe gow gfa gqu glo ghi gby gib tto cfo cff ccl tp T) Q := by
  refine ent hc rfl (fun cl hE hm => ?_)
  have J66 : ∀ (v1 : Int64) (z0 : Option Value), T_narrowed_j66 v1 = r → sxWP sc cl Q 88 (66, [z0, some (.long v1), none], [], (wF im nrg nld nmt nps npl npw npr nss nso nsq nes neo neq ngs ngo ngq krg kld kmt kps kpl kpw kpr kss kso ksq kes keo keq kgs kgo kgq okn org osi oti ole oto oow oco ost owa owv owh olo ohi ora odi oqu skd sdp sfd sop str spr rsz rcl rsg rst mrg mkr mik msz gle gsu tat tfa cco cct cac caf cwe ms mkp mtx mso mmy mit gma gpi gst ghe gow gfa gqu glo ghi gby gib tto cfo cff ccl tp T), 0, 0) := by
    intro v1 z0 hf
    unfold T_narrowed_j66 at hf
    subst hf
    refine stp hm 2 ?_
    exact h
  unfold T_narrowed at hf
  refine stp hm 3 ?_
  show sxWP sc cl Q 88 ((swT ((tp 3).1).toInt (0) [40, 45, 50, 66, 54] 66), [some (.ref 53), some (.long v1), none], [], (wF im nrg nld nmt nps npl npw npr nss nso nsq nes neo neq ngs ngo ngq krg kld kmt kps kpl kpw kpr kss kso ksq kes keo keq kgs kgo kgq okn org osi oti ole oto oow oco ost owa owv owh olo ohi ora odi oqu skd sdp sfd sop str spr rsz rcl rsg rst mrg mkr mik msz gle gsu tat tfa cco cct cac caf cwe ms mkp mtx mso mmy mit gma gpi gst ghe gow gfa gqu glo ghi gby gib tto cfo cff ccl tp T), 0, 0)
  rcases ite_or hf with ⟨c1_0, hf⟩ | ⟨c1_0, hf⟩
  · rw [show swT ((tp 3).1).toInt (0) [40, 45, 50, 66, 54] 66 = 40 by rw [c1_0]; rfl]
    subst hf
    refine stp hm 5 ?_
    exact h
  rcases ite_or hf with ⟨c1_1, hf⟩ | ⟨c1_1, hf⟩
  · rw [show swT ((tp 3).1).toInt (0) [40, 45, 50, 66, 54] 66 = 45 by rw [c1_1]; rfl]
    subst hf
    refine stp hm 5 ?_
    exact h
  rcases ite_or hf with ⟨c1_2, hf⟩ | ⟨c1_2, hf⟩
  · rw [show swT ((tp 3).1).toInt (0) [40, 45, 50, 66, 54] 66 = 50 by rw [c1_2]; rfl]
    subst hf
    refine stp hm 4 ?_
    exact h
  rcases ite_or hf with ⟨c1_3, hf⟩ | ⟨c1_3, hf⟩
  · rw [show swT ((tp 3).1).toInt (0) [40, 45, 50, 66, 54] 66 = 66 by rw [c1_3]; rfl]
    exact J66 _ _ hf
  rcases ite_or hf with ⟨c1_4, hf⟩ | ⟨c1_4, hf⟩
  · rw [show swT ((tp 3).1).toInt (0) [40, 45, 50, 66, 54] 66 = 54 by rw [c1_4]; rfl]
    have m2 : ∀ (m2_0 : Int64), m2_0 = (if v1 = (0:Int64) then (0:Int64) else (1:Int64)) → sxWP sc cl Q 88 (65, [some (.ref 53), some (.long v1), none], [.long m2_0], (wF im nrg nld nmt nps npl npw npr nss nso nsq nes neo neq ngs ngo ngq krg kld kmt kps kpl kpw kpr kss kso ksq kes keo keq kgs kgo kgq okn org osi oti ole oto oow oco ost owa owv owh olo ohi ora odi oqu skd sdp sfd sop str spr rsz rcl rsg rst mrg mkr mik msz gle gsu tat tfa cco cct cac caf cwe ms mkp mtx mso mmy mit gma gpi gst ghe gow gfa gqu glo ghi gby gib tto cfo cff ccl tp T), 0, 0) := by
      intro m2_0 em2_0
      subst em2_0
      subst hf
      refine stp hm 1 ?_
      exact h
    refine stp hm 4 (bsI (lg_cmp_eq _ _) (fun c3 => ?_) (fun c3 => ?_))
    · have c3 : v1 = (0:Int64) := c3
      refine stp hm 1 (?_ : sxWP sc cl Q 88 (65, [some (.ref 53), some (.long v1), none], [.long (0:Int64)], (wF im nrg nld nmt nps npl npw npr nss nso nsq nes neo neq ngs ngo ngq krg kld kmt kps kpl kpw kpr kss kso ksq kes keo keq kgs kgo kgq okn org osi oti ole oto oow oco ost owa owv owh olo ohi ora odi oqu skd sdp sfd sop str spr rsz rcl rsg rst mrg mkr mik msz gle gsu tat tfa cco cct cac caf cwe ms mkp mtx mso mmy mit gma gpi gst ghe gow gfa gqu glo ghi gby gib tto cfo cff ccl tp T), 0, 0))
      exact m2 _ (by rw [if_pos c3])
    · have c3 : ¬ v1 = (0:Int64) := c3
      refine stp hm 2 (?_ : sxWP sc cl Q 88 (65, [some (.ref 53), some (.long v1), none], [.long (1:Int64)], (wF im nrg nld nmt nps npl npw npr nss nso nsq nes neo neq ngs ngo ngq krg kld kmt kps kpl kpw kpr kss kso ksq kes keo keq kgs kgo kgq okn org osi oti ole oto oow oco ost owa owv owh olo ohi ora odi oqu skd sdp sfd sop str spr rsz rcl rsg rst mrg mkr mik msz gle gsu tat tfa cco cct cac caf cwe ms mkp mtx mso mmy mit gma gpi gst ghe gow gfa gqu glo ghi gby gib tto cfo cff ccl tp T), 0, 0))
      exact m2 _ (by rw [if_neg c3])
  have tc1_0 : ¬ ((tp 3).1).toInt = 0 := fun e => c1_0 (Int32.toInt_inj.mp e)
  have tc1_1 : ¬ ((tp 3).1).toInt = 1 := fun e => c1_1 (Int32.toInt_inj.mp e)
  have tc1_2 : ¬ ((tp 3).1).toInt = 2 := fun e => c1_2 (Int32.toInt_inj.mp e)
  have tc1_3 : ¬ ((tp 3).1).toInt = 3 := fun e => c1_3 (Int32.toInt_inj.mp e)
  have tc1_4 : ¬ ((tp 3).1).toInt = 4 := fun e => c1_4 (Int32.toInt_inj.mp e)
  rw [show swT ((tp 3).1).toInt (0) [40, 45, 50, 66, 54] 66 = 66 by simp [swT, tc1_0, tc1_1, tc1_2, tc1_3, tc1_4]]
  exact J66 _ _ hf
set_option maxRecDepth 10000 in
theorem T_put_4_ok {v1 : Int32} {v2 : Int64} {q : (Nat → Int64)} (hc : call = sxE sc (d + 2)) (hf : T_put v1 v2 ((tp 3).1) ((tp 3).2.1) ((tp 3).2.2) = some q) (h : Q none (wF im nrg nld nmt nps npl npw npr nss nso nsq nes neo neq ngs ngo ngq krg kld kmt kps kpl kpw kpr kss kso ksq kes keo keq kgs kgo kgq okn org osi oti ole oto oow oco ost owa owv owh olo ohi ora odi oqu skd sdp sfd sop str spr rsz rcl rsg rst mrg mkr mik msz gle gsu tat tfa cco cct cac caf cwe ms mkp mtx mso mmy mit gma gpi gst ghe gow gfa gqu glo ghi gby gib tto cfo cff ccl (tpU tp 3 ((tp 3).1, (tp 3).2.1, q)) T)) : call 87 [.ref 53, .int v1, .long v2] (wF im nrg nld nmt nps npl npw npr nss nso nsq nes neo neq ngs ngo ngq krg kld kmt kps kpl kpw kpr kss kso ksq kes keo keq kgs kgo kgq okn org osi oti ole oto oow oco ost owa owv owh olo ohi ora odi oqu skd sdp sfd sop str spr rsz rcl rsg rst mrg mkr mik msz gle gsu tat tfa cco cct cac caf cwe ms mkp mtx mso mmy mit gma gpi gst ghe gow gfa gqu glo ghi gby gib tto cfo cff ccl tp T) Q := by
  refine ent hc rfl (fun cl hE hm => ?_)
  have J19 : ∀ (tp3i_j : (Nat → Int64)) (z0 : Option Value) (z1 : Option Value) (z2 : Option Value) (z3 : Option Value), T_put_j19 tp3i_j = some q → sxWP sc cl Q 87 (19, [z0, z1, z2, z3], [], (wF im nrg nld nmt nps npl npw npr nss nso nsq nes neo neq ngs ngo ngq krg kld kmt kps kpl kpw kpr kss kso ksq kes keo keq kgs kgo kgq okn org osi oti ole oto oow oco ost owa owv owh olo ohi ora odi oqu skd sdp sfd sop str spr rsz rcl rsg rst mrg mkr mik msz gle gsu tat tfa cco cct cac caf cwe ms mkp mtx mso mmy mit gma gpi gst ghe gow gfa gqu glo ghi gby gib tto cfo cff ccl (tpU tp 3 ((tp 3).1, (tp 3).2.1, tp3i_j)) T), 0, 0) := by
    intro tp3i_j z0 z1 z2 z3 hf
    unfold T_put_j19 at hf
    obtain rfl := Option.some.inj hf
    refine stp hm 1 ?_
    exact h
  unfold T_put at hf
  refine stp hm 3 (T_hasPlace_4_ok hE rfl ?_)
  show sxWP sc cl Q 87 (5, [some (.ref 53), some (.int v1), some (.long v2), none], [.int (T_hasPlace v1 (tp 3).2.1)], (wF im nrg nld nmt nps npl npw npr nss nso nsq nes neo neq ngs ngo ngq krg kld kmt kps kpl kpw kpr kss kso ksq kes keo keq kgs kgo kgq okn org osi oti ole oto oow oco ost owa owv owh olo ohi ora odi oqu skd sdp sfd sop str spr rsz rcl rsg rst mrg mkr mik msz gle gsu tat tfa cco cct cac caf cwe ms mkp mtx mso mmy mit gma gpi gst ghe gow gfa gqu glo ghi gby gib tto cfo cff ccl tp T), 0, 0)
  refine stp hm 1 (br hf (fun c1 hf => ?_) (fun c1 hf => ?_))
  · show sxWP sc cl Q 87 (19, [some (.ref 53), some (.int v1), some (.long v2), none], [], (wF im nrg nld nmt nps npl npw npr nss nso nsq nes neo neq ngs ngo ngq krg kld kmt kps kpl kpw kpr kss kso ksq kes keo keq kgs kgo kgq okn org osi oti ole oto oow oco ost owa owv owh olo ohi ora odi oqu skd sdp sfd sop str spr rsz rcl rsg rst mrg mkr mik msz gle gsu tat tfa cco cct cac caf cwe ms mkp mtx mso mmy mit gma gpi gst ghe gow gfa gqu glo ghi gby gib tto cfo cff ccl tp T), 0, 0)
    exact J19 _ _ _ _ _ hf
  · show sxWP sc cl Q 87 (8, [some (.ref 53), some (.int v1), some (.long v2), none], [], (wF im nrg nld nmt nps npl npw npr nss nso nsq nes neo neq ngs ngo ngq krg kld kmt kps kpl kpw kpr kss kso ksq kes keo keq kgs kgo kgq okn org osi oti ole oto oow oco ost owa owv owh olo ohi ora odi oqu skd sdp sfd sop str spr rsz rcl rsg rst mrg mkr mik msz gle gsu tat tfa cco cct cac caf cwe ms mkp mtx mso mmy mit gma gpi gst ghe gow gfa gqu glo ghi gby gib tto cfo cff ccl tp T), 0, 0)
    refine stp hm 6 (T_narrowed_4_ok hE rfl ?_)
    show sxWP sc cl Q 87 (18, [some (.ref 53), some (.int v1), some (.long v2), none], [.long (T_narrowed v2 (tp 3).1), .int v1, .ref 54], (wF im nrg nld nmt nps npl npw npr nss nso nsq nes neo neq ngs ngo ngq krg kld kmt kps kpl kpw kpr kss kso ksq kes keo keq kgs kgo kgq okn org osi oti ole oto oow oco ost owa owv owh olo ohi ora odi oqu skd sdp sfd sop str spr rsz rcl rsg rst mrg mkr mik msz gle gsu tat tfa cco cct cac caf cwe ms mkp mtx mso mmy mit gma gpi gst ghe gow gfa gqu glo ghi gby gib tto cfo cff ccl tp T), 0, 0)
    obtain ⟨g2, hf⟩ := grd_e hf
    refine stp hm 1 (And.intro (gi_in g2) (?_ : sxWP sc cl Q 87 (19, [some (.ref 53), some (.int v1), some (.long v2), none], [], (wF im nrg nld nmt nps npl npw npr nss nso nsq nes neo neq ngs ngo ngq krg kld kmt kps kpl kpw kpr kss kso ksq kes keo keq kgs kgo kgq okn org osi oti ole oto oow oco ost owa owv owh olo ohi ora odi oqu skd sdp sfd sop str spr rsz rcl rsg rst mrg mkr mik msz gle gsu tat tfa cco cct cac caf cwe ms mkp mtx mso mmy mit gma gpi gst ghe gow gfa gqu glo ghi gby gib tto cfo cff ccl (tpU tp 3 ((tp 3).1, (tp 3).2.1, vp_updL (tp 3).2.2 v1.toNatClampNeg (T_narrowed v2 (tp 3).1))) T), 0, 0)))
    exact J19 _ _ _ _ _ hf
set_option maxRecDepth 10000 in
theorem X_item_5_ok {v2 : Int32} {v3 : Int64} {q : (Int32 × (Nat → Int64))} (hc : call = sxE sc (d + 3)) (hf : X_item_2 (3:Int32) v2 v3 ((tp 3).1) ((tp 3).2.1) ((tp 3).2.2) = some q) (h : Q (some (.int q.1)) (wF im nrg nld nmt nps npl npw npr nss nso nsq nes neo neq ngs ngo ngq krg kld kmt kps kpl kpw kpr kss kso ksq kes keo keq kgs kgo kgq okn org osi oti ole oto oow oco ost owa owv owh olo ohi ora odi oqu skd sdp sfd sop str spr rsz rcl rsg rst mrg mkr mik msz gle gsu tat tfa cco cct cac caf cwe ms mkp mtx mso mmy mit gma gpi gst ghe gow gfa gqu glo ghi gby gib tto cfo cff ccl (tpU tp 3 ((tp 3).1, (tp 3).2.1, q.2)) T)) : call 132 [.ref 0, .int (3:Int32), .int v2, .long v3] (wF im nrg nld nmt nps npl npw npr nss nso nsq nes neo neq ngs ngo ngq krg kld kmt kps kpl kpw kpr kss kso ksq kes keo keq kgs kgo kgq okn org osi oti ole oto oow oco ost owa owv owh olo ohi ora odi oqu skd sdp sfd sop str spr rsz rcl rsg rst mrg mkr mik msz gle gsu tat tfa cco cct cac caf cwe ms mkp mtx mso mmy mit gma gpi gst ghe gow gfa gqu glo ghi gby gib tto cfo cff ccl tp T) Q := by
  refine ent hc rfl (fun cl hE hm => ?_)
  unfold X_item_2 at hf
  refine stp hm 2 (X_isTape_ok hE rfl ?_)
  show sxWP sc cl Q 132 (4, [some (.ref 0), some (.int (3:Int32)), some (.int v2), some (.long v3), none], [.int (X_isTape (3:Int32))], (wF im nrg nld nmt nps npl npw npr nss nso nsq nes neo neq ngs ngo ngq krg kld kmt kps kpl kpw kpr kss kso ksq kes keo keq kgs kgo kgq okn org osi oti ole oto oow oco ost owa owv owh olo ohi ora odi oqu skd sdp sfd sop str spr rsz rcl rsg rst mrg mkr mik msz gle gsu tat tfa cco cct cac caf cwe ms mkp mtx mso mmy mit gma gpi gst ghe gow gfa gqu glo ghi gby gib tto cfo cff ccl tp T), 0, 0)
  refine stp hm 1 (brn hf (fun c1 hf => ?_) (fun c1 hf => ?_))
  · show sxWP sc cl Q 132 (9, [some (.ref 0), some (.int (3:Int32)), some (.int v2), some (.long v3), none], [], (wF im nrg nld nmt nps npl npw npr nss nso nsq nes neo neq ngs ngo ngq krg kld kmt kps kpl kpw kpr kss kso ksq kes keo keq kgs kgo kgq okn org osi oti ole oto oow oco ost owa owv owh olo ohi ora odi oqu skd sdp sfd sop str spr rsz rcl rsg rst mrg mkr mik msz gle gsu tat tfa cco cct cac caf cwe ms mkp mtx mso mmy mit gma gpi gst ghe gow gfa gqu glo ghi gby gib tto cfo cff ccl tp T), 0, 0)
    refine stp hm 4 (And.intro (gi_in (by decide)) (?_ : sxWP sc cl Q 132 (15, [some (.ref 0), some (.int (3:Int32)), some (.int v2), some (.long v3), none], [.ref 53], (wF im nrg nld nmt nps npl npw npr nss nso nsq nes neo neq ngs ngo ngq krg kld kmt kps kpl kpw kpr kss kso ksq kes keo keq kgs kgo kgq okn org osi oti ole oto oow oco ost owa owv owh olo ohi ora odi oqu skd sdp sfd sop str spr rsz rcl rsg rst mrg mkr mik msz gle gsu tat tfa cco cct cac caf cwe ms mkp mtx mso mmy mit gma gpi gst ghe gow gfa gqu glo ghi gby gib tto cfo cff ccl tp T), 0, 0)))
    refine stp hm 3 (brn hf (fun c2 hf => ?_) (fun c2 hf => ?_))
    · show sxWP sc cl Q 132 (25, [some (.ref 0), some (.int (3:Int32)), some (.int v2), some (.long v3), none], [], (wF im nrg nld nmt nps npl npw npr nss nso nsq nes neo neq ngs ngo ngq krg kld kmt kps kpl kpw kpr kss kso ksq kes keo keq kgs kgo kgq okn org osi oti ole oto oow oco ost owa owv owh olo ohi ora odi oqu skd sdp sfd sop str spr rsz rcl rsg rst mrg mkr mik msz gle gsu tat tfa cco cct cac caf cwe ms mkp mtx mso mmy mit gma gpi gst ghe gow gfa gqu glo ghi gby gib tto cfo cff ccl tp T), 0, 0)
      refine stp hm 4 (And.intro (gi_in (by decide)) (?_ : sxWP sc cl Q 132 (31, [some (.ref 0), some (.int (3:Int32)), some (.int v2), some (.long v3), none], [.ref 53], (wF im nrg nld nmt nps npl npw npr nss nso nsq nes neo neq ngs ngo ngq krg kld kmt kps kpl kpw kpr kss kso ksq kes keo keq kgs kgo kgq okn org osi oti ole oto oow oco ost owa owv owh olo ohi ora odi oqu skd sdp sfd sop str spr rsz rcl rsg rst mrg mkr mik msz gle gsu tat tfa cco cct cac caf cwe ms mkp mtx mso mmy mit gma gpi gst ghe gow gfa gqu glo ghi gby gib tto cfo cff ccl tp T), 0, 0)))
      refine stp hm 2 (T_hasPlace_4_ok hE rfl ?_)
      show sxWP sc cl Q 132 (35, [some (.ref 0), some (.int (3:Int32)), some (.int v2), some (.long v3), none], [.int (T_hasPlace v2 (tp 3).2.1)], (wF im nrg nld nmt nps npl npw npr nss nso nsq nes neo neq ngs ngo ngq krg kld kmt kps kpl kpw kpr kss kso ksq kes keo keq kgs kgo kgq okn org osi oti ole oto oow oco ost owa owv owh olo ohi ora odi oqu skd sdp sfd sop str spr rsz rcl rsg rst mrg mkr mik msz gle gsu tat tfa cco cct cac caf cwe ms mkp mtx mso mmy mit gma gpi gst ghe gow gfa gqu glo ghi gby gib tto cfo cff ccl tp T), 0, 0)
      refine stp hm 1 (brn hf (fun c3 hf => ?_) (fun c3 hf => ?_))
      · show sxWP sc cl Q 132 (41, [some (.ref 0), some (.int (3:Int32)), some (.int v2), some (.long v3), none], [], (wF im nrg nld nmt nps npl npw npr nss nso nsq nes neo neq ngs ngo ngq krg kld kmt kps kpl kpw kpr kss kso ksq kes keo keq kgs kgo kgq okn org osi oti ole oto oow oco ost owa owv owh olo ohi ora odi oqu skd sdp sfd sop str spr rsz rcl rsg rst mrg mkr mik msz gle gsu tat tfa cco cct cac caf cwe ms mkp mtx mso mmy mit gma gpi gst ghe gow gfa gqu glo ghi gby gib tto cfo cff ccl tp T), 0, 0)
        refine stp hm 4 (And.intro (gi_in (by decide)) (?_ : sxWP sc cl Q 132 (47, [some (.ref 0), some (.int (3:Int32)), some (.int v2), some (.long v3), none], [.ref 53], (wF im nrg nld nmt nps npl npw npr nss nso nsq nes neo neq ngs ngo ngq krg kld kmt kps kpl kpw kpr kss kso ksq kes keo keq kgs kgo kgq okn org osi oti ole oto oow oco ost owa owv owh olo ohi ora odi oqu skd sdp sfd sop str spr rsz rcl rsg rst mrg mkr mik msz gle gsu tat tfa cco cct cac caf cwe ms mkp mtx mso mmy mit gma gpi gst ghe gow gfa gqu glo ghi gby gib tto cfo cff ccl tp T), 0, 0)))
        obtain ⟨q4, hq4, hf⟩ := bnd hf
        refine stp hm 3 (T_put_4_ok (q := q4) hE (by exact hq4) ?_)
        show sxWP sc cl Q 132 (52, [some (.ref 0), some (.int (3:Int32)), some (.int v2), some (.long v3), none], [], (wF im nrg nld nmt nps npl npw npr nss nso nsq nes neo neq ngs ngo ngq krg kld kmt kps kpl kpw kpr kss kso ksq kes keo keq kgs kgo kgq okn org osi oti ole oto oow oco ost owa owv owh olo ohi ora odi oqu skd sdp sfd sop str spr rsz rcl rsg rst mrg mkr mik msz gle gsu tat tfa cco cct cac caf cwe ms mkp mtx mso mmy mit gma gpi gst ghe gow gfa gqu glo ghi gby gib tto cfo cff ccl (tpU tp 3 ((tp 3).1, (tp 3).2.1, q4)) T), 0, 0)
        obtain rfl := Option.some.inj hf
        refine stp hm 2 ?_
        exact h
      · show sxWP sc cl Q 132 (38, [some (.ref 0), some (.int (3:Int32)), some (.int v2), some (.long v3), none], [], (wF im nrg nld nmt nps npl npw npr nss nso nsq nes neo neq ngs ngo ngq krg kld kmt kps kpl kpw kpr kss kso ksq kes keo keq kgs kgo kgq okn org osi oti ole oto oow oco ost owa owv owh olo ohi ora odi oqu skd sdp sfd sop str spr rsz rcl rsg rst mrg mkr mik msz gle gsu tat tfa cco cct cac caf cwe ms mkp mtx mso mmy mit gma gpi gst ghe gow gfa gqu glo ghi gby gib tto cfo cff ccl tp T), 0, 0)
        obtain rfl := Option.some.inj hf
        refine stp hm 2 ?_
        exact h
    · show sxWP sc cl Q 132 (22, [some (.ref 0), some (.int (3:Int32)), some (.int v2), some (.long v3), none], [], (wF im nrg nld nmt nps npl npw npr nss nso nsq nes neo neq ngs ngo ngq krg kld kmt kps kpl kpw kpr kss kso ksq kes keo keq kgs kgo kgq okn org osi oti ole oto oow oco ost owa owv owh olo ohi ora odi oqu skd sdp sfd sop str spr rsz rcl rsg rst mrg mkr mik msz gle gsu tat tfa cco cct cac caf cwe ms mkp mtx mso mmy mit gma gpi gst ghe gow gfa gqu glo ghi gby gib tto cfo cff ccl tp T), 0, 0)
      obtain rfl := Option.some.inj hf
      refine stp hm 2 ?_
      exact h
  · show sxWP sc cl Q 132 (7, [some (.ref 0), some (.int (3:Int32)), some (.int v2), some (.long v3), none], [], (wF im nrg nld nmt nps npl npw npr nss nso nsq nes neo neq ngs ngo ngq krg kld kmt kps kpl kpw kpr kss kso ksq kes keo keq kgs kgo kgq okn org osi oti ole oto oow oco ost owa owv owh olo ohi ora odi oqu skd sdp sfd sop str spr rsz rcl rsg rst mrg mkr mik msz gle gsu tat tfa cco cct cac caf cwe ms mkp mtx mso mmy mit gma gpi gst ghe gow gfa gqu glo ghi gby gib tto cfo cff ccl tp T), 0, 0)
    obtain rfl := Option.some.inj hf
    refine stp hm 2 ?_
    exact h
set_option maxRecDepth 10000 in
theorem T_narrowed_5_ok {v1 : Int64} {r : Int64} (hc : call = sxE sc (d + 1)) (hf : T_narrowed v1 ((tp 4).1) = r) (h : Q (some (.long r)) (wF im nrg nld nmt nps npl npw npr nss nso nsq nes neo neq ngs ngo ngq krg kld kmt kps kpl kpw kpr kss kso ksq kes keo keq kgs kgo kgq okn org osi oti ole oto oow oco ost owa owv owh olo ohi ora odi oqu skd sdp sfd sop str spr rsz rcl rsg rst mrg mkr mik msz gle gsu tat tfa cco cct cac caf cwe ms mkp mtx mso mmy mit gma gpi gst ghe gow gfa gqu glo ghi gby gib tto cfo cff ccl tp T)) : call 88 [.ref 55, .long v1] (wF im nrg nld nmt nps npl npw npr nss nso nsq nes neo neq ngs ngo ngq krg kld kmt kps kpl kpw kpr kss kso ksq kes keo keq kgs kgo kgq okn org osi oti ole oto oow oco ost owa owv owh olo ohi ora odi oqu skd sdp sfd sop str spr rsz rcl rsg rst mrg mkr mik msz gle gsu tat tfa cco cct cac caf cwe ms mkp mtx mso mmy mit gma gpi gst ghe gow gfa gqu glo ghi gby gib tto cfo cff ccl tp T) Q := by
  refine ent hc rfl (fun cl hE hm => ?_)
  have J66 : ∀ (v1 : Int64) (z0 : Option Value), T_narrowed_j66 v1 = r → sxWP sc cl Q 88 (66, [z0, some (.long v1), none], [], (wF im nrg nld nmt nps npl npw npr nss nso nsq nes neo neq ngs ngo ngq krg kld kmt kps kpl kpw kpr kss kso ksq kes keo keq kgs kgo kgq okn org osi oti ole oto oow oco ost owa owv owh olo ohi ora odi oqu skd sdp sfd sop str spr rsz rcl rsg rst mrg mkr mik msz gle gsu tat tfa cco cct cac caf cwe ms mkp mtx mso mmy mit gma gpi gst ghe gow gfa gqu glo ghi gby gib tto cfo cff ccl tp T), 0, 0) := by
    intro v1 z0 hf
    unfold T_narrowed_j66 at hf
    subst hf
    refine stp hm 2 ?_
    exact h
  unfold T_narrowed at hf
  refine stp hm 3 ?_
  show sxWP sc cl Q 88 ((swT ((tp 4).1).toInt (0) [40, 45, 50, 66, 54] 66), [some (.ref 55), some (.long v1), none], [], (wF im nrg nld nmt nps npl npw npr nss nso nsq nes neo neq ngs ngo ngq krg kld kmt kps kpl kpw kpr kss kso ksq kes keo keq kgs kgo kgq okn org osi oti ole oto oow oco ost owa owv owh olo ohi ora odi oqu skd sdp sfd sop str spr rsz rcl rsg rst mrg mkr mik msz gle gsu tat tfa cco cct cac caf cwe ms mkp mtx mso mmy mit gma gpi gst ghe gow gfa gqu glo ghi gby gib tto cfo cff ccl tp T), 0, 0)
  rcases ite_or hf with ⟨c1_0, hf⟩ | ⟨c1_0, hf⟩
  · rw [show swT ((tp 4).1).toInt (0) [40, 45, 50, 66, 54] 66 = 40 by rw [c1_0]; rfl]
    subst hf
    refine stp hm 5 ?_
    exact h
  rcases ite_or hf with ⟨c1_1, hf⟩ | ⟨c1_1, hf⟩
  · rw [show swT ((tp 4).1).toInt (0) [40, 45, 50, 66, 54] 66 = 45 by rw [c1_1]; rfl]
    subst hf
    refine stp hm 5 ?_
    exact h
  rcases ite_or hf with ⟨c1_2, hf⟩ | ⟨c1_2, hf⟩
  · rw [show swT ((tp 4).1).toInt (0) [40, 45, 50, 66, 54] 66 = 50 by rw [c1_2]; rfl]
    subst hf
    refine stp hm 4 ?_
    exact h
  rcases ite_or hf with ⟨c1_3, hf⟩ | ⟨c1_3, hf⟩
  · rw [show swT ((tp 4).1).toInt (0) [40, 45, 50, 66, 54] 66 = 66 by rw [c1_3]; rfl]
    exact J66 _ _ hf
  rcases ite_or hf with ⟨c1_4, hf⟩ | ⟨c1_4, hf⟩
  · rw [show swT ((tp 4).1).toInt (0) [40, 45, 50, 66, 54] 66 = 54 by rw [c1_4]; rfl]
    have m2 : ∀ (m2_0 : Int64), m2_0 = (if v1 = (0:Int64) then (0:Int64) else (1:Int64)) → sxWP sc cl Q 88 (65, [some (.ref 55), some (.long v1), none], [.long m2_0], (wF im nrg nld nmt nps npl npw npr nss nso nsq nes neo neq ngs ngo ngq krg kld kmt kps kpl kpw kpr kss kso ksq kes keo keq kgs kgo kgq okn org osi oti ole oto oow oco ost owa owv owh olo ohi ora odi oqu skd sdp sfd sop str spr rsz rcl rsg rst mrg mkr mik msz gle gsu tat tfa cco cct cac caf cwe ms mkp mtx mso mmy mit gma gpi gst ghe gow gfa gqu glo ghi gby gib tto cfo cff ccl tp T), 0, 0) := by
      intro m2_0 em2_0
      subst em2_0
      subst hf
      refine stp hm 1 ?_
      exact h
    refine stp hm 4 (bsI (lg_cmp_eq _ _) (fun c3 => ?_) (fun c3 => ?_))
    · have c3 : v1 = (0:Int64) := c3
      refine stp hm 1 (?_ : sxWP sc cl Q 88 (65, [some (.ref 55), some (.long v1), none], [.long (0:Int64)], (wF im nrg nld nmt nps npl npw npr nss nso nsq nes neo neq ngs ngo ngq krg kld kmt kps kpl kpw kpr kss kso ksq kes keo keq kgs kgo kgq okn org osi oti ole oto oow oco ost owa owv owh olo ohi ora odi oqu skd sdp sfd sop str spr rsz rcl rsg rst mrg mkr mik msz gle gsu tat tfa cco cct cac caf cwe ms mkp mtx mso mmy mit gma gpi gst ghe gow gfa gqu glo ghi gby gib tto cfo cff ccl tp T), 0, 0))
      exact m2 _ (by rw [if_pos c3])
    · have c3 : ¬ v1 = (0:Int64) := c3
      refine stp hm 2 (?_ : sxWP sc cl Q 88 (65, [some (.ref 55), some (.long v1), none], [.long (1:Int64)], (wF im nrg nld nmt nps npl npw npr nss nso nsq nes neo neq ngs ngo ngq krg kld kmt kps kpl kpw kpr kss kso ksq kes keo keq kgs kgo kgq okn org osi oti ole oto oow oco ost owa owv owh olo ohi ora odi oqu skd sdp sfd sop str spr rsz rcl rsg rst mrg mkr mik msz gle gsu tat tfa cco cct cac caf cwe ms mkp mtx mso mmy mit gma gpi gst ghe gow gfa gqu glo ghi gby gib tto cfo cff ccl tp T), 0, 0))
      exact m2 _ (by rw [if_neg c3])
  have tc1_0 : ¬ ((tp 4).1).toInt = 0 := fun e => c1_0 (Int32.toInt_inj.mp e)
  have tc1_1 : ¬ ((tp 4).1).toInt = 1 := fun e => c1_1 (Int32.toInt_inj.mp e)
  have tc1_2 : ¬ ((tp 4).1).toInt = 2 := fun e => c1_2 (Int32.toInt_inj.mp e)
  have tc1_3 : ¬ ((tp 4).1).toInt = 3 := fun e => c1_3 (Int32.toInt_inj.mp e)
  have tc1_4 : ¬ ((tp 4).1).toInt = 4 := fun e => c1_4 (Int32.toInt_inj.mp e)
  rw [show swT ((tp 4).1).toInt (0) [40, 45, 50, 66, 54] 66 = 66 by simp [swT, tc1_0, tc1_1, tc1_2, tc1_3, tc1_4]]
  exact J66 _ _ hf
set_option maxRecDepth 10000 in
theorem T_put_5_ok {v1 : Int32} {v2 : Int64} {q : (Nat → Int64)} (hc : call = sxE sc (d + 2)) (hf : T_put v1 v2 ((tp 4).1) ((tp 4).2.1) ((tp 4).2.2) = some q) (h : Q none (wF im nrg nld nmt nps npl npw npr nss nso nsq nes neo neq ngs ngo ngq krg kld kmt kps kpl kpw kpr kss kso ksq kes keo keq kgs kgo kgq okn org osi oti ole oto oow oco ost owa owv owh olo ohi ora odi oqu skd sdp sfd sop str spr rsz rcl rsg rst mrg mkr mik msz gle gsu tat tfa cco cct cac caf cwe ms mkp mtx mso mmy mit gma gpi gst ghe gow gfa gqu glo ghi gby gib tto cfo cff ccl (tpU tp 4 ((tp 4).1, (tp 4).2.1, q)) T)) : call 87 [.ref 55, .int v1, .long v2] (wF im nrg nld nmt nps npl npw npr nss nso nsq nes neo neq ngs ngo ngq krg kld kmt kps kpl kpw kpr kss kso ksq kes keo keq kgs kgo kgq okn org osi oti ole oto oow oco ost owa owv owh olo ohi ora odi oqu skd sdp sfd sop str spr rsz rcl rsg rst mrg mkr mik msz gle gsu tat tfa cco cct cac caf cwe ms mkp mtx mso mmy mit gma gpi gst ghe gow gfa gqu glo ghi gby gib tto cfo cff ccl tp T) Q := by
  refine ent hc rfl (fun cl hE hm => ?_)
  have J19 : ∀ (tp4i_j : (Nat → Int64)) (z0 : Option Value) (z1 : Option Value) (z2 : Option Value) (z3 : Option Value), T_put_j19 tp4i_j = some q → sxWP sc cl Q 87 (19, [z0, z1, z2, z3], [], (wF im nrg nld nmt nps npl npw npr nss nso nsq nes neo neq ngs ngo ngq krg kld kmt kps kpl kpw kpr kss kso ksq kes keo keq kgs kgo kgq okn org osi oti ole oto oow oco ost owa owv owh olo ohi ora odi oqu skd sdp sfd sop str spr rsz rcl rsg rst mrg mkr mik msz gle gsu tat tfa cco cct cac caf cwe ms mkp mtx mso mmy mit gma gpi gst ghe gow gfa gqu glo ghi gby gib tto cfo cff ccl (tpU tp 4 ((tp 4).1, (tp 4).2.1, tp4i_j)) T), 0, 0) := by
    intro tp4i_j z0 z1 z2 z3 hf
    unfold T_put_j19 at hf
    obtain rfl := Option.some.inj hf
    refine stp hm 1 ?_
    exact h
  unfold T_put at hf
  refine stp hm 3 (T_hasPlace_5_ok hE rfl ?_)
  show sxWP sc cl Q 87 (5, [some (.ref 55), some (.int v1), some (.long v2), none], [.int (T_hasPlace v1 (tp 4).2.1)], (wF im nrg nld nmt nps npl npw npr nss nso nsq nes neo neq ngs ngo ngq krg kld kmt kps kpl kpw kpr kss kso ksq kes keo keq kgs kgo kgq okn org osi oti ole oto oow oco ost owa owv owh olo ohi ora odi oqu skd sdp sfd sop str spr rsz rcl rsg rst mrg mkr mik msz gle gsu tat tfa cco cct cac caf cwe ms mkp mtx mso mmy mit gma gpi gst ghe gow gfa gqu glo ghi gby gib tto cfo cff ccl tp T), 0, 0)
  refine stp hm 1 (br hf (fun c1 hf => ?_) (fun c1 hf => ?_))
  · show sxWP sc cl Q 87 (19, [some (.ref 55), some (.int v1), some (.long v2), none], [], (wF im nrg nld nmt nps npl npw npr nss nso nsq nes neo neq ngs ngo ngq krg kld kmt kps kpl kpw kpr kss kso ksq kes keo keq kgs kgo kgq okn org osi oti ole oto oow oco ost owa owv owh olo ohi ora odi oqu skd sdp sfd sop str spr rsz rcl rsg rst mrg mkr mik msz gle gsu tat tfa cco cct cac caf cwe ms mkp mtx mso mmy mit gma gpi gst ghe gow gfa gqu glo ghi gby gib tto cfo cff ccl tp T), 0, 0)
    exact J19 _ _ _ _ _ hf
  · show sxWP sc cl Q 87 (8, [some (.ref 55), some (.int v1), some (.long v2), none], [], (wF im nrg nld nmt nps npl npw npr nss nso nsq nes neo neq ngs ngo ngq krg kld kmt kps kpl kpw kpr kss kso ksq kes keo keq kgs kgo kgq okn org osi oti ole oto oow oco ost owa owv owh olo ohi ora odi oqu skd sdp sfd sop str spr rsz rcl rsg rst mrg mkr mik msz gle gsu tat tfa cco cct cac caf cwe ms mkp mtx mso mmy mit gma gpi gst ghe gow gfa gqu glo ghi gby gib tto cfo cff ccl tp T), 0, 0)
    refine stp hm 6 (T_narrowed_5_ok hE rfl ?_)
    show sxWP sc cl Q 87 (18, [some (.ref 55), some (.int v1), some (.long v2), none], [.long (T_narrowed v2 (tp 4).1), .int v1, .ref 56], (wF im nrg nld nmt nps npl npw npr nss nso nsq nes neo neq ngs ngo ngq krg kld kmt kps kpl kpw kpr kss kso ksq kes keo keq kgs kgo kgq okn org osi oti ole oto oow oco ost owa owv owh olo ohi ora odi oqu skd sdp sfd sop str spr rsz rcl rsg rst mrg mkr mik msz gle gsu tat tfa cco cct cac caf cwe ms mkp mtx mso mmy mit gma gpi gst ghe gow gfa gqu glo ghi gby gib tto cfo cff ccl tp T), 0, 0)
    obtain ⟨g2, hf⟩ := grd_e hf
    refine stp hm 1 (And.intro (gi_in g2) (?_ : sxWP sc cl Q 87 (19, [some (.ref 55), some (.int v1), some (.long v2), none], [], (wF im nrg nld nmt nps npl npw npr nss nso nsq nes neo neq ngs ngo ngq krg kld kmt kps kpl kpw kpr kss kso ksq kes keo keq kgs kgo kgq okn org osi oti ole oto oow oco ost owa owv owh olo ohi ora odi oqu skd sdp sfd sop str spr rsz rcl rsg rst mrg mkr mik msz gle gsu tat tfa cco cct cac caf cwe ms mkp mtx mso mmy mit gma gpi gst ghe gow gfa gqu glo ghi gby gib tto cfo cff ccl (tpU tp 4 ((tp 4).1, (tp 4).2.1, vp_updL (tp 4).2.2 v1.toNatClampNeg (T_narrowed v2 (tp 4).1))) T), 0, 0)))
    exact J19 _ _ _ _ _ hf
set_option maxRecDepth 10000 in
theorem X_item_6_ok {v2 : Int32} {v3 : Int64} {q : (Int32 × (Nat → Int64))} (hc : call = sxE sc (d + 3)) (hf : X_item_2 (4:Int32) v2 v3 ((tp 4).1) ((tp 4).2.1) ((tp 4).2.2) = some q) (h : Q (some (.int q.1)) (wF im nrg nld nmt nps npl npw npr nss nso nsq nes neo neq ngs ngo ngq krg kld kmt kps kpl kpw kpr kss kso ksq kes keo keq kgs kgo kgq okn org osi oti ole oto oow oco ost owa owv owh olo ohi ora odi oqu skd sdp sfd sop str spr rsz rcl rsg rst mrg mkr mik msz gle gsu tat tfa cco cct cac caf cwe ms mkp mtx mso mmy mit gma gpi gst ghe gow gfa gqu glo ghi gby gib tto cfo cff ccl (tpU tp 4 ((tp 4).1, (tp 4).2.1, q.2)) T)) : call 132 [.ref 0, .int (4:Int32), .int v2, .long v3] (wF im nrg nld nmt nps npl npw npr nss nso nsq nes neo neq ngs ngo ngq krg kld kmt kps kpl kpw kpr kss kso ksq kes keo keq kgs kgo kgq okn org osi oti ole oto oow oco ost owa owv owh olo ohi ora odi oqu skd sdp sfd sop str spr rsz rcl rsg rst mrg mkr mik msz gle gsu tat tfa cco cct cac caf cwe ms mkp mtx mso mmy mit gma gpi gst ghe gow gfa gqu glo ghi gby gib tto cfo cff ccl tp T) Q := by
  refine ent hc rfl (fun cl hE hm => ?_)
  unfold X_item_2 at hf
  refine stp hm 2 (X_isTape_ok hE rfl ?_)
  show sxWP sc cl Q 132 (4, [some (.ref 0), some (.int (4:Int32)), some (.int v2), some (.long v3), none], [.int (X_isTape (4:Int32))], (wF im nrg nld nmt nps npl npw npr nss nso nsq nes neo neq ngs ngo ngq krg kld kmt kps kpl kpw kpr kss kso ksq kes keo keq kgs kgo kgq okn org osi oti ole oto oow oco ost owa owv owh olo ohi ora odi oqu skd sdp sfd sop str spr rsz rcl rsg rst mrg mkr mik msz gle gsu tat tfa cco cct cac caf cwe ms mkp mtx mso mmy mit gma gpi gst ghe gow gfa gqu glo ghi gby gib tto cfo cff ccl tp T), 0, 0)
  refine stp hm 1 (brn hf (fun c1 hf => ?_) (fun c1 hf => ?_))
  · show sxWP sc cl Q 132 (9, [some (.ref 0), some (.int (4:Int32)), some (.int v2), some (.long v3), none], [], (wF im nrg nld nmt nps npl npw npr nss nso nsq nes neo neq ngs ngo ngq krg kld kmt kps kpl kpw kpr kss kso ksq kes keo keq kgs kgo kgq okn org osi oti ole oto oow oco ost owa owv owh olo ohi ora odi oqu skd sdp sfd sop str spr rsz rcl rsg rst mrg mkr mik msz gle gsu tat tfa cco cct cac caf cwe ms mkp mtx mso mmy mit gma gpi gst ghe gow gfa gqu glo ghi gby gib tto cfo cff ccl tp T), 0, 0)
    refine stp hm 4 (And.intro (gi_in (by decide)) (?_ : sxWP sc cl Q 132 (15, [some (.ref 0), some (.int (4:Int32)), some (.int v2), some (.long v3), none], [.ref 55], (wF im nrg nld nmt nps npl npw npr nss nso nsq nes neo neq ngs ngo ngq krg kld kmt kps kpl kpw kpr kss kso ksq kes keo keq kgs kgo kgq okn org osi oti ole oto oow oco ost owa owv owh olo ohi ora odi oqu skd sdp sfd sop str spr rsz rcl rsg rst mrg mkr mik msz gle gsu tat tfa cco cct cac caf cwe ms mkp mtx mso mmy mit gma gpi gst ghe gow gfa gqu glo ghi gby gib tto cfo cff ccl tp T), 0, 0)))
    refine stp hm 3 (brn hf (fun c2 hf => ?_) (fun c2 hf => ?_))
    · show sxWP sc cl Q 132 (25, [some (.ref 0), some (.int (4:Int32)), some (.int v2), some (.long v3), none], [], (wF im nrg nld nmt nps npl npw npr nss nso nsq nes neo neq ngs ngo ngq krg kld kmt kps kpl kpw kpr kss kso ksq kes keo keq kgs kgo kgq okn org osi oti ole oto oow oco ost owa owv owh olo ohi ora odi oqu skd sdp sfd sop str spr rsz rcl rsg rst mrg mkr mik msz gle gsu tat tfa cco cct cac caf cwe ms mkp mtx mso mmy mit gma gpi gst ghe gow gfa gqu glo ghi gby gib tto cfo cff ccl tp T), 0, 0)
      refine stp hm 4 (And.intro (gi_in (by decide)) (?_ : sxWP sc cl Q 132 (31, [some (.ref 0), some (.int (4:Int32)), some (.int v2), some (.long v3), none], [.ref 55], (wF im nrg nld nmt nps npl npw npr nss nso nsq nes neo neq ngs ngo ngq krg kld kmt kps kpl kpw kpr kss kso ksq kes keo keq kgs kgo kgq okn org osi oti ole oto oow oco ost owa owv owh olo ohi ora odi oqu skd sdp sfd sop str spr rsz rcl rsg rst mrg mkr mik msz gle gsu tat tfa cco cct cac caf cwe ms mkp mtx mso mmy mit gma gpi gst ghe gow gfa gqu glo ghi gby gib tto cfo cff ccl tp T), 0, 0)))
      refine stp hm 2 (T_hasPlace_5_ok hE rfl ?_)
      show sxWP sc cl Q 132 (35, [some (.ref 0), some (.int (4:Int32)), some (.int v2), some (.long v3), none], [.int (T_hasPlace v2 (tp 4).2.1)], (wF im nrg nld nmt nps npl npw npr nss nso nsq nes neo neq ngs ngo ngq krg kld kmt kps kpl kpw kpr kss kso ksq kes keo keq kgs kgo kgq okn org osi oti ole oto oow oco ost owa owv owh olo ohi ora odi oqu skd sdp sfd sop str spr rsz rcl rsg rst mrg mkr mik msz gle gsu tat tfa cco cct cac caf cwe ms mkp mtx mso mmy mit gma gpi gst ghe gow gfa gqu glo ghi gby gib tto cfo cff ccl tp T), 0, 0)
      refine stp hm 1 (brn hf (fun c3 hf => ?_) (fun c3 hf => ?_))
      · show sxWP sc cl Q 132 (41, [some (.ref 0), some (.int (4:Int32)), some (.int v2), some (.long v3), none], [], (wF im nrg nld nmt nps npl npw npr nss nso nsq nes neo neq ngs ngo ngq krg kld kmt kps kpl kpw kpr kss kso ksq kes keo keq kgs kgo kgq okn org osi oti ole oto oow oco ost owa owv owh olo ohi ora odi oqu skd sdp sfd sop str spr rsz rcl rsg rst mrg mkr mik msz gle gsu tat tfa cco cct cac caf cwe ms mkp mtx mso mmy mit gma gpi gst ghe gow gfa gqu glo ghi gby gib tto cfo cff ccl tp T), 0, 0)
        refine stp hm 4 (And.intro (gi_in (by decide)) (?_ : sxWP sc cl Q 132 (47, [some (.ref 0), some (.int (4:Int32)), some (.int v2), some (.long v3), none], [.ref 55], (wF im nrg nld nmt nps npl npw npr nss nso nsq nes neo neq ngs ngo ngq krg kld kmt kps kpl kpw kpr kss kso ksq kes keo keq kgs kgo kgq okn org osi oti ole oto oow oco ost owa owv owh olo ohi ora odi oqu skd sdp sfd sop str spr rsz rcl rsg rst mrg mkr mik msz gle gsu tat tfa cco cct cac caf cwe ms mkp mtx mso mmy mit gma gpi gst ghe gow gfa gqu glo ghi gby gib tto cfo cff ccl tp T), 0, 0)))
        obtain ⟨q4, hq4, hf⟩ := bnd hf
        refine stp hm 3 (T_put_5_ok (q := q4) hE (by exact hq4) ?_)
        show sxWP sc cl Q 132 (52, [some (.ref 0), some (.int (4:Int32)), some (.int v2), some (.long v3), none], [], (wF im nrg nld nmt nps npl npw npr nss nso nsq nes neo neq ngs ngo ngq krg kld kmt kps kpl kpw kpr kss kso ksq kes keo keq kgs kgo kgq okn org osi oti ole oto oow oco ost owa owv owh olo ohi ora odi oqu skd sdp sfd sop str spr rsz rcl rsg rst mrg mkr mik msz gle gsu tat tfa cco cct cac caf cwe ms mkp mtx mso mmy mit gma gpi gst ghe gow gfa gqu glo ghi gby gib tto cfo cff ccl (tpU tp 4 ((tp 4).1, (tp 4).2.1, q4)) T), 0, 0)
        obtain rfl := Option.some.inj hf
        refine stp hm 2 ?_
        exact h
      · show sxWP sc cl Q 132 (38, [some (.ref 0), some (.int (4:Int32)), some (.int v2), some (.long v3), none], [], (wF im nrg nld nmt nps npl npw npr nss nso nsq nes neo neq ngs ngo ngq krg kld kmt kps kpl kpw kpr kss kso ksq kes keo keq kgs kgo kgq okn org osi oti ole oto oow oco ost owa owv owh olo ohi ora odi oqu skd sdp sfd sop str spr rsz rcl rsg rst mrg mkr mik msz gle gsu tat tfa cco cct cac caf cwe ms mkp mtx mso mmy mit gma gpi gst ghe gow gfa gqu glo ghi gby gib tto cfo cff ccl tp T), 0, 0)
        obtain rfl := Option.some.inj hf
        refine stp hm 2 ?_
        exact h
    · show sxWP sc cl Q 132 (22, [some (.ref 0), some (.int (4:Int32)), some (.int v2), some (.long v3), none], [], (wF im nrg nld nmt nps npl npw npr nss nso nsq nes neo neq ngs ngo ngq krg kld kmt kps kpl kpw kpr kss kso ksq kes keo keq kgs kgo kgq okn org osi oti ole oto oow oco ost owa owv owh olo ohi ora odi oqu skd sdp sfd sop str spr rsz rcl rsg rst mrg mkr mik msz gle gsu tat tfa cco cct cac caf cwe ms mkp mtx mso mmy mit gma gpi gst ghe gow gfa gqu glo ghi gby gib tto cfo cff ccl tp T), 0, 0)
      obtain rfl := Option.some.inj hf
      refine stp hm 2 ?_
      exact h
  · show sxWP sc cl Q 132 (7, [some (.ref 0), some (.int (4:Int32)), some (.int v2), some (.long v3), none], [], (wF im nrg nld nmt nps npl npw npr nss nso nsq nes neo neq ngs ngo ngq krg kld kmt kps kpl kpw kpr kss kso ksq kes keo keq kgs kgo kgq okn org osi oti ole oto oow oco ost owa owv owh olo ohi ora odi oqu skd sdp sfd sop str spr rsz rcl rsg rst mrg mkr mik msz gle gsu tat tfa cco cct cac caf cwe ms mkp mtx mso mmy mit gma gpi gst ghe gow gfa gqu glo ghi gby gib tto cfo cff ccl tp T), 0, 0)
    obtain rfl := Option.some.inj hf
    refine stp hm 2 ?_
    exact h
set_option maxRecDepth 10000 in
theorem T_narrowed_6_ok {v1 : Int64} {r : Int64} (hc : call = sxE sc (d + 1)) (hf : T_narrowed v1 ((tp 5).1) = r) (h : Q (some (.long r)) (wF im nrg nld nmt nps npl npw npr nss nso nsq nes neo neq ngs ngo ngq krg kld kmt kps kpl kpw kpr kss kso ksq kes keo keq kgs kgo kgq okn org osi oti ole oto oow oco ost owa owv owh olo ohi ora odi oqu skd sdp sfd sop str spr rsz rcl rsg rst mrg mkr mik msz gle gsu tat tfa cco cct cac caf cwe ms mkp mtx mso mmy mit gma gpi gst ghe gow gfa gqu glo ghi gby gib tto cfo cff ccl tp T)) : call 88 [.ref 57, .long v1] (wF im nrg nld nmt nps npl npw npr nss nso nsq nes neo neq ngs ngo ngq krg kld kmt kps kpl kpw kpr kss kso ksq kes keo keq kgs kgo kgq okn org osi oti ole oto oow oco ost owa owv owh olo ohi ora odi oqu skd sdp sfd sop str spr rsz rcl rsg rst mrg mkr mik msz gle gsu tat tfa cco cct cac caf cwe ms mkp mtx mso mmy mit gma gpi gst ghe gow gfa gqu glo ghi gby gib tto cfo cff ccl tp T) Q := by
  refine ent hc rfl (fun cl hE hm => ?_)
  have J66 : ∀ (v1 : Int64) (z0 : Option Value), T_narrowed_j66 v1 = r → sxWP sc cl Q 88 (66, [z0, some (.long v1), none], [], (wF im nrg nld nmt nps npl npw npr nss nso nsq nes neo neq ngs ngo ngq krg kld kmt kps kpl kpw kpr kss kso ksq kes keo keq kgs kgo kgq okn org osi oti ole oto oow oco ost owa owv owh olo ohi ora odi oqu skd sdp sfd sop str spr rsz rcl rsg rst mrg mkr mik msz gle gsu tat tfa cco cct cac caf cwe ms mkp mtx mso mmy mit gma gpi gst ghe gow gfa gqu glo ghi gby gib tto cfo cff ccl tp T), 0, 0) := by
    intro v1 z0 hf
    unfold T_narrowed_j66 at hf
    subst hf
    refine stp hm 2 ?_
    exact h
  unfold T_narrowed at hf
  refine stp hm 3 ?_
  show sxWP sc cl Q 88 ((swT ((tp 5).1).toInt (0) [40, 45, 50, 66, 54] 66), [some (.ref 57), some (.long v1), none], [], (wF im nrg nld nmt nps npl npw npr nss nso nsq nes neo neq ngs ngo ngq krg kld kmt kps kpl kpw kpr kss kso ksq kes keo keq kgs kgo kgq okn org osi oti ole oto oow oco ost owa owv owh olo ohi ora odi oqu skd sdp sfd sop str spr rsz rcl rsg rst mrg mkr mik msz gle gsu tat tfa cco cct cac caf cwe ms mkp mtx mso mmy mit gma gpi gst ghe gow gfa gqu glo ghi gby gib tto cfo cff ccl tp T), 0, 0)
  rcases ite_or hf with ⟨c1_0, hf⟩ | ⟨c1_0, hf⟩
  · rw [show swT ((tp 5).1).toInt (0) [40, 45, 50, 66, 54] 66 = 40 by rw [c1_0]; rfl]
    subst hf
    refine stp hm 5 ?_
    exact h
  rcases ite_or hf with ⟨c1_1, hf⟩ | ⟨c1_1, hf⟩
  · rw [show swT ((tp 5).1).toInt (0) [40, 45, 50, 66, 54] 66 = 45 by rw [c1_1]; rfl]
    subst hf
    refine stp hm 5 ?_
    exact h
  rcases ite_or hf with ⟨c1_2, hf⟩ | ⟨c1_2, hf⟩
  · rw [show swT ((tp 5).1).toInt (0) [40, 45, 50, 66, 54] 66 = 50 by rw [c1_2]; rfl]
    subst hf
    refine stp hm 4 ?_
    exact h
  rcases ite_or hf with ⟨c1_3, hf⟩ | ⟨c1_3, hf⟩
  · rw [show swT ((tp 5).1).toInt (0) [40, 45, 50, 66, 54] 66 = 66 by rw [c1_3]; rfl]
    exact J66 _ _ hf
  rcases ite_or hf with ⟨c1_4, hf⟩ | ⟨c1_4, hf⟩
  · rw [show swT ((tp 5).1).toInt (0) [40, 45, 50, 66, 54] 66 = 54 by rw [c1_4]; rfl]
    have m2 : ∀ (m2_0 : Int64), m2_0 = (if v1 = (0:Int64) then (0:Int64) else (1:Int64)) → sxWP sc cl Q 88 (65, [some (.ref 57), some (.long v1), none], [.long m2_0], (wF im nrg nld nmt nps npl npw npr nss nso nsq nes neo neq ngs ngo ngq krg kld kmt kps kpl kpw kpr kss kso ksq kes keo keq kgs kgo kgq okn org osi oti ole oto oow oco ost owa owv owh olo ohi ora odi oqu skd sdp sfd sop str spr rsz rcl rsg rst mrg mkr mik msz gle gsu tat tfa cco cct cac caf cwe ms mkp mtx mso mmy mit gma gpi gst ghe gow gfa gqu glo ghi gby gib tto cfo cff ccl tp T), 0, 0) := by
      intro m2_0 em2_0
      subst em2_0
      subst hf
      refine stp hm 1 ?_
      exact h
    refine stp hm 4 (bsI (lg_cmp_eq _ _) (fun c3 => ?_) (fun c3 => ?_))
    · have c3 : v1 = (0:Int64) := c3
      refine stp hm 1 (?_ : sxWP sc cl Q 88 (65, [some (.ref 57), some (.long v1), none], [.long (0:Int64)], (wF im nrg nld nmt nps npl npw npr nss nso nsq nes neo neq ngs ngo ngq krg kld kmt kps kpl kpw kpr kss kso ksq kes keo keq kgs kgo kgq okn org osi oti ole oto oow oco ost owa owv owh olo ohi ora odi oqu skd sdp sfd sop str spr rsz rcl rsg rst mrg mkr mik msz gle gsu tat tfa cco cct cac caf cwe ms mkp mtx mso mmy mit gma gpi gst ghe gow gfa gqu glo ghi gby gib tto cfo cff ccl tp T), 0, 0))
      exact m2 _ (by rw [if_pos c3])
    · have c3 : ¬ v1 = (0:Int64) := c3
      refine stp hm 2 (?_ : sxWP sc cl Q 88 (65, [some (.ref 57), some (.long v1), none], [.long (1:Int64)], (wF im nrg nld nmt nps npl npw npr nss nso nsq nes neo neq ngs ngo ngq krg kld kmt kps kpl kpw kpr kss kso ksq kes keo keq kgs kgo kgq okn org osi oti ole oto oow oco ost owa owv owh olo ohi ora odi oqu skd sdp sfd sop str spr rsz rcl rsg rst mrg mkr mik msz gle gsu tat tfa cco cct cac caf cwe ms mkp mtx mso mmy mit gma gpi gst ghe gow gfa gqu glo ghi gby gib tto cfo cff ccl tp T), 0, 0))
      exact m2 _ (by rw [if_neg c3])
  have tc1_0 : ¬ ((tp 5).1).toInt = 0 := fun e => c1_0 (Int32.toInt_inj.mp e)
  have tc1_1 : ¬ ((tp 5).1).toInt = 1 := fun e => c1_1 (Int32.toInt_inj.mp e)
  have tc1_2 : ¬ ((tp 5).1).toInt = 2 := fun e => c1_2 (Int32.toInt_inj.mp e)
  have tc1_3 : ¬ ((tp 5).1).toInt = 3 := fun e => c1_3 (Int32.toInt_inj.mp e)
  have tc1_4 : ¬ ((tp 5).1).toInt = 4 := fun e => c1_4 (Int32.toInt_inj.mp e)
  rw [show swT ((tp 5).1).toInt (0) [40, 45, 50, 66, 54] 66 = 66 by simp [swT, tc1_0, tc1_1, tc1_2, tc1_3, tc1_4]]
  exact J66 _ _ hf
set_option maxRecDepth 10000 in
theorem T_put_6_ok {v1 : Int32} {v2 : Int64} {q : (Nat → Int64)} (hc : call = sxE sc (d + 2)) (hf : T_put v1 v2 ((tp 5).1) ((tp 5).2.1) ((tp 5).2.2) = some q) (h : Q none (wF im nrg nld nmt nps npl npw npr nss nso nsq nes neo neq ngs ngo ngq krg kld kmt kps kpl kpw kpr kss kso ksq kes keo keq kgs kgo kgq okn org osi oti ole oto oow oco ost owa owv owh olo ohi ora odi oqu skd sdp sfd sop str spr rsz rcl rsg rst mrg mkr mik msz gle gsu tat tfa cco cct cac caf cwe ms mkp mtx mso mmy mit gma gpi gst ghe gow gfa gqu glo ghi gby gib tto cfo cff ccl (tpU tp 5 ((tp 5).1, (tp 5).2.1, q)) T)) : call 87 [.ref 57, .int v1, .long v2] (wF im nrg nld nmt nps npl npw npr nss nso nsq nes neo neq ngs ngo ngq krg kld kmt kps kpl kpw kpr kss kso ksq kes keo keq kgs kgo kgq okn org osi oti ole oto oow oco ost owa owv owh olo ohi ora odi oqu skd sdp sfd sop str spr rsz rcl rsg rst mrg mkr mik msz gle gsu tat tfa cco cct cac caf cwe ms mkp mtx mso mmy mit gma gpi gst ghe gow gfa gqu glo ghi gby gib tto cfo cff ccl tp T) Q := by
  refine ent hc rfl (fun cl hE hm => ?_)
  have J19 : ∀ (tp5i_j : (Nat → Int64)) (z0 : Option Value) (z1 : Option Value) (z2 : Option Value) (z3 : Option Value), T_put_j19 tp5i_j = some q → sxWP sc cl Q 87 (19, [z0, z1, z2, z3], [], (wF im nrg nld nmt nps npl npw npr nss nso nsq nes neo neq ngs ngo ngq krg kld kmt kps kpl kpw kpr kss kso ksq kes keo keq kgs kgo kgq okn org osi oti ole oto oow oco ost owa owv owh olo ohi ora odi oqu skd sdp sfd sop str spr rsz rcl rsg rst mrg mkr mik msz gle gsu tat tfa cco cct cac caf cwe ms mkp mtx mso mmy mit gma gpi gst ghe gow gfa gqu glo ghi gby gib tto cfo cff ccl (tpU tp 5 ((tp 5).1, (tp 5).2.1, tp5i_j)) T), 0, 0) := by
    intro tp5i_j z0 z1 z2 z3 hf
    unfold T_put_j19 at hf
    obtain rfl := Option.some.inj hf
    refine stp hm 1 ?_
    exact h
  unfold T_put at hf
  refine stp hm 3 (T_hasPlace_6_ok hE rfl ?_)
  show sxWP sc cl Q 87 (5, [some (.ref 57), some (.int v1), some (.long v2), none], [.int (T_hasPlace v1 (tp 5).2.1)], (wF im nrg nld nmt nps npl npw npr nss nso nsq nes neo neq ngs ngo ngq krg kld kmt kps kpl kpw kpr kss kso ksq kes keo keq kgs kgo kgq okn org osi oti ole oto oow oco ost owa owv owh olo ohi ora odi oqu skd sdp sfd sop str spr rsz rcl rsg rst mrg mkr mik msz gle gsu tat tfa cco cct cac caf cwe ms mkp mtx mso mmy mit gma gpi gst ghe gow gfa gqu glo ghi gby gib tto cfo cff ccl tp T), 0, 0)
  refine stp hm 1 (br hf (fun c1 hf => ?_) (fun c1 hf => ?_))
  · show sxWP sc cl Q 87 (19, [some (.ref 57), some (.int v1), some (.long v2), none], [], (wF im nrg nld nmt nps npl npw npr nss nso nsq nes neo neq ngs ngo ngq krg kld kmt kps kpl kpw kpr kss kso ksq kes keo keq kgs kgo kgq okn org osi oti ole oto oow oco ost owa owv owh olo ohi ora odi oqu skd sdp sfd sop str spr rsz rcl rsg rst mrg mkr mik msz gle gsu tat tfa cco cct cac caf cwe ms mkp mtx mso mmy mit gma gpi gst ghe gow gfa gqu glo ghi gby gib tto cfo cff ccl tp T), 0, 0)
    exact J19 _ _ _ _ _ hf
  · show sxWP sc cl Q 87 (8, [some (.ref 57), some (.int v1), some (.long v2), none], [], (wF im nrg nld nmt nps npl npw npr nss nso nsq nes neo neq ngs ngo ngq krg kld kmt kps kpl kpw kpr kss kso ksq kes keo keq kgs kgo kgq okn org osi oti ole oto oow oco ost owa owv owh olo ohi ora odi oqu skd sdp sfd sop str spr rsz rcl rsg rst mrg mkr mik msz gle gsu tat tfa cco cct cac caf cwe ms mkp mtx mso mmy mit gma gpi gst ghe gow gfa gqu glo ghi gby gib tto cfo cff ccl tp T), 0, 0)
    refine stp hm 6 (T_narrowed_6_ok hE rfl ?_)
    show sxWP sc cl Q 87 (18, [some (.ref 57), some (.int v1), some (.long v2), none], [.long (T_narrowed v2 (tp 5).1), .int v1, .ref 58], (wF im nrg nld nmt nps npl npw npr nss nso nsq nes neo neq ngs ngo ngq krg kld kmt kps kpl kpw kpr kss kso ksq kes keo keq kgs kgo kgq okn org osi oti ole oto oow oco ost owa owv owh olo ohi ora odi oqu skd sdp sfd sop str spr rsz rcl rsg rst mrg mkr mik msz gle gsu tat tfa cco cct cac caf cwe ms mkp mtx mso mmy mit gma gpi gst ghe gow gfa gqu glo ghi gby gib tto cfo cff ccl tp T), 0, 0)
    obtain ⟨g2, hf⟩ := grd_e hf
    refine stp hm 1 (And.intro (gi_in g2) (?_ : sxWP sc cl Q 87 (19, [some (.ref 57), some (.int v1), some (.long v2), none], [], (wF im nrg nld nmt nps npl npw npr nss nso nsq nes neo neq ngs ngo ngq krg kld kmt kps kpl kpw kpr kss kso ksq kes keo keq kgs kgo kgq okn org osi oti ole oto oow oco ost owa owv owh olo ohi ora odi oqu skd sdp sfd sop str spr rsz rcl rsg rst mrg mkr mik msz gle gsu tat tfa cco cct cac caf cwe ms mkp mtx mso mmy mit gma gpi gst ghe gow gfa gqu glo ghi gby gib tto cfo cff ccl (tpU tp 5 ((tp 5).1, (tp 5).2.1, vp_updL (tp 5).2.2 v1.toNatClampNeg (T_narrowed v2 (tp 5).1))) T), 0, 0)))
    exact J19 _ _ _ _ _ hf
set_option maxRecDepth 10000 in
theorem X_item_7_ok {v2 : Int32} {v3 : Int64} {q : (Int32 × (Nat → Int64))} (hc : call = sxE sc (d + 3)) (hf : X_item_2 (5:Int32) v2 v3 ((tp 5).1) ((tp 5).2.1) ((tp 5).2.2) = some q) (h : Q (some (.int q.1)) (wF im nrg nld nmt nps npl npw npr nss nso nsq nes neo neq ngs ngo ngq krg kld kmt kps kpl kpw kpr kss kso ksq kes keo keq kgs kgo kgq okn org osi oti ole oto oow oco ost owa owv owh olo ohi ora odi oqu skd sdp sfd sop str spr rsz rcl rsg rst mrg mkr mik msz gle gsu tat tfa cco cct cac caf cwe ms mkp mtx mso mmy mit gma gpi gst ghe gow gfa gqu glo ghi gby gib tto cfo cff ccl (tpU tp 5 ((tp 5).1, (tp 5).2.1, q.2)) T)) : call 132 [.ref 0, .int (5:Int32), .int v2, .long v3] (wF im nrg nld nmt nps npl npw npr nss nso nsq nes neo neq ngs ngo ngq krg kld kmt kps kpl kpw kpr kss kso ksq kes keo keq kgs kgo kgq okn org osi oti ole oto oow oco ost owa owv owh olo ohi ora odi oqu skd sdp sfd sop str spr rsz rcl rsg rst mrg mkr mik msz gle gsu tat tfa cco cct cac caf cwe ms mkp mtx mso mmy mit gma gpi gst ghe gow gfa gqu glo ghi gby gib tto cfo cff ccl tp T) Q := by
  refine ent hc rfl (fun cl hE hm => ?_)
  unfold X_item_2 at hf
  refine stp hm 2 (X_isTape_ok hE rfl ?_)
  show sxWP sc cl Q 132 (4, [some (.ref 0), some (.int (5:Int32)), some (.int v2), some (.long v3), none], [.int (X_isTape (5:Int32))], (wF im nrg nld nmt nps npl npw npr nss nso nsq nes neo neq ngs ngo ngq krg kld kmt kps kpl kpw kpr kss kso ksq kes keo keq kgs kgo kgq okn org osi oti ole oto oow oco ost owa owv owh olo ohi ora odi oqu skd sdp sfd sop str spr rsz rcl rsg rst mrg mkr mik msz gle gsu tat tfa cco cct cac caf cwe ms mkp mtx mso mmy mit gma gpi gst ghe gow gfa gqu glo ghi gby gib tto cfo cff ccl tp T), 0, 0)
  refine stp hm 1 (brn hf (fun c1 hf => ?_) (fun c1 hf => ?_))
  · show sxWP sc cl Q 132 (9, [some (.ref 0), some (.int (5:Int32)), some (.int v2), some (.long v3), none], [], (wF im nrg nld nmt nps npl npw npr nss nso nsq nes neo neq ngs ngo ngq krg kld kmt kps kpl kpw kpr kss kso ksq kes keo keq kgs kgo kgq okn org osi oti ole oto oow oco ost owa owv owh olo ohi ora odi oqu skd sdp sfd sop str spr rsz rcl rsg rst mrg mkr mik msz gle gsu tat tfa cco cct cac caf cwe ms mkp mtx mso mmy mit gma gpi gst ghe gow gfa gqu glo ghi gby gib tto cfo cff ccl tp T), 0, 0)
    refine stp hm 4 (And.intro (gi_in (by decide)) (?_ : sxWP sc cl Q 132 (15, [some (.ref 0), some (.int (5:Int32)), some (.int v2), some (.long v3), none], [.ref 57], (wF im nrg nld nmt nps npl npw npr nss nso nsq nes neo neq ngs ngo ngq krg kld kmt kps kpl kpw kpr kss kso ksq kes keo keq kgs kgo kgq okn org osi oti ole oto oow oco ost owa owv owh olo ohi ora odi oqu skd sdp sfd sop str spr rsz rcl rsg rst mrg mkr mik msz gle gsu tat tfa cco cct cac caf cwe ms mkp mtx mso mmy mit gma gpi gst ghe gow gfa gqu glo ghi gby gib tto cfo cff ccl tp T), 0, 0)))
    refine stp hm 3 (brn hf (fun c2 hf => ?_) (fun c2 hf => ?_))
    · show sxWP sc cl Q 132 (25, [some (.ref 0), some (.int (5:Int32)), some (.int v2), some (.long v3), none], [], (wF im nrg nld nmt nps npl npw npr nss nso nsq nes neo neq ngs ngo ngq krg kld kmt kps kpl kpw kpr kss kso ksq kes keo keq kgs kgo kgq okn org osi oti ole oto oow oco ost owa owv owh olo ohi ora odi oqu skd sdp sfd sop str spr rsz rcl rsg rst mrg mkr mik msz gle gsu tat tfa cco cct cac caf cwe ms mkp mtx mso mmy mit gma gpi gst ghe gow gfa gqu glo ghi gby gib tto cfo cff ccl tp T), 0, 0)
      refine stp hm 4 (And.intro (gi_in (by decide)) (?_ : sxWP sc cl Q 132 (31, [some (.ref 0), some (.int (5:Int32)), some (.int v2), some (.long v3), none], [.ref 57], (wF im nrg nld nmt nps npl npw npr nss nso nsq nes neo neq ngs ngo ngq krg kld kmt kps kpl kpw kpr kss kso ksq kes keo keq kgs kgo kgq okn org osi oti ole oto oow oco ost owa owv owh olo ohi ora odi oqu skd sdp sfd sop str spr rsz rcl rsg rst mrg mkr mik msz gle gsu tat tfa cco cct cac caf cwe ms mkp mtx mso mmy mit gma gpi gst ghe gow gfa gqu glo ghi gby gib tto cfo cff ccl tp T), 0, 0)))
      refine stp hm 2 (T_hasPlace_6_ok hE rfl ?_)
      show sxWP sc cl Q 132 (35, [some (.ref 0), some (.int (5:Int32)), some (.int v2), some (.long v3), none], [.int (T_hasPlace v2 (tp 5).2.1)], (wF im nrg nld nmt nps npl npw npr nss nso nsq nes neo neq ngs ngo ngq krg kld kmt kps kpl kpw kpr kss kso ksq kes keo keq kgs kgo kgq okn org osi oti ole oto oow oco ost owa owv owh olo ohi ora odi oqu skd sdp sfd sop str spr rsz rcl rsg rst mrg mkr mik msz gle gsu tat tfa cco cct cac caf cwe ms mkp mtx mso mmy mit gma gpi gst ghe gow gfa gqu glo ghi gby gib tto cfo cff ccl tp T), 0, 0)
      refine stp hm 1 (brn hf (fun c3 hf => ?_) (fun c3 hf => ?_))
      · show sxWP sc cl Q 132 (41, [some (.ref 0), some (.int (5:Int32)), some (.int v2), some (.long v3), none], [], (wF im nrg nld nmt nps npl npw npr nss nso nsq nes neo neq ngs ngo ngq krg kld kmt kps kpl kpw kpr kss kso ksq kes keo keq kgs kgo kgq okn org osi oti ole oto oow oco ost owa owv owh olo ohi ora odi oqu skd sdp sfd sop str spr rsz rcl rsg rst mrg mkr mik msz gle gsu tat tfa cco cct cac caf cwe ms mkp mtx mso mmy mit gma gpi gst ghe gow gfa gqu glo ghi gby gib tto cfo cff ccl tp T), 0, 0)
        refine stp hm 4 (And.intro (gi_in (by decide)) (?_ : sxWP sc cl Q 132 (47, [some (.ref 0), some (.int (5:Int32)), some (.int v2), some (.long v3), none], [.ref 57], (wF im nrg nld nmt nps npl npw npr nss nso nsq nes neo neq ngs ngo ngq krg kld kmt kps kpl kpw kpr kss kso ksq kes keo keq kgs kgo kgq okn org osi oti ole oto oow oco ost owa owv owh olo ohi ora odi oqu skd sdp sfd sop str spr rsz rcl rsg rst mrg mkr mik msz gle gsu tat tfa cco cct cac caf cwe ms mkp mtx mso mmy mit gma gpi gst ghe gow gfa gqu glo ghi gby gib tto cfo cff ccl tp T), 0, 0)))
        obtain ⟨q4, hq4, hf⟩ := bnd hf
        refine stp hm 3 (T_put_6_ok (q := q4) hE (by exact hq4) ?_)
        show sxWP sc cl Q 132 (52, [some (.ref 0), some (.int (5:Int32)), some (.int v2), some (.long v3), none], [], (wF im nrg nld nmt nps npl npw npr nss nso nsq nes neo neq ngs ngo ngq krg kld kmt kps kpl kpw kpr kss kso ksq kes keo keq kgs kgo kgq okn org osi oti ole oto oow oco ost owa owv owh olo ohi ora odi oqu skd sdp sfd sop str spr rsz rcl rsg rst mrg mkr mik msz gle gsu tat tfa cco cct cac caf cwe ms mkp mtx mso mmy mit gma gpi gst ghe gow gfa gqu glo ghi gby gib tto cfo cff ccl (tpU tp 5 ((tp 5).1, (tp 5).2.1, q4)) T), 0, 0)
        obtain rfl := Option.some.inj hf
        refine stp hm 2 ?_
        exact h
      · show sxWP sc cl Q 132 (38, [some (.ref 0), some (.int (5:Int32)), some (.int v2), some (.long v3), none], [], (wF im nrg nld nmt nps npl npw npr nss nso nsq nes neo neq ngs ngo ngq krg kld kmt kps kpl kpw kpr kss kso ksq kes keo keq kgs kgo kgq okn org osi oti ole oto oow oco ost owa owv owh olo ohi ora odi oqu skd sdp sfd sop str spr rsz rcl rsg rst mrg mkr mik msz gle gsu tat tfa cco cct cac caf cwe ms mkp mtx mso mmy mit gma gpi gst ghe gow gfa gqu glo ghi gby gib tto cfo cff ccl tp T), 0, 0)
        obtain rfl := Option.some.inj hf
        refine stp hm 2 ?_
        exact h
    · show sxWP sc cl Q 132 (22, [some (.ref 0), some (.int (5:Int32)), some (.int v2), some (.long v3), none], [], (wF im nrg nld nmt nps npl npw npr nss nso nsq nes neo neq ngs ngo ngq krg kld kmt kps kpl kpw kpr kss kso ksq kes keo keq kgs kgo kgq okn org osi oti ole oto oow oco ost owa owv owh olo ohi ora odi oqu skd sdp sfd sop str spr rsz rcl rsg rst mrg mkr mik msz gle gsu tat tfa cco cct cac caf cwe ms mkp mtx mso mmy mit gma gpi gst ghe gow gfa gqu glo ghi gby gib tto cfo cff ccl tp T), 0, 0)
      obtain rfl := Option.some.inj hf
      refine stp hm 2 ?_
      exact h
  · show sxWP sc cl Q 132 (7, [some (.ref 0), some (.int (5:Int32)), some (.int v2), some (.long v3), none], [], (wF im nrg nld nmt nps npl npw npr nss nso nsq nes neo neq ngs ngo ngq krg kld kmt kps kpl kpw kpr kss kso ksq kes keo keq kgs kgo kgq okn org osi oti ole oto oow oco ost owa owv owh olo ohi ora odi oqu skd sdp sfd sop str spr rsz rcl rsg rst mrg mkr mik msz gle gsu tat tfa cco cct cac caf cwe ms mkp mtx mso mmy mit gma gpi gst ghe gow gfa gqu glo ghi gby gib tto cfo cff ccl tp T), 0, 0)
    obtain rfl := Option.some.inj hf
    refine stp hm 2 ?_
    exact h
def M_lowest (v0 : Int32) (v1 : Int64)  : Int64 := if v0 = (0:Int32) then v1.toInt32.toInt8.toInt32.toInt64 else (if v0 = (1:Int32) then v1.toInt32.toInt16.toInt32.toInt64 else (if v0 = (2:Int32) then v1.toInt32.toInt64 else (if v0 = (3:Int32) then v1 else (if v1 = (0:Int64) then (0:Int64) else (1:Int64)))))
set_option maxRecDepth 10000 in
theorem M_lowest_ok {v0 : Int32} {v1 : Int64} {r : Int64} (hc : call = sxE sc (d + 1)) (hf : M_lowest v0 v1 = r) (h : Q (some (.long r)) hp) : call 238 [.int v0, .long v1] hp Q := by
  refine ent hc rfl (fun cl hE hm => ?_)
  unfold M_lowest at hf
  refine stp hm 2 ?_
  show sxWP sc cl Q 238 ((swT (v0).toInt (0) [32, 37, 42, 46] 48), [some (.int v0), some (.long v1), none], [], hp, 0, 0)
  rcases ite_or hf with ⟨c1_0, hf⟩ | ⟨c1_0, hf⟩
  · rw [show swT (v0).toInt (0) [32, 37, 42, 46] 48 = 32 by rw [c1_0]; rfl]
    subst hf
    refine stp hm 5 ?_
    exact h
  rcases ite_or hf with ⟨c1_1, hf⟩ | ⟨c1_1, hf⟩
  · rw [show swT (v0).toInt (0) [32, 37, 42, 46] 48 = 37 by rw [c1_1]; rfl]
    subst hf
    refine stp hm 5 ?_
    exact h
  rcases ite_or hf with ⟨c1_2, hf⟩ | ⟨c1_2, hf⟩
  · rw [show swT (v0).toInt (0) [32, 37, 42, 46] 48 = 42 by rw [c1_2]; rfl]
    subst hf
    refine stp hm 4 ?_
    exact h
  rcases ite_or hf with ⟨c1_3, hf⟩ | ⟨c1_3, hf⟩
  · rw [show swT (v0).toInt (0) [32, 37, 42, 46] 48 = 46 by rw [c1_3]; rfl]
    subst hf
    refine stp hm 2 ?_
    exact h
  have tc1_0 : ¬ (v0).toInt = 0 := fun e => c1_0 (Int32.toInt_inj.mp e)
  have tc1_1 : ¬ (v0).toInt = 1 := fun e => c1_1 (Int32.toInt_inj.mp e)
  have tc1_2 : ¬ (v0).toInt = 2 := fun e => c1_2 (Int32.toInt_inj.mp e)
  have tc1_3 : ¬ (v0).toInt = 3 := fun e => c1_3 (Int32.toInt_inj.mp e)
  rw [show swT (v0).toInt (0) [32, 37, 42, 46] 48 = 48 by simp [swT, tc1_0, tc1_1, tc1_2, tc1_3]]
  have m2 : ∀ (m2_0 : Int64), m2_0 = (if v1 = (0:Int64) then (0:Int64) else (1:Int64)) → sxWP sc cl Q 238 (59, [some (.int v0), some (.long v1), none], [.long m2_0], hp, 0, 0) := by
    intro m2_0 em2_0
    subst em2_0
    subst hf
    refine stp hm 1 ?_
    exact h
  refine stp hm 4 (bsI (lg_cmp_eq _ _) (fun c3 => ?_) (fun c3 => ?_))
  · have c3 : v1 = (0:Int64) := c3
    refine stp hm 1 (?_ : sxWP sc cl Q 238 (59, [some (.int v0), some (.long v1), none], [.long (0:Int64)], hp, 0, 0))
    exact m2 _ (by rw [if_pos c3])
  · have c3 : ¬ v1 = (0:Int64) := c3
    refine stp hm 2 (?_ : sxWP sc cl Q 238 (59, [some (.int v0), some (.long v1), none], [.long (1:Int64)], hp, 0, 0))
    exact m2 _ (by rw [if_neg c3])
def M_item (v1 : Int32) (v2 : Int32) (v3 : Int64) (mso : (Nat → Int32)) (mmy : (Nat → Int32)) (mit : (Nat → Int64)) : Option (Int32 × (Nat → Int64)) := if (M_isTape v1) = (0:Int32) then (some ((-1:Int32), mit)) else (grd (gi v1 6) (if (mso v1.toNatClampNeg) = (-1:Int32) then (some ((-11:Int32), mit)) else (grd (gi v1 6) (if (M_isIn v2 (0:Int32) ((mmy v1.toNatClampNeg) - (1:Int32))) = (0:Int32) then (some ((-13:Int32), mit)) else (grd (gi v1 6) (grd (gi (((60:Int32) * v1) + v2) 360) (some ((1:Int32), vp_updL mit (((60:Int32) * v1) + v2).toNatClampNeg (M_lowest (mso v1.toNatClampNeg) v3)))))))))
set_option maxRecDepth 10000 in
theorem M_item_ok {v1 : Int32} {v2 : Int32} {v3 : Int64} {q : (Int32 × (Nat → Int64))} (hc : call = sxE sc (d + 3)) (hf : M_item v1 v2 v3 mso mmy mit = some q) (h : Q (some (.int q.1)) (wF im nrg nld nmt nps npl npw npr nss nso nsq nes neo neq ngs ngo ngq krg kld kmt kps kpl kpw kpr kss kso ksq kes keo keq kgs kgo kgq okn org osi oti ole oto oow oco ost owa owv owh olo ohi ora odi oqu skd sdp sfd sop str spr rsz rcl rsg rst mrg mkr mik msz gle gsu tat tfa cco cct cac caf cwe ms mkp mtx mso mmy q.2 gma gpi gst ghe gow gfa gqu glo ghi gby gib tto cfo cff ccl tp T)) : call 239 [.ref 59, .int v1, .int v2, .long v3] (wF im nrg nld nmt nps npl npw npr nss nso nsq nes neo neq ngs ngo ngq krg kld kmt kps kpl kpw kpr kss kso ksq kes keo keq kgs kgo kgq okn org osi oti ole oto oow oco ost owa owv owh olo ohi ora odi oqu skd sdp sfd sop str spr rsz rcl rsg rst mrg mkr mik msz gle gsu tat tfa cco cct cac caf cwe ms mkp mtx mso mmy mit gma gpi gst ghe gow gfa gqu glo ghi gby gib tto cfo cff ccl tp T) Q := by
  refine ent hc rfl (fun cl hE hm => ?_)
  unfold M_item at hf
  refine stp hm 2 (M_isTape_ok hE rfl ?_)
  show sxWP sc cl Q 239 (4, [some (.ref 59), some (.int v1), some (.int v2), some (.long v3), none], [.int (M_isTape v1)], (wF im nrg nld nmt nps npl npw npr nss nso nsq nes neo neq ngs ngo ngq krg kld kmt kps kpl kpw kpr kss kso ksq kes keo keq kgs kgo kgq okn org osi oti ole oto oow oco ost owa owv owh olo ohi ora odi oqu skd sdp sfd sop str spr rsz rcl rsg rst mrg mkr mik msz gle gsu tat tfa cco cct cac caf cwe ms mkp mtx mso mmy mit gma gpi gst ghe gow gfa gqu glo ghi gby gib tto cfo cff ccl tp T), 0, 0)
  refine stp hm 1 (brn hf (fun c1 hf => ?_) (fun c1 hf => ?_))
  · show sxWP sc cl Q 239 (9, [some (.ref 59), some (.int v1), some (.int v2), some (.long v3), none], [], (wF im nrg nld nmt nps npl npw npr nss nso nsq nes neo neq ngs ngo ngq krg kld kmt kps kpl kpw kpr kss kso ksq kes keo keq kgs kgo kgq okn org osi oti ole oto oow oco ost owa owv owh olo ohi ora odi oqu skd sdp sfd sop str spr rsz rcl rsg rst mrg mkr mik msz gle gsu tat tfa cco cct cac caf cwe ms mkp mtx mso mmy mit gma gpi gst ghe gow gfa gqu glo ghi gby gib tto cfo cff ccl tp T), 0, 0)
    obtain ⟨g2, hf⟩ := grd_e hf
    refine stp hm 4 (And.intro (gi_in g2) (?_ : sxWP sc cl Q 239 (15, [some (.ref 59), some (.int v1), some (.int v2), some (.long v3), none], [.int (mso v1.toNatClampNeg)], (wF im nrg nld nmt nps npl npw npr nss nso nsq nes neo neq ngs ngo ngq krg kld kmt kps kpl kpw kpr kss kso ksq kes keo keq kgs kgo kgq okn org osi oti ole oto oow oco ost owa owv owh olo ohi ora odi oqu skd sdp sfd sop str spr rsz rcl rsg rst mrg mkr mik msz gle gsu tat tfa cco cct cac caf cwe ms mkp mtx mso mmy mit gma gpi gst ghe gow gfa gqu glo ghi gby gib tto cfo cff ccl tp T), 0, 0)))
    refine stp hm 2 (brn hf (fun c3 hf => ?_) (fun c3 hf => ?_))
    · show sxWP sc cl Q 239 (22, [some (.ref 59), some (.int v1), some (.int v2), some (.long v3), none], [], (wF im nrg nld nmt nps npl npw npr nss nso nsq nes neo neq ngs ngo ngq krg kld kmt kps kpl kpw kpr kss kso ksq kes keo keq kgs kgo kgq okn org osi oti ole oto oow oco ost owa owv owh olo ohi ora odi oqu skd sdp sfd sop str spr rsz rcl rsg rst mrg mkr mik msz gle gsu tat tfa cco cct cac caf cwe ms mkp mtx mso mmy mit gma gpi gst ghe gow gfa gqu glo ghi gby gib tto cfo cff ccl tp T), 0, 0)
      obtain ⟨g4, hf⟩ := grd_e hf
      refine stp hm 6 (And.intro (gi_in g4) (?_ : sxWP sc cl Q 239 (30, [some (.ref 59), some (.int v1), some (.int v2), some (.long v3), none], [.int (mmy v1.toNatClampNeg), .int (0:Int32), .int v2], (wF im nrg nld nmt nps npl npw npr nss nso nsq nes neo neq ngs ngo ngq krg kld kmt kps kpl kpw kpr kss kso ksq kes keo keq kgs kgo kgq okn org osi oti ole oto oow oco ost owa owv owh olo ohi ora odi oqu skd sdp sfd sop str spr rsz rcl rsg rst mrg mkr mik msz gle gsu tat tfa cco cct cac caf cwe ms mkp mtx mso mmy mit gma gpi gst ghe gow gfa gqu glo ghi gby gib tto cfo cff ccl tp T), 0, 0)))
      refine stp hm 3 (M_isIn_ok hE rfl ?_)
      show sxWP sc cl Q 239 (35, [some (.ref 59), some (.int v1), some (.int v2), some (.long v3), none], [.int (M_isIn v2 (0:Int32) ((mmy v1.toNatClampNeg) - (1:Int32)))], (wF im nrg nld nmt nps npl npw npr nss nso nsq nes neo neq ngs ngo ngq krg kld kmt kps kpl kpw kpr kss kso ksq kes keo keq kgs kgo kgq okn org osi oti ole oto oow oco ost owa owv owh olo ohi ora odi oqu skd sdp sfd sop str spr rsz rcl rsg rst mrg mkr mik msz gle gsu tat tfa cco cct cac caf cwe ms mkp mtx mso mmy mit gma gpi gst ghe gow gfa gqu glo ghi gby gib tto cfo cff ccl tp T), 0, 0)
      refine stp hm 1 (brn hf (fun c5 hf => ?_) (fun c5 hf => ?_))
      · show sxWP sc cl Q 239 (41, [some (.ref 59), some (.int v1), some (.int v2), some (.long v3), none], [], (wF im nrg nld nmt nps npl npw npr nss nso nsq nes neo neq ngs ngo ngq krg kld kmt kps kpl kpw kpr kss kso ksq kes keo keq kgs kgo kgq okn org osi oti ole oto oow oco ost owa owv owh olo ohi ora odi oqu skd sdp sfd sop str spr rsz rcl rsg rst mrg mkr mik msz gle gsu tat tfa cco cct cac caf cwe ms mkp mtx mso mmy mit gma gpi gst ghe gow gfa gqu glo ghi gby gib tto cfo cff ccl tp T), 0, 0)
        obtain ⟨g6, hf⟩ := grd_e hf
        refine stp hm 11 (And.intro (gi_in g6) (?_ : sxWP sc cl Q 239 (57, [some (.ref 59), some (.int v1), some (.int v2), some (.long v3), none], [.int (mso v1.toNatClampNeg), .int (((60:Int32) * v1) + v2), .ref 65], (wF im nrg nld nmt nps npl npw npr nss nso nsq nes neo neq ngs ngo ngq krg kld kmt kps kpl kpw kpr kss kso ksq kes keo keq kgs kgo kgq okn org osi oti ole oto oow oco ost owa owv owh olo ohi ora odi oqu skd sdp sfd sop str spr rsz rcl rsg rst mrg mkr mik msz gle gsu tat tfa cco cct cac caf cwe ms mkp mtx mso mmy mit gma gpi gst ghe gow gfa gqu glo ghi gby gib tto cfo cff ccl tp T), 0, 0)))
        refine stp hm 2 (M_lowest_ok hE rfl ?_)
        show sxWP sc cl Q 239 (61, [some (.ref 59), some (.int v1), some (.int v2), some (.long v3), none], [.long (M_lowest (mso v1.toNatClampNeg) v3), .int (((60:Int32) * v1) + v2), .ref 65], (wF im nrg nld nmt nps npl npw npr nss nso nsq nes neo neq ngs ngo ngq krg kld kmt kps kpl kpw kpr kss kso ksq kes keo keq kgs kgo kgq okn org osi oti ole oto oow oco ost owa owv owh olo ohi ora odi oqu skd sdp sfd sop str spr rsz rcl rsg rst mrg mkr mik msz gle gsu tat tfa cco cct cac caf cwe ms mkp mtx mso mmy mit gma gpi gst ghe gow gfa gqu glo ghi gby gib tto cfo cff ccl tp T), 0, 0)
        obtain ⟨g7, hf⟩ := grd_e hf
        refine stp hm 1 (And.intro (gi_in g7) (?_ : sxWP sc cl Q 239 (62, [some (.ref 59), some (.int v1), some (.int v2), some (.long v3), none], [], (wF im nrg nld nmt nps npl npw npr nss nso nsq nes neo neq ngs ngo ngq krg kld kmt kps kpl kpw kpr kss kso ksq kes keo keq kgs kgo kgq okn org osi oti ole oto oow oco ost owa owv owh olo ohi ora odi oqu skd sdp sfd sop str spr rsz rcl rsg rst mrg mkr mik msz gle gsu tat tfa cco cct cac caf cwe ms mkp mtx mso mmy (vp_updL mit (((60:Int32) * v1) + v2).toNatClampNeg (M_lowest (mso v1.toNatClampNeg) v3)) gma gpi gst ghe gow gfa gqu glo ghi gby gib tto cfo cff ccl tp T), 0, 0)))
        obtain rfl := Option.some.inj hf
        refine stp hm 2 ?_
        exact h
      · show sxWP sc cl Q 239 (38, [some (.ref 59), some (.int v1), some (.int v2), some (.long v3), none], [], (wF im nrg nld nmt nps npl npw npr nss nso nsq nes neo neq ngs ngo ngq krg kld kmt kps kpl kpw kpr kss kso ksq kes keo keq kgs kgo kgq okn org osi oti ole oto oow oco ost owa owv owh olo ohi ora odi oqu skd sdp sfd sop str spr rsz rcl rsg rst mrg mkr mik msz gle gsu tat tfa cco cct cac caf cwe ms mkp mtx mso mmy mit gma gpi gst ghe gow gfa gqu glo ghi gby gib tto cfo cff ccl tp T), 0, 0)
        obtain rfl := Option.some.inj hf
        refine stp hm 2 ?_
        exact h
    · show sxWP sc cl Q 239 (19, [some (.ref 59), some (.int v1), some (.int v2), some (.long v3), none], [], (wF im nrg nld nmt nps npl npw npr nss nso nsq nes neo neq ngs ngo ngq krg kld kmt kps kpl kpw kpr kss kso ksq kes keo keq kgs kgo kgq okn org osi oti ole oto oow oco ost owa owv owh olo ohi ora odi oqu skd sdp sfd sop str spr rsz rcl rsg rst mrg mkr mik msz gle gsu tat tfa cco cct cac caf cwe ms mkp mtx mso mmy mit gma gpi gst ghe gow gfa gqu glo ghi gby gib tto cfo cff ccl tp T), 0, 0)
      obtain rfl := Option.some.inj hf
      refine stp hm 2 ?_
      exact h
  · show sxWP sc cl Q 239 (7, [some (.ref 59), some (.int v1), some (.int v2), some (.long v3), none], [], (wF im nrg nld nmt nps npl npw npr nss nso nsq nes neo neq ngs ngo ngq krg kld kmt kps kpl kpw kpr kss kso ksq kes keo keq kgs kgo kgq okn org osi oti ole oto oow oco ost owa owv owh olo ohi ora odi oqu skd sdp sfd sop str spr rsz rcl rsg rst mrg mkr mik msz gle gsu tat tfa cco cct cac caf cwe ms mkp mtx mso mmy mit gma gpi gst ghe gow gfa gqu glo ghi gby gib tto cfo cff ccl tp T), 0, 0)
    obtain rfl := Option.some.inj hf
    refine stp hm 2 ?_
    exact h
def X_peek (v1 : Int32) (v2 : Int32)  : Option Int64 := if (X_isTape v1) = (0:Int32) then (some (-9223372036854775808:Int64)) else none
set_option maxRecDepth 10000 in
theorem X_peek_ok {v1 : Int32} {v2 : Int32} {q : Int64} (hc : call = sxE sc (d + 2)) (hf : X_peek v1 v2 = some q) (h : Q (some (.long q)) (wF im nrg nld nmt nps npl npw npr nss nso nsq nes neo neq ngs ngo ngq krg kld kmt kps kpl kpw kpr kss kso ksq kes keo keq kgs kgo kgq okn org osi oti ole oto oow oco ost owa owv owh olo ohi ora odi oqu skd sdp sfd sop str spr rsz rcl rsg rst mrg mkr mik msz gle gsu tat tfa cco cct cac caf cwe ms mkp mtx mso mmy mit gma gpi gst ghe gow gfa gqu glo ghi gby gib tto cfo cff ccl tp T)) : call 133 [.ref 0, .int v1, .int v2] (wF im nrg nld nmt nps npl npw npr nss nso nsq nes neo neq ngs ngo ngq krg kld kmt kps kpl kpw kpr kss kso ksq kes keo keq kgs kgo kgq okn org osi oti ole oto oow oco ost owa owv owh olo ohi ora odi oqu skd sdp sfd sop str spr rsz rcl rsg rst mrg mkr mik msz gle gsu tat tfa cco cct cac caf cwe ms mkp mtx mso mmy mit gma gpi gst ghe gow gfa gqu glo ghi gby gib tto cfo cff ccl tp T) Q := by
  refine ent hc rfl (fun cl hE hm => ?_)
  unfold X_peek at hf
  refine stp hm 2 (X_isTape_ok hE rfl ?_)
  show sxWP sc cl Q 133 (4, [some (.ref 0), some (.int v1), some (.int v2)], [.int (X_isTape v1)], (wF im nrg nld nmt nps npl npw npr nss nso nsq nes neo neq ngs ngo ngq krg kld kmt kps kpl kpw kpr kss kso ksq kes keo keq kgs kgo kgq okn org osi oti ole oto oow oco ost owa owv owh olo ohi ora odi oqu skd sdp sfd sop str spr rsz rcl rsg rst mrg mkr mik msz gle gsu tat tfa cco cct cac caf cwe ms mkp mtx mso mmy mit gma gpi gst ghe gow gfa gqu glo ghi gby gib tto cfo cff ccl tp T), 0, 0)
  refine stp hm 1 (br hf (fun c1 hf => ?_) (fun c1 hf => ?_))
  · show sxWP sc cl Q 133 (20, [some (.ref 0), some (.int v1), some (.int v2)], [], (wF im nrg nld nmt nps npl npw npr nss nso nsq nes neo neq ngs ngo ngq krg kld kmt kps kpl kpw kpr kss kso ksq kes keo keq kgs kgo kgq okn org osi oti ole oto oow oco ost owa owv owh olo ohi ora odi oqu skd sdp sfd sop str spr rsz rcl rsg rst mrg mkr mik msz gle gsu tat tfa cco cct cac caf cwe ms mkp mtx mso mmy mit gma gpi gst ghe gow gfa gqu glo ghi gby gib tto cfo cff ccl tp T), 0, 0)
    obtain rfl := Option.some.inj hf
    refine stp hm 2 ?_
    exact h
  · show sxWP sc cl Q 133 (7, [some (.ref 0), some (.int v1), some (.int v2)], [], (wF im nrg nld nmt nps npl npw npr nss nso nsq nes neo neq ngs ngo ngq krg kld kmt kps kpl kpw kpr kss kso ksq kes keo keq kgs kgo kgq okn org osi oti ole oto oow oco ost owa owv owh olo ohi ora odi oqu skd sdp sfd sop str spr rsz rcl rsg rst mrg mkr mik msz gle gsu tat tfa cco cct cac caf cwe ms mkp mtx mso mmy mit gma gpi gst ghe gow gfa gqu glo ghi gby gib tto cfo cff ccl tp T), 0, 0)
    cases hf
def X_peek_2_j20   : Option Int64 := some (-9223372036854775808:Int64)
def X_peek_2 (v1 : Int32) (v2 : Int32) (tp0n : Int32) (tp0i : (Nat → Int64)) : Option Int64 := if (X_isTape v1) = (0:Int32) then X_peek_2_j20 else (if (T_hasPlace v2 tp0n) = (0:Int32) then X_peek_2_j20 else (Option.bind (T_at v2 tp0n tp0i) (fun q3 => some q3)))
set_option maxRecDepth 10000 in
theorem X_peek_2_ok {v2 : Int32} {q : Int64} (hc : call = sxE sc (d + 3)) (hf : X_peek_2 (0:Int32) v2 ((tp 0).2.1) ((tp 0).2.2) = some q) (h : Q (some (.long q)) (wF im nrg nld nmt nps npl npw npr nss nso nsq nes neo neq ngs ngo ngq krg kld kmt kps kpl kpw kpr kss kso ksq kes keo keq kgs kgo kgq okn org osi oti ole oto oow oco ost owa owv owh olo ohi ora odi oqu skd sdp sfd sop str spr rsz rcl rsg rst mrg mkr mik msz gle gsu tat tfa cco cct cac caf cwe ms mkp mtx mso mmy mit gma gpi gst ghe gow gfa gqu glo ghi gby gib tto cfo cff ccl tp T)) : call 133 [.ref 0, .int (0:Int32), .int v2] (wF im nrg nld nmt nps npl npw npr nss nso nsq nes neo neq ngs ngo ngq krg kld kmt kps kpl kpw kpr kss kso ksq kes keo keq kgs kgo kgq okn org osi oti ole oto oow oco ost owa owv owh olo ohi ora odi oqu skd sdp sfd sop str spr rsz rcl rsg rst mrg mkr mik msz gle gsu tat tfa cco cct cac caf cwe ms mkp mtx mso mmy mit gma gpi gst ghe gow gfa gqu glo ghi gby gib tto cfo cff ccl tp T) Q := by
  refine ent hc rfl (fun cl hE hm => ?_)
  have J20 : ∀  (z0 : Option Value) (z1 : Option Value) (z2 : Option Value), X_peek_2_j20 = some q → sxWP sc cl Q 133 (20, [z0, z1, z2], [], (wF im nrg nld nmt nps npl npw npr nss nso nsq nes neo neq ngs ngo ngq krg kld kmt kps kpl kpw kpr kss kso ksq kes keo keq kgs kgo kgq okn org osi oti ole oto oow oco ost owa owv owh olo ohi ora odi oqu skd sdp sfd sop str spr rsz rcl rsg rst mrg mkr mik msz gle gsu tat tfa cco cct cac caf cwe ms mkp mtx mso mmy mit gma gpi gst ghe gow gfa gqu glo ghi gby gib tto cfo cff ccl tp T), 0, 0) := by
    intro z0 z1 z2 hf
    unfold X_peek_2_j20 at hf
    obtain rfl := Option.some.inj hf
    refine stp hm 2 ?_
    exact h
  unfold X_peek_2 at hf
  refine stp hm 2 (X_isTape_ok hE rfl ?_)
  show sxWP sc cl Q 133 (4, [some (.ref 0), some (.int (0:Int32)), some (.int v2)], [.int (X_isTape (0:Int32))], (wF im nrg nld nmt nps npl npw npr nss nso nsq nes neo neq ngs ngo ngq krg kld kmt kps kpl kpw kpr kss kso ksq kes keo keq kgs kgo kgq okn org osi oti ole oto oow oco ost owa owv owh olo ohi ora odi oqu skd sdp sfd sop str spr rsz rcl rsg rst mrg mkr mik msz gle gsu tat tfa cco cct cac caf cwe ms mkp mtx mso mmy mit gma gpi gst ghe gow gfa gqu glo ghi gby gib tto cfo cff ccl tp T), 0, 0)
  refine stp hm 1 (br hf (fun c1 hf => ?_) (fun c1 hf => ?_))
  · show sxWP sc cl Q 133 (20, [some (.ref 0), some (.int (0:Int32)), some (.int v2)], [], (wF im nrg nld nmt nps npl npw npr nss nso nsq nes neo neq ngs ngo ngq krg kld kmt kps kpl kpw kpr kss kso ksq kes keo keq kgs kgo kgq okn org osi oti ole oto oow oco ost owa owv owh olo ohi ora odi oqu skd sdp sfd sop str spr rsz rcl rsg rst mrg mkr mik msz gle gsu tat tfa cco cct cac caf cwe ms mkp mtx mso mmy mit gma gpi gst ghe gow gfa gqu glo ghi gby gib tto cfo cff ccl tp T), 0, 0)
    exact J20 _ _ _ hf
  · show sxWP sc cl Q 133 (7, [some (.ref 0), some (.int (0:Int32)), some (.int v2)], [], (wF im nrg nld nmt nps npl npw npr nss nso nsq nes neo neq ngs ngo ngq krg kld kmt kps kpl kpw kpr kss kso ksq kes keo keq kgs kgo kgq okn org osi oti ole oto oow oco ost owa owv owh olo ohi ora odi oqu skd sdp sfd sop str spr rsz rcl rsg rst mrg mkr mik msz gle gsu tat tfa cco cct cac caf cwe ms mkp mtx mso mmy mit gma gpi gst ghe gow gfa gqu glo ghi gby gib tto cfo cff ccl tp T), 0, 0)
    refine stp hm 4 (And.intro (gi_in (by decide)) (?_ : sxWP sc cl Q 133 (13, [some (.ref 0), some (.int (0:Int32)), some (.int v2)], [.ref 47], (wF im nrg nld nmt nps npl npw npr nss nso nsq nes neo neq ngs ngo ngq krg kld kmt kps kpl kpw kpr kss kso ksq kes keo keq kgs kgo kgq okn org osi oti ole oto oow oco ost owa owv owh olo ohi ora odi oqu skd sdp sfd sop str spr rsz rcl rsg rst mrg mkr mik msz gle gsu tat tfa cco cct cac caf cwe ms mkp mtx mso mmy mit gma gpi gst ghe gow gfa gqu glo ghi gby gib tto cfo cff ccl tp T), 0, 0)))
    refine stp hm 2 (T_hasPlace_ok hE rfl ?_)
    show sxWP sc cl Q 133 (17, [some (.ref 0), some (.int (0:Int32)), some (.int v2)], [.int (T_hasPlace v2 (tp 0).2.1)], (wF im nrg nld nmt nps npl npw npr nss nso nsq nes neo neq ngs ngo ngq krg kld kmt kps kpl kpw kpr kss kso ksq kes keo keq kgs kgo kgq okn org osi oti ole oto oow oco ost owa owv owh olo ohi ora odi oqu skd sdp sfd sop str spr rsz rcl rsg rst mrg mkr mik msz gle gsu tat tfa cco cct cac caf cwe ms mkp mtx mso mmy mit gma gpi gst ghe gow gfa gqu glo ghi gby gib tto cfo cff ccl tp T), 0, 0)
    refine stp hm 1 (brn hf (fun c2 hf => ?_) (fun c2 hf => ?_))
    · show sxWP sc cl Q 133 (24, [some (.ref 0), some (.int (0:Int32)), some (.int v2)], [], (wF im nrg nld nmt nps npl npw npr nss nso nsq nes neo neq ngs ngo ngq krg kld kmt kps kpl kpw kpr kss kso ksq kes keo keq kgs kgo kgq okn org osi oti ole oto oow oco ost owa owv owh olo ohi ora odi oqu skd sdp sfd sop str spr rsz rcl rsg rst mrg mkr mik msz gle gsu tat tfa cco cct cac caf cwe ms mkp mtx mso mmy mit gma gpi gst ghe gow gfa gqu glo ghi gby gib tto cfo cff ccl tp T), 0, 0)
      refine stp hm 4 (And.intro (gi_in (by decide)) (?_ : sxWP sc cl Q 133 (30, [some (.ref 0), some (.int (0:Int32)), some (.int v2)], [.ref 47], (wF im nrg nld nmt nps npl npw npr nss nso nsq nes neo neq ngs ngo ngq krg kld kmt kps kpl kpw kpr kss kso ksq kes keo keq kgs kgo kgq okn org osi oti ole oto oow oco ost owa owv owh olo ohi ora odi oqu skd sdp sfd sop str spr rsz rcl rsg rst mrg mkr mik msz gle gsu tat tfa cco cct cac caf cwe ms mkp mtx mso mmy mit gma gpi gst ghe gow gfa gqu glo ghi gby gib tto cfo cff ccl tp T), 0, 0)))
      obtain ⟨q3, hq3, hf⟩ := bnd hf
      refine stp hm 2 (T_at_ok (q := q3) hE (by exact hq3) ?_)
      show sxWP sc cl Q 133 (34, [some (.ref 0), some (.int (0:Int32)), some (.int v2)], [.long q3], (wF im nrg nld nmt nps npl npw npr nss nso nsq nes neo neq ngs ngo ngq krg kld kmt kps kpl kpw kpr kss kso ksq kes keo keq kgs kgo kgq okn org osi oti ole oto oow oco ost owa owv owh olo ohi ora odi oqu skd sdp sfd sop str spr rsz rcl rsg rst mrg mkr mik msz gle gsu tat tfa cco cct cac caf cwe ms mkp mtx mso mmy mit gma gpi gst ghe gow gfa gqu glo ghi gby gib tto cfo cff ccl tp T), 0, 0)
      obtain rfl := Option.some.inj hf
      refine stp hm 1 ?_
      exact h
    · show sxWP sc cl Q 133 (20, [some (.ref 0), some (.int (0:Int32)), some (.int v2)], [], (wF im nrg nld nmt nps npl npw npr nss nso nsq nes neo neq ngs ngo ngq krg kld kmt kps kpl kpw kpr kss kso ksq kes keo keq kgs kgo kgq okn org osi oti ole oto oow oco ost owa owv owh olo ohi ora odi oqu skd sdp sfd sop str spr rsz rcl rsg rst mrg mkr mik msz gle gsu tat tfa cco cct cac caf cwe ms mkp mtx mso mmy mit gma gpi gst ghe gow gfa gqu glo ghi gby gib tto cfo cff ccl tp T), 0, 0)
      exact J20 _ _ _ hf
end PT
