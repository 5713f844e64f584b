/-! each call keeps it -/
section OPS
variable {cl : sxX} {sc : sxS}
set_option maxRecDepth 10000 in
theorem op_cell (hE : cl = sxE sc 99) (a0 : Int32) (a1 : Int32) : Agr cl Inv 91 153 [.int a0, .int a1] := by
  intro n hp hn hI0
  refine hI0 _ (fun im nrg nld nmt nps npl npw npr nss nso nsq nes neo neq ngs ngo ngq krg kld kmt kps kpl kpw kpr kss kso ksq kes keo keq kgs kgo kgq okn org osi oti ole oto oow oco ost owa owv owh olo ohi ora odi oqu skd sdp sfd sop str spr rsz rcl rsg rst mrg mkr mik msz gle gsu tat tfa cco cct cac caf cwe ms mkp mtx mso mmy mit gma gpi gst ghe gow gfa gqu glo ghi gby gib tto cfo cff ccl tp T e hT h hI hK hO hX hP => ?_)
  clear hI0
  subst e
  have e0 := h.1.1
  subst e0
  obtain ⟨q, x1, q', m1, e, hS⟩ := p_cell a0 a1 h
  refine X_cell_ok (d := 96) hE x1 ⟨⟨_, rfl⟩, isW_wF, ?_⟩
  refine M_cell_ok (d := 96) hE m1 ⟨congrArg (fun v => some (Value.int v)) e, ?_⟩
  exact Inv_i (Nat.le_succ_of_le hT) (hS) (cell_TI x1 hI) (hK) (hO) (hX) (hP)

set_option maxRecDepth 10000 in
theorem op_fill (hE : cl = sxE sc 99) (a0 : Int32) (a1 : Int32) (a2 : Int32) : Agr cl Inv 92 154 [.int a0, .int a1, .int a2] := by
  intro n hp hn hI0
  refine hI0 _ (fun im nrg nld nmt nps npl npw npr nss nso nsq nes neo neq ngs ngo ngq krg kld kmt kps kpl kpw kpr kss kso ksq kes keo keq kgs kgo kgq okn org osi oti ole oto oow oco ost owa owv owh olo ohi ora odi oqu skd sdp sfd sop str spr rsz rcl rsg rst mrg mkr mik msz gle gsu tat tfa cco cct cac caf cwe ms mkp mtx mso mmy mit gma gpi gst ghe gow gfa gqu glo ghi gby gib tto cfo cff ccl tp T e hT h hI hK hO hX hP => ?_)
  clear hI0
  subst e
  have e0 := h.1.1
  subst e0
  obtain ⟨q, x1, q', m1, e, hS, hT2⟩ := p_fill a0 a1 a2 h hI
  refine X_fill_ok (d := 96) hE x1 ⟨⟨_, rfl⟩, isW_wF, ?_⟩
  refine M_fill_ok (d := 96) hE m1 ⟨congrArg (fun v => some (Value.int v)) e, ?_⟩
  exact Inv_i (Nat.le_succ_of_le hT) (hS) (hT2) (hK) (hO) (hX) (hP)

set_option maxRecDepth 10000 in
theorem op_lay (hE : cl = sxE sc 99) (a0 : Int32) : Agr cl Inv 93 178 [.int a0] := by
  intro n hp hn hI0
  refine hI0 _ (fun im nrg nld nmt nps npl npw npr nss nso nsq nes neo neq ngs ngo ngq krg kld kmt kps kpl kpw kpr kss kso ksq kes keo keq kgs kgo kgq okn org osi oti ole oto oow oco ost owa owv owh olo ohi ora odi oqu skd sdp sfd sop str spr rsz rcl rsg rst mrg mkr mik msz gle gsu tat tfa cco cct cac caf cwe ms mkp mtx mso mmy mit gma gpi gst ghe gow gfa gqu glo ghi gby gib tto cfo cff ccl tp T e hT h hI hK hO hX hP => ?_)
  clear hI0
  subst e
  have e0 := h.1.1
  subst e0
  obtain ⟨q, x1, q', m1, e, hS, hT2, hO2⟩ := p_lay a0 h hI hO ora odi oqu gle gsu gma gpi gst ghe gow gfa gqu glo ghi gby gib
  refine X_lay_ok (d := 93) hE x1 ⟨⟨_, rfl⟩, isW_wF, ?_⟩
  refine M_lay_ok (d := 91) hE m1 ⟨congrArg (fun v => some (Value.int v)) e, ?_⟩
  exact Inv_i (Nat.le_succ_of_le hT) (hS) (hT2) (hK) (hO2) (hX) (hP)

set_option maxRecDepth 10000 in
theorem op_turn (hE : cl = sxE sc 99) (a0 : Int32) : Agr cl Inv 94 179 [.int a0] := by
  intro n hp hn hI0
  refine hI0 _ (fun im nrg nld nmt nps npl npw npr nss nso nsq nes neo neq ngs ngo ngq krg kld kmt kps kpl kpw kpr kss kso ksq kes keo keq kgs kgo kgq okn org osi oti ole oto oow oco ost owa owv owh olo ohi ora odi oqu skd sdp sfd sop str spr rsz rcl rsg rst mrg mkr mik msz gle gsu tat tfa cco cct cac caf cwe ms mkp mtx mso mmy mit gma gpi gst ghe gow gfa gqu glo ghi gby gib tto cfo cff ccl tp T e hT h hI hK hO hX hP => ?_)
  clear hI0
  subst e
  have e0 := h.1.1
  subst e0
  obtain ⟨q, x1, q', m1, e, hS, hT2, hO2⟩ := p_turn a0 h hI hO ora odi oqu gle gsu gma gpi gst ghe gow gfa gqu glo ghi gby gib
  refine X_turn_ok (d := 93) hE x1 ⟨⟨_, rfl⟩, isW_wF, ?_⟩
  refine M_turn_ok (d := 91) hE m1 ⟨congrArg (fun v => some (Value.int v)) e, ?_⟩
  exact Inv_i (Nat.le_succ_of_le hT) (hS) (hT2) (hK) (hO2) (hX) (hP)

set_option maxRecDepth 10000 in
theorem op_begin (hE : cl = sxE sc 99) (a0 : Int32) : Agr cl Inv 95 180 [.int a0] := by
  intro n hp hn hI0
  refine hI0 _ (fun im nrg nld nmt nps npl npw npr nss nso nsq nes neo neq ngs ngo ngq krg kld kmt kps kpl kpw kpr kss kso ksq kes keo keq kgs kgo kgq okn org osi oti ole oto oow oco ost owa owv owh olo ohi ora odi oqu skd sdp sfd sop str spr rsz rcl rsg rst mrg mkr mik msz gle gsu tat tfa cco cct cac caf cwe ms mkp mtx mso mmy mit gma gpi gst ghe gow gfa gqu glo ghi gby gib tto cfo cff ccl tp T e hT h hI hK hO hX hP => ?_)
  clear hI0
  subst e
  have e0 := h.1.1
  subst e0
  obtain ⟨q, x1, q', m1, e, hS⟩ := p_begin a0 h
  refine X_begin_ok (d := 97) hE x1 ⟨⟨_, rfl⟩, isW_wF, ?_⟩
  refine M_begin_ok (d := 96) hE m1 ⟨congrArg (fun v => some (Value.int v)) e, ?_⟩
  exact Inv_i (Nat.le_succ_of_le hT) (hS) (hI) (hK) (hO) (hX) (hP)

set_option maxRecDepth 10000 in
theorem op_walk (hE : cl = sxE sc 99) (a0 : Int32) : Agr cl Inv 96 182 [.int a0] := by
  intro n hp hn hI0
  refine hI0 _ (fun im nrg nld nmt nps npl npw npr nss nso nsq nes neo neq ngs ngo ngq krg kld kmt kps kpl kpw kpr kss kso ksq kes keo keq kgs kgo kgq okn org osi oti ole oto oow oco ost owa owv owh olo ohi ora odi oqu skd sdp sfd sop str spr rsz rcl rsg rst mrg mkr mik msz gle gsu tat tfa cco cct cac caf cwe ms mkp mtx mso mmy mit gma gpi gst ghe gow gfa gqu glo ghi gby gib tto cfo cff ccl tp T e hT h hI hK hO hX hP => ?_)
  clear hI0
  subst e
  have e0 := h.1.1
  subst e0
  obtain ⟨q, x1, q', m1, e, hS⟩ := p_walk a0 h
  refine X_walk_ok (d := 95) hE x1 ⟨⟨_, rfl⟩, isW_wF, ?_⟩
  refine M_walk_ok (d := 95) hE m1 ⟨congrArg (fun v => some (Value.int v)) e, ?_⟩
  exact Inv_i (Nat.le_succ_of_le hT) (hS) (hI) (hK) (hO) (hX) (hP)

set_option maxRecDepth 10000 in
theorem op_feed (hE : cl = sxE sc 99) (a0 : Int32) : Agr cl Inv 97 187 [.int a0] := by
  intro n hp hn hI0
  refine hI0 _ (fun im nrg nld nmt nps npl npw npr nss nso nsq nes neo neq ngs ngo ngq krg kld kmt kps kpl kpw kpr kss kso ksq kes keo keq kgs kgo kgq okn org osi oti ole oto oow oco ost owa owv owh olo ohi ora odi oqu skd sdp sfd sop str spr rsz rcl rsg rst mrg mkr mik msz gle gsu tat tfa cco cct cac caf cwe ms mkp mtx mso mmy mit gma gpi gst ghe gow gfa gqu glo ghi gby gib tto cfo cff ccl tp T e hT h hI hK hO hX hP => ?_)
  clear hI0
  subst e
  have e0 := h.1.1
  subst e0
  obtain ⟨q, x1, q', m1, e, hX2⟩ := p_feed a0 hX
  refine X_feed_ok (d := 97) hE x1 ⟨⟨_, rfl⟩, isW_wF, ?_⟩
  refine M_feed_ok (d := 97) hE m1 ⟨congrArg (fun v => some (Value.int v)) e, ?_⟩
  exact Inv_i (Nat.le_succ_of_le hT) (h) (hI) (hK) (hO) (hX2) (hP)

set_option maxRecDepth 10000 in
theorem op_read (hE : cl = sxE sc 99)  : Agr cl Inv 98 199 [] := by
  intro n hp hn hI0
  refine hI0 _ (fun im nrg nld nmt nps npl npw npr nss nso nsq nes neo neq ngs ngo ngq krg kld kmt kps kpl kpw kpr kss kso ksq kes keo keq kgs kgo kgq okn org osi oti ole oto oow oco ost owa owv owh olo ohi ora odi oqu skd sdp sfd sop str spr rsz rcl rsg rst mrg mkr mik msz gle gsu tat tfa cco cct cac caf cwe ms mkp mtx mso mmy mit gma gpi gst ghe gow gfa gqu glo ghi gby gib tto cfo cff ccl tp T e hT h hI hK hO hX hP => ?_)
  clear hI0
  subst e
  have e0 := h.1.1
  subst e0
  obtain ⟨q, x1, q', m1, e, hS, hT2, hO2, z1, z2⟩ := p_read hX h hI hO ora odi oqu rst gle gsu gma gpi gst ghe gow gfa gqu glo ghi gby gib tto
  refine X_read_ok (d := 92) hE x1 ⟨⟨_, rfl⟩, isW_wF, ?_⟩
  refine M_read_ok (d := 89) hE m1 ⟨congrArg (fun v => some (Value.int v)) e, ?_⟩
  exact Inv_i (Nat.le_succ_of_le hT) (hS) (hT2) (hK) (hO2) (IX_0 z1 z2) (hP)

set_option maxRecDepth 10000 in
theorem op_ofs (hE : cl = sxE sc 99) (a0 : Int32) (a1 : Int32) : Agr cl Inv 103 200 [.int a0, .int a1] := by
  intro n hp hn hI0
  refine hI0 _ (fun im nrg nld nmt nps npl npw npr nss nso nsq nes neo neq ngs ngo ngq krg kld kmt kps kpl kpw kpr kss kso ksq kes keo keq kgs kgo kgq okn org osi oti ole oto oow oco ost owa owv owh olo ohi ora odi oqu skd sdp sfd sop str spr rsz rcl rsg rst mrg mkr mik msz gle gsu tat tfa cco cct cac caf cwe ms mkp mtx mso mmy mit gma gpi gst ghe gow gfa gqu glo ghi gby gib tto cfo cff ccl tp T e hT h hI hK hO hX hP => ?_)
  clear hI0
  subst e
  have e0 := h.1.1
  subst e0
  obtain ⟨q, x1, m1⟩ := p_of a0 a1 h.2.1
  refine X_ofs_ok (d := 96) hE x1 ⟨⟨_, rfl⟩, isW_wF, ?_⟩
  refine M_ofs_ok (d := 96) hE m1 ⟨rfl, ?_⟩
  exact Inv_i (Nat.le_succ_of_le hT) (h) (hI) (hK) (hO) (hX) (hP)

set_option maxRecDepth 10000 in
theorem op_told (hE : cl = sxE sc 99) (a0 : Int32) : Agr cl Inv 104 202 [.int a0] := by
  intro n hp hn hI0
  refine hI0 _ (fun im nrg nld nmt nps npl npw npr nss nso nsq nes neo neq ngs ngo ngq krg kld kmt kps kpl kpw kpr kss kso ksq kes keo keq kgs kgo kgq okn org osi oti ole oto oow oco ost owa owv owh olo ohi ora odi oqu skd sdp sfd sop str spr rsz rcl rsg rst mrg mkr mik msz gle gsu tat tfa cco cct cac caf cwe ms mkp mtx mso mmy mit gma gpi gst ghe gow gfa gqu glo ghi gby gib tto cfo cff ccl tp T e hT h hI hK hO hX hP => ?_)
  clear hI0
  subst e
  have e0 := h.1.1
  subst e0
  obtain ⟨q, x1, q', m1, e, hO2⟩ := p_told a0 h hI hO ora odi oqu gle gsu gma gpi gst ghe gow gfa gqu glo ghi gby gib
  refine X_told_ok (d := 93) hE x1 ⟨⟨_, rfl⟩, isW_wF, ?_⟩
  refine M_told_ok (d := 91) hE m1 ⟨congrArg (fun v => some (Value.int v)) e, ?_⟩
  exact Inv_i (Nat.le_succ_of_le hT) (h) (hI) (hK) (hO2) (hX) (hP)

set_option maxRecDepth 10000 in
theorem op_word (hE : cl = sxE sc 99) (a0 : Int32) : Agr cl Inv 105 203 [.int a0] := by
  intro n hp hn hI0
  refine hI0 _ (fun im nrg nld nmt nps npl npw npr nss nso nsq nes neo neq ngs ngo ngq krg kld kmt kps kpl kpw kpr kss kso ksq kes keo keq kgs kgo kgq okn org osi oti ole oto oow oco ost owa owv owh olo ohi ora odi oqu skd sdp sfd sop str spr rsz rcl rsg rst mrg mkr mik msz gle gsu tat tfa cco cct cac caf cwe ms mkp mtx mso mmy mit gma gpi gst ghe gow gfa gqu glo ghi gby gib tto cfo cff ccl tp T e hT h hI hK hO hX hP => ?_)
  clear hI0
  subst e
  have e0 := h.1.1
  subst e0
  obtain ⟨q, x1, q', m1, e, hO2⟩ := p_word a0 h hO ora odi oqu gle gsu gma gpi gst ghe gow
  refine X_word_ok (d := 94) hE x1 ⟨⟨_, rfl⟩, isW_wF, ?_⟩
  refine M_word_ok (d := 93) hE m1 ⟨congrArg (fun v => some (Value.int v)) e, ?_⟩
  exact Inv_i (Nat.le_succ_of_le hT) (h) (hI) (hK) (hO2) (hX) (hP)

set_option maxRecDepth 10000 in
theorem op_height (hE : cl = sxE sc 99) (a0 : Int32) (a1 : Int32) : Agr cl Inv 106 204 [.int a0, .int a1] := by
  intro n hp hn hI0
  refine hI0 _ (fun im nrg nld nmt nps npl npw npr nss nso nsq nes neo neq ngs ngo ngq krg kld kmt kps kpl kpw kpr kss kso ksq kes keo keq kgs kgo kgq okn org osi oti ole oto oow oco ost owa owv owh olo ohi ora odi oqu skd sdp sfd sop str spr rsz rcl rsg rst mrg mkr mik msz gle gsu tat tfa cco cct cac caf cwe ms mkp mtx mso mmy mit gma gpi gst ghe gow gfa gqu glo ghi gby gib tto cfo cff ccl tp T e hT h hI hK hO hX hP => ?_)
  clear hI0
  subst e
  have e0 := h.1.1
  subst e0
  obtain ⟨q, x1, q', m1, e, hO2⟩ := p_height a0 a1 h hI hO ora odi oqu gle gsu gma gpi gst ghe gow gfa gqu glo ghi gby gib
  refine X_height_ok (d := 94) hE x1 ⟨⟨_, rfl⟩, isW_wF, ?_⟩
  refine M_height_ok (d := 91) hE m1 ⟨congrArg (fun v => some (Value.int v)) e, ?_⟩
  exact Inv_i (Nat.le_succ_of_le hT) (h) (hI) (hK) (hO2) (hX) (hP)

set_option maxRecDepth 10000 in
theorem op_far (hE : cl = sxE sc 99) (a0 : Int32) (a1 : Int32) : Agr cl Inv 108 205 [.int a0, .int a1] := by
  intro n hp hn hI0
  refine hI0 _ (fun im nrg nld nmt nps npl npw npr nss nso nsq nes neo neq ngs ngo ngq krg kld kmt kps kpl kpw kpr kss kso ksq kes keo keq kgs kgo kgq okn org osi oti ole oto oow oco ost owa owv owh olo ohi ora odi oqu skd sdp sfd sop str spr rsz rcl rsg rst mrg mkr mik msz gle gsu tat tfa cco cct cac caf cwe ms mkp mtx mso mmy mit gma gpi gst ghe gow gfa gqu glo ghi gby gib tto cfo cff ccl tp T e hT h hI hK hO hX hP => ?_)
  clear hI0
  subst e
  have e0 := h.1.1
  subst e0
  obtain ⟨q, x1, q', m1, e, hO2⟩ := p_far a0 a1 h hO ora odi oqu gfa gqu
  refine X_far_ok (d := 94) hE x1 ⟨⟨_, rfl⟩, isW_wF, ?_⟩
  refine M_far_ok (d := 93) hE m1 ⟨congrArg (fun v => some (Value.int v)) e, ?_⟩
  exact Inv_i (Nat.le_succ_of_le hT) (h) (hI) (hK) (hO2) (hX) (hP)

set_option maxRecDepth 10000 in
theorem op_centre (hE : cl = sxE sc 99) (a0 : Int32) : Agr cl Inv 109 206 [.int a0] := by
  intro n hp hn hI0
  refine hI0 _ (fun im nrg nld nmt nps npl npw npr nss nso nsq nes neo neq ngs ngo ngq krg kld kmt kps kpl kpw kpr kss kso ksq kes keo keq kgs kgo kgq okn org osi oti ole oto oow oco ost owa owv owh olo ohi ora odi oqu skd sdp sfd sop str spr rsz rcl rsg rst mrg mkr mik msz gle gsu tat tfa cco cct cac caf cwe ms mkp mtx mso mmy mit gma gpi gst ghe gow gfa gqu glo ghi gby gib tto cfo cff ccl tp T e hT h hI hK hO hX hP => ?_)
  clear hI0
  subst e
  have e0 := h.1.1
  subst e0
  obtain ⟨q, x1, m1⟩ := centre_eq a0 h.1.2
  refine X_centre_ok (d := 96) hE x1 ⟨⟨_, rfl⟩, isW_wF, ?_⟩
  refine M_centre_ok (d := 96) hE m1 ⟨rfl, ?_⟩
  exact Inv_i (Nat.le_succ_of_le hT) (h) (hI) (hK) (hO) (hX) (hP)

set_option maxRecDepth 10000 in
theorem op_walked (hE : cl = sxE sc 99) (a0 : Int32) : Agr cl Inv 110 185 [.int a0] := by
  intro n hp hn hI0
  refine hI0 _ (fun im nrg nld nmt nps npl npw npr nss nso nsq nes neo neq ngs ngo ngq krg kld kmt kps kpl kpw kpr kss kso ksq kes keo keq kgs kgo kgq okn org osi oti ole oto oow oco ost owa owv owh olo ohi ora odi oqu skd sdp sfd sop str spr rsz rcl rsg rst mrg mkr mik msz gle gsu tat tfa cco cct cac caf cwe ms mkp mtx mso mmy mit gma gpi gst ghe gow gfa gqu glo ghi gby gib tto cfo cff ccl tp T e hT h hI hK hO hX hP => ?_)
  clear hI0
  subst e
  have e0 := h.1.1
  subst e0
  obtain ⟨q, x1, q', m1, e⟩ := p_walked a0 h npr gpi
  refine X_walked_ok (d := 94) hE x1 ⟨⟨_, rfl⟩, isW_wF, ?_⟩
  refine M_walked_ok (d := 95) hE m1 ⟨congrArg (fun v => some (Value.int v)) e, ?_⟩
  exact Inv_i (Nat.le_succ_of_le hT) (h) (hI) (hK) (hO) (hX) (hP)

set_option maxRecDepth 10000 in
theorem op_winds (hE : cl = sxE sc 99) (a0 : Int32) : Agr cl Inv 111 186 [.int a0] := by
  intro n hp hn hI0
  refine hI0 _ (fun im nrg nld nmt nps npl npw npr nss nso nsq nes neo neq ngs ngo ngq krg kld kmt kps kpl kpw kpr kss kso ksq kes keo keq kgs kgo kgq okn org osi oti ole oto oow oco ost owa owv owh olo ohi ora odi oqu skd sdp sfd sop str spr rsz rcl rsg rst mrg mkr mik msz gle gsu tat tfa cco cct cac caf cwe ms mkp mtx mso mmy mit gma gpi gst ghe gow gfa gqu glo ghi gby gib tto cfo cff ccl tp T e hT h hI hK hO hX hP => ?_)
  clear hI0
  subst e
  have e0 := h.1.1
  subst e0
  obtain ⟨q, x1, m1⟩ := p_winds a0 h
  refine X_winds_ok (d := 94) hE x1 ⟨⟨_, rfl⟩, isW_wF, ?_⟩
  refine M_winds_ok (d := 95) hE m1 ⟨rfl, ?_⟩
  exact Inv_i (Nat.le_succ_of_le hT) (h) (hI) (hK) (hO) (hX) (hP)
end OPS
