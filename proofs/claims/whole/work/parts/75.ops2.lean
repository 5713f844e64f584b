/-! each call keeps it -/
section OPS
variable {cl : sxX} {sc : sxS}
set_option maxRecDepth 10000 in
theorem op_coverings (hE : cl = sxE sc 99) (a0 : Int32) : Agr cl Inv 112 213 [.int a0] := by
  intro n hp hn hI0
  refine hI0 _ (fun im nrg nld nmt nps npl npw npr nss nso nsq nes neo neq ngs ngo ngq krg kld kmt kps kpl kpw kpr kss kso ksq kes keo keq kgs kgo kgq okn org osi oti ole oto oow oco ost owa owv owh olo ohi ora odi oqu skd sdp sfd sop str spr rsz rcl rsg rst mrg mkr mik msz gle gsu tat tfa cco cct cac caf cwe ms mkp mtx mso mmy mit gma gpi gst ghe gow gfa gqu glo ghi gby gib tto cfo cff ccl tp T e hT h hI hK hO hX hP => ?_)
  clear hI0
  subst e
  have e0 := h.1.1
  subst e0
  obtain ⟨q, x1, q', m1, e⟩ := p_coverings (skd := skd) (sdp := sdp) (sfd := sfd) (sop := sop) (str := str) (spr := spr) (cco := cco) (cct := cct) (cac := cac) (caf := caf) (cwe := cwe) (cfo := cfo) (cff := cff) h.1.2 a0
  refine X_coverings_ok (d := 94) hE x1 ⟨⟨_, rfl⟩, isW_wF, ?_⟩
  refine M_coverings_ok (d := 74) hE m1 ⟨congrArg (fun v => some (Value.int v)) e, ?_⟩
  exact Inv_i (Nat.le_succ_of_le hT) (h) (hI) (hK) (hO) (hX) (hP)

set_option maxRecDepth 10000 in
theorem op_firsts (hE : cl = sxE sc 99) (a0 : Int32) (a1 : Int32) : Agr cl Inv 113 214 [.int a0, .int a1] := by
  intro n hp hn hI0
  refine hI0 _ (fun im nrg nld nmt nps npl npw npr nss nso nsq nes neo neq ngs ngo ngq krg kld kmt kps kpl kpw kpr kss kso ksq kes keo keq kgs kgo kgq okn org osi oti ole oto oow oco ost owa owv owh olo ohi ora odi oqu skd sdp sfd sop str spr rsz rcl rsg rst mrg mkr mik msz gle gsu tat tfa cco cct cac caf cwe ms mkp mtx mso mmy mit gma gpi gst ghe gow gfa gqu glo ghi gby gib tto cfo cff ccl tp T e hT h hI hK hO hX hP => ?_)
  clear hI0
  subst e
  have e0 := h.1.1
  subst e0
  obtain ⟨q, x1, q', m1, e⟩ := p_firsts (skd := skd) (sdp := sdp) (sfd := sfd) (sop := sop) (str := str) (spr := spr) (cco := cco) (cct := cct) (cac := cac) (caf := caf) (cwe := cwe) (cfo := cfo) (cff := cff) h.1.2 a0 a1
  refine X_firsts_ok (d := 94) hE x1 ⟨⟨_, rfl⟩, isW_wF, ?_⟩
  refine M_firsts_ok (d := 74) hE m1 ⟨congrArg (fun v => some (Value.int v)) e, ?_⟩
  exact Inv_i (Nat.le_succ_of_le hT) (h) (hI) (hK) (hO) (hX) (hP)

set_option maxRecDepth 10000 in
theorem op_weight (hE : cl = sxE sc 99) (a0 : Int32) : Agr cl Inv 114 215 [.int a0] := by
  intro n hp hn hI0
  refine hI0 _ (fun im nrg nld nmt nps npl npw npr nss nso nsq nes neo neq ngs ngo ngq krg kld kmt kps kpl kpw kpr kss kso ksq kes keo keq kgs kgo kgq okn org osi oti ole oto oow oco ost owa owv owh olo ohi ora odi oqu skd sdp sfd sop str spr rsz rcl rsg rst mrg mkr mik msz gle gsu tat tfa cco cct cac caf cwe ms mkp mtx mso mmy mit gma gpi gst ghe gow gfa gqu glo ghi gby gib tto cfo cff ccl tp T e hT h hI hK hO hX hP => ?_)
  clear hI0
  subst e
  have e0 := h.1.1
  subst e0
  obtain ⟨q, x1, q', m1, e⟩ := p_weight (skd := skd) (sdp := sdp) (sfd := sfd) (sop := sop) (str := str) (spr := spr) (cco := cco) (cct := cct) (cac := cac) (caf := caf) (cwe := cwe) (cfo := cfo) (cff := cff) h.1.2 a0
  refine X_weight_ok (d := 94) hE x1 ⟨⟨_, rfl⟩, isW_wF, ?_⟩
  refine M_weight_ok (d := 74) hE m1 ⟨congrArg (fun v => some (Value.int v)) e, ?_⟩
  exact Inv_i (Nat.le_succ_of_le hT) (h) (hI) (hK) (hO) (hX) (hP)

set_option maxRecDepth 10000 in
theorem op_barred (hE : cl = sxE sc 99) (a0 : Int32) : Agr cl Inv 115 217 [.int a0] := by
  intro n hp hn hI0
  refine hI0 _ (fun im nrg nld nmt nps npl npw npr nss nso nsq nes neo neq ngs ngo ngq krg kld kmt kps kpl kpw kpr kss kso ksq kes keo keq kgs kgo kgq okn org osi oti ole oto oow oco ost owa owv owh olo ohi ora odi oqu skd sdp sfd sop str spr rsz rcl rsg rst mrg mkr mik msz gle gsu tat tfa cco cct cac caf cwe ms mkp mtx mso mmy mit gma gpi gst ghe gow gfa gqu glo ghi gby gib tto cfo cff ccl tp T e hT h hI hK hO hX hP => ?_)
  clear hI0
  subst e
  have e0 := h.1.1
  subst e0
  obtain ⟨q, x1, q', m1, e, hO2⟩ := p_barred h.1.2 hO a0 ora odi oqu gle gsu gma gpi gst ghe gow gfa gqu glo ghi ccl
  refine X_barred_ok (d := 94) hE x1 ⟨⟨_, rfl⟩, isW_wF, ?_⟩
  refine M_barred_ok (d := 92) hE m1 ⟨congrArg (fun v => some (Value.int v)) e, ?_⟩
  exact Inv_i (Nat.le_succ_of_le hT) (h) (hI) (hK) (hO2) (hX) (hP)

set_option maxRecDepth 10000 in
theorem op_see (hE : cl = sxE sc 99) (a0 : Int32) (a1 : Int32) : Agr cl Inv 116 220 [.int a0, .int a1] := by
  intro n hp hn hI0
  refine hI0 _ (fun im nrg nld nmt nps npl npw npr nss nso nsq nes neo neq ngs ngo ngq krg kld kmt kps kpl kpw kpr kss kso ksq kes keo keq kgs kgo kgq okn org osi oti ole oto oow oco ost owa owv owh olo ohi ora odi oqu skd sdp sfd sop str spr rsz rcl rsg rst mrg mkr mik msz gle gsu tat tfa cco cct cac caf cwe ms mkp mtx mso mmy mit gma gpi gst ghe gow gfa gqu glo ghi gby gib tto cfo cff ccl tp T e hT h hI hK hO hX hP => ?_)
  clear hI0
  subst e
  have e0 := h.1.1
  subst e0
  obtain ⟨q, x1, q', m1, e, hS⟩ := p_see a0 a1 h
  refine X_see_ok (d := 97) hE x1 ⟨⟨_, rfl⟩, isW_wF, ?_⟩
  refine M_see_ok (d := 97) hE m1 ⟨congrArg (fun v => some (Value.int v)) e, ?_⟩
  exact Inv_i (Nat.le_succ_of_le hT) (hS) (hI) (hK) (hO) (hX) (hP)

set_option maxRecDepth 10000 in
theorem op_fits (hE : cl = sxE sc 99)  : AgrL cl Inv 117 222 [] := by
  intro n hp hn hI0
  refine hI0 _ (fun im nrg nld nmt nps npl npw npr nss nso nsq nes neo neq ngs ngo ngq krg kld kmt kps kpl kpw kpr kss kso ksq kes keo keq kgs kgo kgq okn org osi oti ole oto oow oco ost owa owv owh olo ohi ora odi oqu skd sdp sfd sop str spr rsz rcl rsg rst mrg mkr mik msz gle gsu tat tfa cco cct cac caf cwe ms mkp mtx mso mmy mit gma gpi gst ghe gow gfa gqu glo ghi gby gib tto cfo cff ccl tp T e hT h hI hK hO hX hP => ?_)
  clear hI0
  subst e
  have e0 := h.1.1
  subst e0
  obtain ⟨q, x1, m1⟩ := p_fits h
  refine X_fits_ok (d := 95) hE x1 ⟨⟨_, rfl⟩, isW_wF, ?_⟩
  refine M_fits_ok (d := 94) hE m1 ⟨rfl, ?_⟩
  exact Inv_i (Nat.le_succ_of_le hT) (h) (hI) (hK) (hO) (hX) (hP)

set_option maxRecDepth 10000 in
theorem op_odds (hE : cl = sxE sc 99) (a0 : Int32) (a1 : Int32) (a2 : Int32) (a3 : Int32) : AgrL cl Inv 119 224 [.int a0, .int a1, .int a2, .int a3] := by
  intro n hp hn hI0
  refine hI0 _ (fun im nrg nld nmt nps npl npw npr nss nso nsq nes neo neq ngs ngo ngq krg kld kmt kps kpl kpw kpr kss kso ksq kes keo keq kgs kgo kgq okn org osi oti ole oto oow oco ost owa owv owh olo ohi ora odi oqu skd sdp sfd sop str spr rsz rcl rsg rst mrg mkr mik msz gle gsu tat tfa cco cct cac caf cwe ms mkp mtx mso mmy mit gma gpi gst ghe gow gfa gqu glo ghi gby gib tto cfo cff ccl tp T e hT h hI hK hO hX hP => ?_)
  clear hI0
  subst e
  have e0 := h.1.1
  subst e0
  obtain ⟨q, x1, q', m1, e⟩ := p_odds (skd := skd) (sdp := sdp) (sfd := sfd) (sop := sop) (str := str) (spr := spr) (cco := cco) (cct := cct) (cac := cac) (caf := caf) (cwe := cwe) (cfo := cfo) (cff := cff) h.1.2 a0 a1 a2 a3
  refine X_odds_ok (d := 94) hE x1 ⟨⟨_, rfl⟩, isW_wF, ?_⟩
  refine M_odds_ok (d := 57) hE m1 ⟨congrArg (fun v => some (Value.long v)) e, ?_⟩
  exact Inv_i (Nat.le_succ_of_le hT) (h) (hI) (hK) (hO) (hX) (hP)

set_option maxRecDepth 10000 in
theorem op_mean (hE : cl = sxE sc 99)  : AgrL cl Inv 121 225 [] := by
  intro n hp hn hI0
  refine hI0 _ (fun im nrg nld nmt nps npl npw npr nss nso nsq nes neo neq ngs ngo ngq krg kld kmt kps kpl kpw kpr kss kso ksq kes keo keq kgs kgo kgq okn org osi oti ole oto oow oco ost owa owv owh olo ohi ora odi oqu skd sdp sfd sop str spr rsz rcl rsg rst mrg mkr mik msz gle gsu tat tfa cco cct cac caf cwe ms mkp mtx mso mmy mit gma gpi gst ghe gow gfa gqu glo ghi gby gib tto cfo cff ccl tp T e hT h hI hK hO hX hP => ?_)
  clear hI0
  subst e
  have e0 := h.1.1
  subst e0
  obtain ⟨q, x1, q', m1, e, hO2⟩ := p_mean h hO ora odi oqu gle gsu gma gpi gst ghe gow gfa gqu glo ghi
  refine X_mean_ok (d := 94) hE x1 ⟨⟨_, rfl⟩, isW_wF, ?_⟩
  refine M_mean_ok (d := 92) hE m1 ⟨congrArg (fun v => some (Value.long v)) e, ?_⟩
  exact Inv_i (Nat.le_succ_of_le hT) (h) (hI) (hK) (hO2) (hX) (hP)

set_option maxRecDepth 10000 in
theorem op_event (hE : cl = sxE sc 99) (a0 : Int32) (a1 : Int32) : Agr cl Inv 122 226 [.int a0, .int a1] := by
  intro n hp hn hI0
  refine hI0 _ (fun im nrg nld nmt nps npl npw npr nss nso nsq nes neo neq ngs ngo ngq krg kld kmt kps kpl kpw kpr kss kso ksq kes keo keq kgs kgo kgq okn org osi oti ole oto oow oco ost owa owv owh olo ohi ora odi oqu skd sdp sfd sop str spr rsz rcl rsg rst mrg mkr mik msz gle gsu tat tfa cco cct cac caf cwe ms mkp mtx mso mmy mit gma gpi gst ghe gow gfa gqu glo ghi gby gib tto cfo cff ccl tp T e hT h hI hK hO hX hP => ?_)
  clear hI0
  subst e
  have e0 := h.1.1
  subst e0
  obtain ⟨q, x1, q', m1, e, hS⟩ := p_event a0 a1 h
  refine X_event_ok (d := 97) hE x1 ⟨⟨_, rfl⟩, isW_wF, ?_⟩
  refine M_event_ok (d := 96) hE m1 ⟨congrArg (fun v => some (Value.int v)) e, ?_⟩
  exact Inv_i (Nat.le_succ_of_le hT) (hS) (hI) (hK) (hO) (hX) (hP)

set_option maxRecDepth 10000 in
theorem op_after (hE : cl = sxE sc 99) (a0 : Int32) : Agr cl Inv 123 228 [.int a0] := by
  intro n hp hn hI0
  refine hI0 _ (fun im nrg nld nmt nps npl npw npr nss nso nsq nes neo neq ngs ngo ngq krg kld kmt kps kpl kpw kpr kss kso ksq kes keo keq kgs kgo kgq okn org osi oti ole oto oow oco ost owa owv owh olo ohi ora odi oqu skd sdp sfd sop str spr rsz rcl rsg rst mrg mkr mik msz gle gsu tat tfa cco cct cac caf cwe ms mkp mtx mso mmy mit gma gpi gst ghe gow gfa gqu glo ghi gby gib tto cfo cff ccl tp T e hT h hI hK hO hX hP => ?_)
  clear hI0
  subst e
  have e0 := h.1.1
  subst e0
  obtain ⟨q, x1, q', m1, e, em, hO2⟩ := p_after a0 h hO ora odi oqu gle gsu gma gpi gst ghe gow gfa gqu glo ghi
  refine X_after_ok (d := 94) hE x1 ⟨⟨_, rfl⟩, isW_wF, ?_⟩
  refine M_after_ok (d := 92) hE m1 ⟨congrArg (fun v => some (Value.int v)) e, ?_⟩
  exact Inv_i (Nat.le_succ_of_le hT) ((by rw [em]; exact h)) (hI) (hK) (hO2) (hX) (hP)

set_option maxRecDepth 10000 in
theorem op_book (hE : cl = sxE sc 99) (a0 : Int32) (a1 : Int32) : Agr cl Inv 125 229 [.int a0, .int a1] := by
  intro n hp hn hI0
  refine hI0 _ (fun im nrg nld nmt nps npl npw npr nss nso nsq nes neo neq ngs ngo ngq krg kld kmt kps kpl kpw kpr kss kso ksq kes keo keq kgs kgo kgq okn org osi oti ole oto oow oco ost owa owv owh olo ohi ora odi oqu skd sdp sfd sop str spr rsz rcl rsg rst mrg mkr mik msz gle gsu tat tfa cco cct cac caf cwe ms mkp mtx mso mmy mit gma gpi gst ghe gow gfa gqu glo ghi gby gib tto cfo cff ccl tp T e hT h hI hK hO hX hP => ?_)
  clear hI0
  subst e
  have e0 := h.1.1
  subst e0
  obtain ⟨q, x1, q', m1, e, hS⟩ := p_book a0 a1 h
  refine X_book_ok (d := 97) hE x1 ⟨⟨_, rfl⟩, isW_wF, ?_⟩
  refine M_book_ok (d := 96) hE m1 ⟨congrArg (fun v => some (Value.int v)) e, ?_⟩
  exact Inv_i (Nat.le_succ_of_le hT) (hS) (hI) (hK) (hO) (hX) (hP)

set_option maxRecDepth 10000 in
theorem op_looked (hE : cl = sxE sc 99)  : Agr cl Inv 126 230 [] := by
  intro n hp hn hI0
  refine hI0 _ (fun im nrg nld nmt nps npl npw npr nss nso nsq nes neo neq ngs ngo ngq krg kld kmt kps kpl kpw kpr kss kso ksq kes keo keq kgs kgo kgq okn org osi oti ole oto oow oco ost owa owv owh olo ohi ora odi oqu skd sdp sfd sop str spr rsz rcl rsg rst mrg mkr mik msz gle gsu tat tfa cco cct cac caf cwe ms mkp mtx mso mmy mit gma gpi gst ghe gow gfa gqu glo ghi gby gib tto cfo cff ccl tp T e hT h hI hK hO hX hP => ?_)
  clear hI0
  subst e
  have e0 := h.1.1
  subst e0
  obtain ⟨q, x1, m1⟩ := p_looked (w := mrg) h.2.2.2.2.2
  refine X_looked_ok (d := 96) hE x1 ⟨⟨_, rfl⟩, isW_wF, ?_⟩
  refine M_looked_ok (d := 97) hE m1 ⟨rfl, ?_⟩
  exact Inv_i (Nat.le_succ_of_le hT) (h) (hI) (hK) (hO) (hX) (hP)

set_option maxRecDepth 10000 in
theorem op_judge (hE : cl = sxE sc 99) (a0 : Int32) (a1 : Int32) : Agr cl Inv 127 232 [.int a0, .int a1] := by
  intro n hp hn hI0
  refine hI0 _ (fun im nrg nld nmt nps npl npw npr nss nso nsq nes neo neq ngs ngo ngq krg kld kmt kps kpl kpw kpr kss kso ksq kes keo keq kgs kgo kgq okn org osi oti ole oto oow oco ost owa owv owh olo ohi ora odi oqu skd sdp sfd sop str spr rsz rcl rsg rst mrg mkr mik msz gle gsu tat tfa cco cct cac caf cwe ms mkp mtx mso mmy mit gma gpi gst ghe gow gfa gqu glo ghi gby gib tto cfo cff ccl tp T e hT h hI hK hO hX hP => ?_)
  clear hI0
  subst e
  have e0 := h.1.1
  subst e0
  rcases tapc a0 with hn0 | c | c | c | c | c | c
  · obtain ⟨t1, t2⟩ := isTape_n hn0
    have x1 : X_judge a0 a1 = some (-1) := by
      unfold X_judge
      rw [if_pos t1]
    have m1 : M_judge a0 a1 mrg mso mmy mit = some (-1) := by
      unfold M_judge
      rw [if_pos t2]
    refine X_judge_ok (d := 97) hE x1 ⟨⟨_, rfl⟩, isW_wF, ?_⟩
    refine M_judge_ok (d := 96) hE m1 ⟨rfl, ?_⟩
    exact Inv_i (Nat.le_succ_of_le hT) (h) (hI) (hK) (hO) (hX) (hP)
  · subst c
    obtain ⟨q, x1, m1⟩ := p_judge (w := mrg) (t := 0) (by decide) a1 hP
    refine X_judge_2_ok (d := 96) hE x1 ⟨⟨_, rfl⟩, isW_wF, ?_⟩
    refine M_judge_ok (d := 96) hE m1 ⟨rfl, ?_⟩
    exact Inv_i (Nat.le_succ_of_le hT) (h) (hI) (hK) (hO) (hX) (hP)
  · subst c
    obtain ⟨q, x1, m1⟩ := p_judge (w := mrg) (t := 1) (by decide) a1 hP
    refine X_judge_3_ok (d := 96) hE x1 ⟨⟨_, rfl⟩, isW_wF, ?_⟩
    refine M_judge_ok (d := 96) hE m1 ⟨rfl, ?_⟩
    exact Inv_i (Nat.le_succ_of_le hT) (h) (hI) (hK) (hO) (hX) (hP)
  · subst c
    obtain ⟨q, x1, m1⟩ := p_judge (w := mrg) (t := 2) (by decide) a1 hP
    refine X_judge_4_ok (d := 96) hE x1 ⟨⟨_, rfl⟩, isW_wF, ?_⟩
    refine M_judge_ok (d := 96) hE m1 ⟨rfl, ?_⟩
    exact Inv_i (Nat.le_succ_of_le hT) (h) (hI) (hK) (hO) (hX) (hP)
  · subst c
    obtain ⟨q, x1, m1⟩ := p_judge (w := mrg) (t := 3) (by decide) a1 hP
    refine X_judge_5_ok (d := 96) hE x1 ⟨⟨_, rfl⟩, isW_wF, ?_⟩
    refine M_judge_ok (d := 96) hE m1 ⟨rfl, ?_⟩
    exact Inv_i (Nat.le_succ_of_le hT) (h) (hI) (hK) (hO) (hX) (hP)
  · subst c
    obtain ⟨q, x1, m1⟩ := p_judge (w := mrg) (t := 4) (by decide) a1 hP
    refine X_judge_6_ok (d := 96) hE x1 ⟨⟨_, rfl⟩, isW_wF, ?_⟩
    refine M_judge_ok (d := 96) hE m1 ⟨rfl, ?_⟩
    exact Inv_i (Nat.le_succ_of_le hT) (h) (hI) (hK) (hO) (hX) (hP)
  · subst c
    obtain ⟨q, x1, m1⟩ := p_judge (w := mrg) (t := 5) (by decide) a1 hP
    refine X_judge_7_ok (d := 96) hE x1 ⟨⟨_, rfl⟩, isW_wF, ?_⟩
    refine M_judge_ok (d := 96) hE m1 ⟨rfl, ?_⟩
    exact Inv_i (Nat.le_succ_of_le hT) (h) (hI) (hK) (hO) (hX) (hP)

set_option maxRecDepth 10000 in
theorem op_image (hE : cl = sxE sc 99)  : Agr cl Inv 128 234 [] := by
  intro n hp hn hI0
  refine hI0 _ (fun im nrg nld nmt nps npl npw npr nss nso nsq nes neo neq ngs ngo ngq krg kld kmt kps kpl kpw kpr kss kso ksq kes keo keq kgs kgo kgq okn org osi oti ole oto oow oco ost owa owv owh olo ohi ora odi oqu skd sdp sfd sop str spr rsz rcl rsg rst mrg mkr mik msz gle gsu tat tfa cco cct cac caf cwe ms mkp mtx mso mmy mit gma gpi gst ghe gow gfa gqu glo ghi gby gib tto cfo cff ccl tp T e hT h hI hK hO hX hP => ?_)
  clear hI0
  subst e
  have e0 := h.1.1
  subst e0
  obtain ⟨q, x1, q', m1, e, e1, e2, hS, hT2⟩ := p_image h hI kmt kpw kso ksq keo keq kgo kgq mkp
  refine X_image_ok (d := 95) hE x1 ⟨⟨_, rfl⟩, isW_wF, ?_⟩
  refine M_image_ok (d := 96) hE m1 ⟨congrArg (fun v => some (Value.int v)) e, ?_⟩
  exact Inv_i (Nat.le_succ_of_le hT) (h) (hI) (Or.inr ⟨e1, e2, hS, hT2⟩) (hO) (hX) (hP)

set_option maxRecDepth 10000 in
theorem op_undo (hE : cl = sxE sc 99)  : Agr cl Inv 129 235 [] := by
  intro n hp hn hI0
  refine hI0 _ (fun im nrg nld nmt nps npl npw npr nss nso nsq nes neo neq ngs ngo ngq krg kld kmt kps kpl kpw kpr kss kso ksq kes keo keq kgs kgo kgq okn org osi oti ole oto oow oco ost owa owv owh olo ohi ora odi oqu skd sdp sfd sop str spr rsz rcl rsg rst mrg mkr mik msz gle gsu tat tfa cco cct cac caf cwe ms mkp mtx mso mmy mit gma gpi gst ghe gow gfa gqu glo ghi gby gib tto cfo cff ccl tp T e hT h hI hK hO hX hP => ?_)
  clear hI0
  subst e
  have e0 := h.1.1
  subst e0
  obtain ⟨q, x1, q', m1, e, hS, hT2⟩ := p_undo h hI hK
  refine X_undo_ok (d := 95) hE x1 ⟨⟨_, rfl⟩, isW_wF, ?_⟩
  refine M_undo_ok (d := 96) hE m1 ⟨congrArg (fun v => some (Value.int v)) e, ?_⟩
  exact Inv_i (Nat.le_succ_of_le hT) (hS) (hT2) (hK) (hO) (hX) (hP)

set_option maxRecDepth 10000 in
theorem op_count (hE : cl = sxE sc 99) (a0 : Int32) : Agr cl Inv 130 236 [.int a0] := by
  intro n hp hn hI0
  refine hI0 _ (fun im nrg nld nmt nps npl npw npr nss nso nsq nes neo neq ngs ngo ngq krg kld kmt kps kpl kpw kpr kss kso ksq kes keo keq kgs kgo kgq okn org osi oti ole oto oow oco ost owa owv owh olo ohi ora odi oqu skd sdp sfd sop str spr rsz rcl rsg rst mrg mkr mik msz gle gsu tat tfa cco cct cac caf cwe ms mkp mtx mso mmy mit gma gpi gst ghe gow gfa gqu glo ghi gby gib tto cfo cff ccl tp T e hT h hI hK hO hX hP => ?_)
  clear hI0
  subst e
  have e0 := h.1.1
  subst e0
  have m1 := p_count a0 h hX
  refine X_count_ok (d := 98) hE rfl ⟨⟨_, rfl⟩, isW_wF, ?_⟩
  refine M_count_ok (d := 98) hE m1 ⟨rfl, ?_⟩
  exact Inv_i (Nat.le_succ_of_le hT) (h) (hI) (hK) (hO) (hX) (hP)
end OPS
