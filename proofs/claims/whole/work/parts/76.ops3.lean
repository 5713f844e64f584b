/-! each call keeps it: tapes -/
section OPS
variable {cl : sxX} {sc : sxS}
set_option maxRecDepth 10000 in
theorem op_tape (hE : cl = sxE sc 99) (a0 : Int32) (a1 : Int32) (a2 : Int32) : Agr cl Inv 131 237 [.int a0, .int a1, .int a2] := by
  intro n hp hn hI0
  refine hI0 _ (fun im nrg nld nmt nps npl npw npr nss nso nsq nes neo neq ngs ngo ngq krg kld kmt kps kpl kpw kpr kss kso ksq kes keo keq kgs kgo kgq okn org osi oti ole oto oow oco ost owa owv owh olo ohi ora odi oqu skd sdp sfd sop str spr rsz rcl rsg rst mrg mkr mik msz gle gsu tat tfa cco cct cac caf cwe ms mkp mtx mso mmy mit gma gpi gst ghe gow gfa gqu glo ghi gby gib tto cfo cff ccl tp T e hT h hI hK hO hX hP => ?_)
  clear hI0
  subst e
  have e0 := h.1.1
  subst e0
  rcases tapc a0 with hn0 | c | c | c | c | c | c
  · obtain ⟨t1, t2⟩ := isTape_n hn0
    have x1 : X_tape a0 a1 a2 = some (-1) := by
      unfold X_tape
      rw [if_pos t1]
    have m1 : M_tape a0 a1 a2 mso mmy mit = some ((-1), mso, mmy, mit) := by
      unfold M_tape
      rw [if_pos t2]
    refine X_tape_ok (d := 97) hE x1 ⟨⟨_, rfl⟩, isW_wF, ?_⟩
    refine M_tape_ok (d := 96) hE m1 ⟨rfl, ?_⟩
    exact Inv_i (Nat.le_succ_of_le hT) (h) (hI) (hK) (hO) (hX) (hP)
  · subst c
    obtain ⟨q, x1, q', m1, e, hP2⟩ := p_tape (t := 0) (by decide) a1 a2 hP
    refine X_tape_2_ok (d := 96) hE x1 ⟨⟨_, rfl⟩, isW_wF, ?_⟩
    refine M_tape_ok (d := 96) hE m1 ⟨congrArg (fun v => some (Value.int v)) e, ?_⟩
    exact Inv_i (Nat.le_succ_of_le hT) (h) (hI) (hK) (hO) (hX) (hP2)
  · subst c
    obtain ⟨q, x1, q', m1, e, hP2⟩ := p_tape (t := 1) (by decide) a1 a2 hP
    refine X_tape_3_ok (d := 96) hE x1 ⟨⟨_, rfl⟩, isW_wF, ?_⟩
    refine M_tape_ok (d := 96) hE m1 ⟨congrArg (fun v => some (Value.int v)) e, ?_⟩
    exact Inv_i (Nat.le_succ_of_le hT) (h) (hI) (hK) (hO) (hX) (hP2)
  · subst c
    obtain ⟨q, x1, q', m1, e, hP2⟩ := p_tape (t := 2) (by decide) a1 a2 hP
    refine X_tape_4_ok (d := 96) hE x1 ⟨⟨_, rfl⟩, isW_wF, ?_⟩
    refine M_tape_ok (d := 96) hE m1 ⟨congrArg (fun v => some (Value.int v)) e, ?_⟩
    exact Inv_i (Nat.le_succ_of_le hT) (h) (hI) (hK) (hO) (hX) (hP2)
  · subst c
    obtain ⟨q, x1, q', m1, e, hP2⟩ := p_tape (t := 3) (by decide) a1 a2 hP
    refine X_tape_5_ok (d := 96) hE x1 ⟨⟨_, rfl⟩, isW_wF, ?_⟩
    refine M_tape_ok (d := 96) hE m1 ⟨congrArg (fun v => some (Value.int v)) e, ?_⟩
    exact Inv_i (Nat.le_succ_of_le hT) (h) (hI) (hK) (hO) (hX) (hP2)
  · subst c
    obtain ⟨q, x1, q', m1, e, hP2⟩ := p_tape (t := 4) (by decide) a1 a2 hP
    refine X_tape_6_ok (d := 96) hE x1 ⟨⟨_, rfl⟩, isW_wF, ?_⟩
    refine M_tape_ok (d := 96) hE m1 ⟨congrArg (fun v => some (Value.int v)) e, ?_⟩
    exact Inv_i (Nat.le_succ_of_le hT) (h) (hI) (hK) (hO) (hX) (hP2)
  · subst c
    obtain ⟨q, x1, q', m1, e, hP2⟩ := p_tape (t := 5) (by decide) a1 a2 hP
    refine X_tape_7_ok (d := 96) hE x1 ⟨⟨_, rfl⟩, isW_wF, ?_⟩
    refine M_tape_ok (d := 96) hE m1 ⟨congrArg (fun v => some (Value.int v)) e, ?_⟩
    exact Inv_i (Nat.le_succ_of_le hT) (h) (hI) (hK) (hO) (hX) (hP2)

set_option maxRecDepth 10000 in
theorem op_item (hE : cl = sxE sc 99) (a0 : Int32) (a1 : Int32) (a2 : Int64) : Agr cl Inv 132 239 [.int a0, .int a1, .long a2] := by
  intro n hp hn hI0
  refine hI0 _ (fun im nrg nld nmt nps npl npw npr nss nso nsq nes neo neq ngs ngo ngq krg kld kmt kps kpl kpw kpr kss kso ksq kes keo keq kgs kgo kgq okn org osi oti ole oto oow oco ost owa owv owh olo ohi ora odi oqu skd sdp sfd sop str spr rsz rcl rsg rst mrg mkr mik msz gle gsu tat tfa cco cct cac caf cwe ms mkp mtx mso mmy mit gma gpi gst ghe gow gfa gqu glo ghi gby gib tto cfo cff ccl tp T e hT h hI hK hO hX hP => ?_)
  clear hI0
  subst e
  have e0 := h.1.1
  subst e0
  rcases tapc a0 with hn0 | c | c | c | c | c | c
  · obtain ⟨t1, t2⟩ := isTape_n hn0
    have x1 : X_item a0 a1 a2 = some (-1) := by
      unfold X_item
      rw [if_pos t1]
    have m1 : M_item a0 a1 a2 mso mmy mit = some ((-1), mit) := by
      unfold M_item
      rw [if_pos t2]
    refine X_item_ok (d := 97) hE x1 ⟨⟨_, rfl⟩, isW_wF, ?_⟩
    refine M_item_ok (d := 96) hE m1 ⟨rfl, ?_⟩
    exact Inv_i (Nat.le_succ_of_le hT) (h) (hI) (hK) (hO) (hX) (hP)
  · subst c
    obtain ⟨q, x1, q', m1, e, hP2⟩ := p_item (t := 0) (by decide) a1 a2 hP
    refine X_item_2_ok (d := 96) hE x1 ⟨⟨_, rfl⟩, isW_wF, ?_⟩
    refine M_item_ok (d := 96) hE m1 ⟨congrArg (fun v => some (Value.int v)) e, ?_⟩
    exact Inv_i (Nat.le_succ_of_le hT) (h) (hI) (hK) (hO) (hX) (hP2)
  · subst c
    obtain ⟨q, x1, q', m1, e, hP2⟩ := p_item (t := 1) (by decide) a1 a2 hP
    refine X_item_3_ok (d := 96) hE x1 ⟨⟨_, rfl⟩, isW_wF, ?_⟩
    refine M_item_ok (d := 96) hE m1 ⟨congrArg (fun v => some (Value.int v)) e, ?_⟩
    exact Inv_i (Nat.le_succ_of_le hT) (h) (hI) (hK) (hO) (hX) (hP2)
  · subst c
    obtain ⟨q, x1, q', m1, e, hP2⟩ := p_item (t := 2) (by decide) a1 a2 hP
    refine X_item_4_ok (d := 96) hE x1 ⟨⟨_, rfl⟩, isW_wF, ?_⟩
    refine M_item_ok (d := 96) hE m1 ⟨congrArg (fun v => some (Value.int v)) e, ?_⟩
    exact Inv_i (Nat.le_succ_of_le hT) (h) (hI) (hK) (hO) (hX) (hP2)
  · subst c
    obtain ⟨q, x1, q', m1, e, hP2⟩ := p_item (t := 3) (by decide) a1 a2 hP
    refine X_item_5_ok (d := 96) hE x1 ⟨⟨_, rfl⟩, isW_wF, ?_⟩
    refine M_item_ok (d := 96) hE m1 ⟨congrArg (fun v => some (Value.int v)) e, ?_⟩
    exact Inv_i (Nat.le_succ_of_le hT) (h) (hI) (hK) (hO) (hX) (hP2)
  · subst c
    obtain ⟨q, x1, q', m1, e, hP2⟩ := p_item (t := 4) (by decide) a1 a2 hP
    refine X_item_6_ok (d := 96) hE x1 ⟨⟨_, rfl⟩, isW_wF, ?_⟩
    refine M_item_ok (d := 96) hE m1 ⟨congrArg (fun v => some (Value.int v)) e, ?_⟩
    exact Inv_i (Nat.le_succ_of_le hT) (h) (hI) (hK) (hO) (hX) (hP2)
  · subst c
    obtain ⟨q, x1, q', m1, e, hP2⟩ := p_item (t := 5) (by decide) a1 a2 hP
    refine X_item_7_ok (d := 96) hE x1 ⟨⟨_, rfl⟩, isW_wF, ?_⟩
    refine M_item_ok (d := 96) hE m1 ⟨congrArg (fun v => some (Value.int v)) e, ?_⟩
    exact Inv_i (Nat.le_succ_of_le hT) (h) (hI) (hK) (hO) (hX) (hP2)

set_option maxRecDepth 10000 in
theorem op_peek (hE : cl = sxE sc 99) (a0 : Int32) (a1 : Int32) : AgrL cl Inv 133 240 [.int a0, .int a1] := by
  intro n hp hn hI0
  refine hI0 _ (fun im nrg nld nmt nps npl npw npr nss nso nsq nes neo neq ngs ngo ngq krg kld kmt kps kpl kpw kpr kss kso ksq kes keo keq kgs kgo kgq okn org osi oti ole oto oow oco ost owa owv owh olo ohi ora odi oqu skd sdp sfd sop str spr rsz rcl rsg rst mrg mkr mik msz gle gsu tat tfa cco cct cac caf cwe ms mkp mtx mso mmy mit gma gpi gst ghe gow gfa gqu glo ghi gby gib tto cfo cff ccl tp T e hT h hI hK hO hX hP => ?_)
  clear hI0
  subst e
  have e0 := h.1.1
  subst e0
  rcases tapc a0 with hn0 | c | c | c | c | c | c
  · obtain ⟨t1, t2⟩ := isTape_n hn0
    have x1 : X_peek a0 a1 = some (-9223372036854775808) := by
      unfold X_peek
      rw [if_pos t1]
    have m1 : M_peek a0 a1 mmy mit = some (-9223372036854775808) := by
      unfold M_peek M_peek_j37 M_peek_j40
      rw [if_pos t2]
    refine X_peek_ok (d := 97) hE x1 ⟨⟨_, rfl⟩, isW_wF, ?_⟩
    refine M_peek_ok (d := 96) hE m1 ⟨rfl, ?_⟩
    exact Inv_i (Nat.le_succ_of_le hT) (h) (hI) (hK) (hO) (hX) (hP)
  · subst c
    obtain ⟨q, x1, m1⟩ := p_peek (t := 0) (by decide) a1 hP
    refine X_peek_2_ok (d := 96) hE x1 ⟨⟨_, rfl⟩, isW_wF, ?_⟩
    refine M_peek_ok (d := 96) hE m1 ⟨rfl, ?_⟩
    exact Inv_i (Nat.le_succ_of_le hT) (h) (hI) (hK) (hO) (hX) (hP)
  · subst c
    obtain ⟨q, x1, m1⟩ := p_peek (t := 1) (by decide) a1 hP
    refine X_peek_3_ok (d := 96) hE x1 ⟨⟨_, rfl⟩, isW_wF, ?_⟩
    refine M_peek_ok (d := 96) hE m1 ⟨rfl, ?_⟩
    exact Inv_i (Nat.le_succ_of_le hT) (h) (hI) (hK) (hO) (hX) (hP)
  · subst c
    obtain ⟨q, x1, m1⟩ := p_peek (t := 2) (by decide) a1 hP
    refine X_peek_4_ok (d := 96) hE x1 ⟨⟨_, rfl⟩, isW_wF, ?_⟩
    refine M_peek_ok (d := 96) hE m1 ⟨rfl, ?_⟩
    exact Inv_i (Nat.le_succ_of_le hT) (h) (hI) (hK) (hO) (hX) (hP)
  · subst c
    obtain ⟨q, x1, m1⟩ := p_peek (t := 3) (by decide) a1 hP
    refine X_peek_5_ok (d := 96) hE x1 ⟨⟨_, rfl⟩, isW_wF, ?_⟩
    refine M_peek_ok (d := 96) hE m1 ⟨rfl, ?_⟩
    exact Inv_i (Nat.le_succ_of_le hT) (h) (hI) (hK) (hO) (hX) (hP)
  · subst c
    obtain ⟨q, x1, m1⟩ := p_peek (t := 4) (by decide) a1 hP
    refine X_peek_6_ok (d := 96) hE x1 ⟨⟨_, rfl⟩, isW_wF, ?_⟩
    refine M_peek_ok (d := 96) hE m1 ⟨rfl, ?_⟩
    exact Inv_i (Nat.le_succ_of_le hT) (h) (hI) (hK) (hO) (hX) (hP)
  · subst c
    obtain ⟨q, x1, m1⟩ := p_peek (t := 5) (by decide) a1 hP
    refine X_peek_7_ok (d := 96) hE x1 ⟨⟨_, rfl⟩, isW_wF, ?_⟩
    refine M_peek_ok (d := 96) hE m1 ⟨rfl, ?_⟩
    exact Inv_i (Nat.le_succ_of_le hT) (h) (hI) (hK) (hO) (hX) (hP)

set_option maxRecDepth 10000 in
theorem op_shift (hE : cl = sxE sc 99) (a0 : Int32) (a1 : Int32) (a2 : Int32) (a3 : Int32) (a4 : Int32) : Agr cl Inv 134 241 [.int a0, .int a1, .int a2, .int a3, .int a4] := by
  intro n hp hn hI0
  refine hI0 _ (fun im nrg nld nmt nps npl npw npr nss nso nsq nes neo neq ngs ngo ngq krg kld kmt kps kpl kpw kpr kss kso ksq kes keo keq kgs kgo kgq okn org osi oti ole oto oow oco ost owa owv owh olo ohi ora odi oqu skd sdp sfd sop str spr rsz rcl rsg rst mrg mkr mik msz gle gsu tat tfa cco cct cac caf cwe ms mkp mtx mso mmy mit gma gpi gst ghe gow gfa gqu glo ghi gby gib tto cfo cff ccl tp T e hT h hI hK hO hX hP => ?_)
  clear hI0
  subst e
  have e0 := h.1.1
  subst e0
  have hTl : T.length + 81 < 1000000 := by omega
  by_cases c0 : ∀ t, t < 6 → a0 ≠ nI t
  · obtain ⟨t1, t2⟩ := isTape_n c0
    have x1 : X_shift a0 a1 a2 a3 a4 = some (-1) := by
      unfold X_shift X_shift_j14
      rw [if_pos t1]
    have m1 : M_shift a0 a1 a2 a3 a4 mso mmy mit = some ((-1), mit, none) := by
      unfold M_shift M_shift_j14
      rw [if_pos t2]
    refine X_shift_ok (d := 97) hE x1 ⟨⟨_, rfl⟩, isW_wF, ?_⟩
    refine M_shift_ok hTl (d := 96) hE m1 ⟨rfl, ?_⟩
    exact Inv_i ((tl_len hT)) (h) (hI) (hK) (hO) (hX) (hP)
  by_cases c1 : ∀ t, t < 6 → a2 ≠ nI t
  · obtain ⟨t1, t2⟩ := isTape_n c1
    have x1 : X_shift a0 a1 a2 a3 a4 = some (-1) := by
      unfold X_shift X_shift_j14
      by_cases z : X_isTape a0 = 0
      · rw [if_pos z]
      · rw [if_neg z, if_pos t1]
    have m1 : M_shift a0 a1 a2 a3 a4 mso mmy mit = some ((-1), mit, none) := by
      unfold M_shift M_shift_j14
      by_cases z : M_isTape a0 = 0
      · rw [if_pos z]
      · rw [if_neg z, if_pos t2]
    refine X_shift_ok (d := 97) hE x1 ⟨⟨_, rfl⟩, isW_wF, ?_⟩
    refine M_shift_ok hTl (d := 96) hE m1 ⟨rfl, ?_⟩
    exact Inv_i ((tl_len hT)) (h) (hI) (hK) (hO) (hX) (hP)
  rcases tapc a0 with c | c | c | c | c | c | c
  · exact absurd c c0
  · subst c
    rcases tapc a2 with c | c | c | c | c | c | c
    · exact absurd c c1
    · subst c
      obtain ⟨q, x1, q', m1, e, hP2⟩ := p_shift0 (t := 0) (by decide) a1 a3 a4 hP
      refine X_shift_2_ok (d := 96) hE x1 ⟨⟨_, rfl⟩, isW_wF, ?_⟩
      refine M_shift_ok hTl (d := 96) hE m1 ⟨congrArg (fun v => some (Value.int v)) e, ?_⟩
      exact Inv_i ((tl_len hT)) (h) (hI) (hK) (hO) (hX) (hP2)
    · subst c
      obtain ⟨q, x1, q', m1, e, hP2⟩ := p_shift1 (t := 0) (u := 1) (by decide) (by decide) a1 a3 a4 hP
      refine X_shift_3_ok (d := 96) hE x1 ⟨⟨_, rfl⟩, isW_wF, ?_⟩
      refine M_shift_ok hTl (d := 96) hE m1 ⟨congrArg (fun v => some (Value.int v)) e, ?_⟩
      exact Inv_i ((tl_len hT)) (h) (hI) (hK) (hO) (hX) (hP2)
    · subst c
      obtain ⟨q, x1, q', m1, e, hP2⟩ := p_shift1 (t := 0) (u := 2) (by decide) (by decide) a1 a3 a4 hP
      refine X_shift_4_ok (d := 96) hE x1 ⟨⟨_, rfl⟩, isW_wF, ?_⟩
      refine M_shift_ok hTl (d := 96) hE m1 ⟨congrArg (fun v => some (Value.int v)) e, ?_⟩
      exact Inv_i ((tl_len hT)) (h) (hI) (hK) (hO) (hX) (hP2)
    · subst c
      obtain ⟨q, x1, q', m1, e, hP2⟩ := p_shift1 (t := 0) (u := 3) (by decide) (by decide) a1 a3 a4 hP
      refine X_shift_5_ok (d := 96) hE x1 ⟨⟨_, rfl⟩, isW_wF, ?_⟩
      refine M_shift_ok hTl (d := 96) hE m1 ⟨congrArg (fun v => some (Value.int v)) e, ?_⟩
      exact Inv_i ((tl_len hT)) (h) (hI) (hK) (hO) (hX) (hP2)
    · subst c
      obtain ⟨q, x1, q', m1, e, hP2⟩ := p_shift1 (t := 0) (u := 4) (by decide) (by decide) a1 a3 a4 hP
      refine X_shift_6_ok (d := 96) hE x1 ⟨⟨_, rfl⟩, isW_wF, ?_⟩
      refine M_shift_ok hTl (d := 96) hE m1 ⟨congrArg (fun v => some (Value.int v)) e, ?_⟩
      exact Inv_i ((tl_len hT)) (h) (hI) (hK) (hO) (hX) (hP2)
    · subst c
      obtain ⟨q, x1, q', m1, e, hP2⟩ := p_shift1 (t := 0) (u := 5) (by decide) (by decide) a1 a3 a4 hP
      refine X_shift_7_ok (d := 96) hE x1 ⟨⟨_, rfl⟩, isW_wF, ?_⟩
      refine M_shift_ok hTl (d := 96) hE m1 ⟨congrArg (fun v => some (Value.int v)) e, ?_⟩
      exact Inv_i ((tl_len hT)) (h) (hI) (hK) (hO) (hX) (hP2)
  · subst c
    rcases tapc a2 with c | c | c | c | c | c | c
    · exact absurd c c1
    · subst c
      obtain ⟨q, x1, q', m1, e, hP2⟩ := p_shift1 (t := 1) (u := 0) (by decide) (by decide) a1 a3 a4 hP
      refine X_shift_8_ok (d := 96) hE ((shift_83 _ _ _ _ _ _ _ _ _ _ _).trans x1) ⟨⟨_, rfl⟩, isW_wF, ?_⟩
      refine M_shift_ok hTl (d := 96) hE m1 ⟨congrArg (fun v => some (Value.int v)) e, ?_⟩
      exact Inv_i ((tl_len hT)) (h) (hI) (hK) (hO) (hX) (hP2)
    · subst c
      obtain ⟨q, x1, q', m1, e, hP2⟩ := p_shift0 (t := 1) (by decide) a1 a3 a4 hP
      refine X_shift_9_ok (d := 96) hE x1 ⟨⟨_, rfl⟩, isW_wF, ?_⟩
      refine M_shift_ok hTl (d := 96) hE m1 ⟨congrArg (fun v => some (Value.int v)) e, ?_⟩
      exact Inv_i ((tl_len hT)) (h) (hI) (hK) (hO) (hX) (hP2)
    · subst c
      obtain ⟨q, x1, q', m1, e, hP2⟩ := p_shift1 (t := 1) (u := 2) (by decide) (by decide) a1 a3 a4 hP
      refine X_shift_10_ok (d := 96) hE x1 ⟨⟨_, rfl⟩, isW_wF, ?_⟩
      refine M_shift_ok hTl (d := 96) hE m1 ⟨congrArg (fun v => some (Value.int v)) e, ?_⟩
      exact Inv_i ((tl_len hT)) (h) (hI) (hK) (hO) (hX) (hP2)
    · subst c
      obtain ⟨q, x1, q', m1, e, hP2⟩ := p_shift1 (t := 1) (u := 3) (by decide) (by decide) a1 a3 a4 hP
      refine X_shift_11_ok (d := 96) hE x1 ⟨⟨_, rfl⟩, isW_wF, ?_⟩
      refine M_shift_ok hTl (d := 96) hE m1 ⟨congrArg (fun v => some (Value.int v)) e, ?_⟩
      exact Inv_i ((tl_len hT)) (h) (hI) (hK) (hO) (hX) (hP2)
    · subst c
      obtain ⟨q, x1, q', m1, e, hP2⟩ := p_shift1 (t := 1) (u := 4) (by decide) (by decide) a1 a3 a4 hP
      refine X_shift_12_ok (d := 96) hE x1 ⟨⟨_, rfl⟩, isW_wF, ?_⟩
      refine M_shift_ok hTl (d := 96) hE m1 ⟨congrArg (fun v => some (Value.int v)) e, ?_⟩
      exact Inv_i ((tl_len hT)) (h) (hI) (hK) (hO) (hX) (hP2)
    · subst c
      obtain ⟨q, x1, q', m1, e, hP2⟩ := p_shift1 (t := 1) (u := 5) (by decide) (by decide) a1 a3 a4 hP
      refine X_shift_13_ok (d := 96) hE x1 ⟨⟨_, rfl⟩, isW_wF, ?_⟩
      refine M_shift_ok hTl (d := 96) hE m1 ⟨congrArg (fun v => some (Value.int v)) e, ?_⟩
      exact Inv_i ((tl_len hT)) (h) (hI) (hK) (hO) (hX) (hP2)
  · subst c
    rcases tapc a2 with c | c | c | c | c | c | c
    · exact absurd c c1
    · subst c
      obtain ⟨q, x1, q', m1, e, hP2⟩ := p_shift1 (t := 2) (u := 0) (by decide) (by decide) a1 a3 a4 hP
      refine X_shift_14_ok (d := 96) hE ((shift_83 _ _ _ _ _ _ _ _ _ _ _).trans x1) ⟨⟨_, rfl⟩, isW_wF, ?_⟩
      refine M_shift_ok hTl (d := 96) hE m1 ⟨congrArg (fun v => some (Value.int v)) e, ?_⟩
      exact Inv_i ((tl_len hT)) (h) (hI) (hK) (hO) (hX) (hP2)
    · subst c
      obtain ⟨q, x1, q', m1, e, hP2⟩ := p_shift1 (t := 2) (u := 1) (by decide) (by decide) a1 a3 a4 hP
      refine X_shift_15_ok (d := 96) hE ((shift_83 _ _ _ _ _ _ _ _ _ _ _).trans x1) ⟨⟨_, rfl⟩, isW_wF, ?_⟩
      refine M_shift_ok hTl (d := 96) hE m1 ⟨congrArg (fun v => some (Value.int v)) e, ?_⟩
      exact Inv_i ((tl_len hT)) (h) (hI) (hK) (hO) (hX) (hP2)
    · subst c
      obtain ⟨q, x1, q', m1, e, hP2⟩ := p_shift0 (t := 2) (by decide) a1 a3 a4 hP
      refine X_shift_16_ok (d := 96) hE x1 ⟨⟨_, rfl⟩, isW_wF, ?_⟩
      refine M_shift_ok hTl (d := 96) hE m1 ⟨congrArg (fun v => some (Value.int v)) e, ?_⟩
      exact Inv_i ((tl_len hT)) (h) (hI) (hK) (hO) (hX) (hP2)
    · subst c
      obtain ⟨q, x1, q', m1, e, hP2⟩ := p_shift1 (t := 2) (u := 3) (by decide) (by decide) a1 a3 a4 hP
      refine X_shift_17_ok (d := 96) hE x1 ⟨⟨_, rfl⟩, isW_wF, ?_⟩
      refine M_shift_ok hTl (d := 96) hE m1 ⟨congrArg (fun v => some (Value.int v)) e, ?_⟩
      exact Inv_i ((tl_len hT)) (h) (hI) (hK) (hO) (hX) (hP2)
    · subst c
      obtain ⟨q, x1, q', m1, e, hP2⟩ := p_shift1 (t := 2) (u := 4) (by decide) (by decide) a1 a3 a4 hP
      refine X_shift_18_ok (d := 96) hE x1 ⟨⟨_, rfl⟩, isW_wF, ?_⟩
      refine M_shift_ok hTl (d := 96) hE m1 ⟨congrArg (fun v => some (Value.int v)) e, ?_⟩
      exact Inv_i ((tl_len hT)) (h) (hI) (hK) (hO) (hX) (hP2)
    · subst c
      obtain ⟨q, x1, q', m1, e, hP2⟩ := p_shift1 (t := 2) (u := 5) (by decide) (by decide) a1 a3 a4 hP
      refine X_shift_19_ok (d := 96) hE x1 ⟨⟨_, rfl⟩, isW_wF, ?_⟩
      refine M_shift_ok hTl (d := 96) hE m1 ⟨congrArg (fun v => some (Value.int v)) e, ?_⟩
      exact Inv_i ((tl_len hT)) (h) (hI) (hK) (hO) (hX) (hP2)
  · subst c
    rcases tapc a2 with c | c | c | c | c | c | c
    · exact absurd c c1
    · subst c
      obtain ⟨q, x1, q', m1, e, hP2⟩ := p_shift1 (t := 3) (u := 0) (by decide) (by decide) a1 a3 a4 hP
      refine X_shift_20_ok (d := 96) hE ((shift_83 _ _ _ _ _ _ _ _ _ _ _).trans x1) ⟨⟨_, rfl⟩, isW_wF, ?_⟩
      refine M_shift_ok hTl (d := 96) hE m1 ⟨congrArg (fun v => some (Value.int v)) e, ?_⟩
      exact Inv_i ((tl_len hT)) (h) (hI) (hK) (hO) (hX) (hP2)
    · subst c
      obtain ⟨q, x1, q', m1, e, hP2⟩ := p_shift1 (t := 3) (u := 1) (by decide) (by decide) a1 a3 a4 hP
      refine X_shift_21_ok (d := 96) hE ((shift_83 _ _ _ _ _ _ _ _ _ _ _).trans x1) ⟨⟨_, rfl⟩, isW_wF, ?_⟩
      refine M_shift_ok hTl (d := 96) hE m1 ⟨congrArg (fun v => some (Value.int v)) e, ?_⟩
      exact Inv_i ((tl_len hT)) (h) (hI) (hK) (hO) (hX) (hP2)
    · subst c
      obtain ⟨q, x1, q', m1, e, hP2⟩ := p_shift1 (t := 3) (u := 2) (by decide) (by decide) a1 a3 a4 hP
      refine X_shift_22_ok (d := 96) hE ((shift_83 _ _ _ _ _ _ _ _ _ _ _).trans x1) ⟨⟨_, rfl⟩, isW_wF, ?_⟩
      refine M_shift_ok hTl (d := 96) hE m1 ⟨congrArg (fun v => some (Value.int v)) e, ?_⟩
      exact Inv_i ((tl_len hT)) (h) (hI) (hK) (hO) (hX) (hP2)
    · subst c
      obtain ⟨q, x1, q', m1, e, hP2⟩ := p_shift0 (t := 3) (by decide) a1 a3 a4 hP
      refine X_shift_23_ok (d := 96) hE x1 ⟨⟨_, rfl⟩, isW_wF, ?_⟩
      refine M_shift_ok hTl (d := 96) hE m1 ⟨congrArg (fun v => some (Value.int v)) e, ?_⟩
      exact Inv_i ((tl_len hT)) (h) (hI) (hK) (hO) (hX) (hP2)
    · subst c
      obtain ⟨q, x1, q', m1, e, hP2⟩ := p_shift1 (t := 3) (u := 4) (by decide) (by decide) a1 a3 a4 hP
      refine X_shift_24_ok (d := 96) hE x1 ⟨⟨_, rfl⟩, isW_wF, ?_⟩
      refine M_shift_ok hTl (d := 96) hE m1 ⟨congrArg (fun v => some (Value.int v)) e, ?_⟩
      exact Inv_i ((tl_len hT)) (h) (hI) (hK) (hO) (hX) (hP2)
    · subst c
      obtain ⟨q, x1, q', m1, e, hP2⟩ := p_shift1 (t := 3) (u := 5) (by decide) (by decide) a1 a3 a4 hP
      refine X_shift_25_ok (d := 96) hE x1 ⟨⟨_, rfl⟩, isW_wF, ?_⟩
      refine M_shift_ok hTl (d := 96) hE m1 ⟨congrArg (fun v => some (Value.int v)) e, ?_⟩
      exact Inv_i ((tl_len hT)) (h) (hI) (hK) (hO) (hX) (hP2)
  · subst c
    rcases tapc a2 with c | c | c | c | c | c | c
    · exact absurd c c1
    · subst c
      obtain ⟨q, x1, q', m1, e, hP2⟩ := p_shift1 (t := 4) (u := 0) (by decide) (by decide) a1 a3 a4 hP
      refine X_shift_26_ok (d := 96) hE ((shift_83 _ _ _ _ _ _ _ _ _ _ _).trans x1) ⟨⟨_, rfl⟩, isW_wF, ?_⟩
      refine M_shift_ok hTl (d := 96) hE m1 ⟨congrArg (fun v => some (Value.int v)) e, ?_⟩
      exact Inv_i ((tl_len hT)) (h) (hI) (hK) (hO) (hX) (hP2)
    · subst c
      obtain ⟨q, x1, q', m1, e, hP2⟩ := p_shift1 (t := 4) (u := 1) (by decide) (by decide) a1 a3 a4 hP
      refine X_shift_27_ok (d := 96) hE ((shift_83 _ _ _ _ _ _ _ _ _ _ _).trans x1) ⟨⟨_, rfl⟩, isW_wF, ?_⟩
      refine M_shift_ok hTl (d := 96) hE m1 ⟨congrArg (fun v => some (Value.int v)) e, ?_⟩
      exact Inv_i ((tl_len hT)) (h) (hI) (hK) (hO) (hX) (hP2)
    · subst c
      obtain ⟨q, x1, q', m1, e, hP2⟩ := p_shift1 (t := 4) (u := 2) (by decide) (by decide) a1 a3 a4 hP
      refine X_shift_28_ok (d := 96) hE ((shift_83 _ _ _ _ _ _ _ _ _ _ _).trans x1) ⟨⟨_, rfl⟩, isW_wF, ?_⟩
      refine M_shift_ok hTl (d := 96) hE m1 ⟨congrArg (fun v => some (Value.int v)) e, ?_⟩
      exact Inv_i ((tl_len hT)) (h) (hI) (hK) (hO) (hX) (hP2)
    · subst c
      obtain ⟨q, x1, q', m1, e, hP2⟩ := p_shift1 (t := 4) (u := 3) (by decide) (by decide) a1 a3 a4 hP
      refine X_shift_29_ok (d := 96) hE ((shift_83 _ _ _ _ _ _ _ _ _ _ _).trans x1) ⟨⟨_, rfl⟩, isW_wF, ?_⟩
      refine M_shift_ok hTl (d := 96) hE m1 ⟨congrArg (fun v => some (Value.int v)) e, ?_⟩
      exact Inv_i ((tl_len hT)) (h) (hI) (hK) (hO) (hX) (hP2)
    · subst c
      obtain ⟨q, x1, q', m1, e, hP2⟩ := p_shift0 (t := 4) (by decide) a1 a3 a4 hP
      refine X_shift_30_ok (d := 96) hE x1 ⟨⟨_, rfl⟩, isW_wF, ?_⟩
      refine M_shift_ok hTl (d := 96) hE m1 ⟨congrArg (fun v => some (Value.int v)) e, ?_⟩
      exact Inv_i ((tl_len hT)) (h) (hI) (hK) (hO) (hX) (hP2)
    · subst c
      obtain ⟨q, x1, q', m1, e, hP2⟩ := p_shift1 (t := 4) (u := 5) (by decide) (by decide) a1 a3 a4 hP
      refine X_shift_31_ok (d := 96) hE x1 ⟨⟨_, rfl⟩, isW_wF, ?_⟩
      refine M_shift_ok hTl (d := 96) hE m1 ⟨congrArg (fun v => some (Value.int v)) e, ?_⟩
      exact Inv_i ((tl_len hT)) (h) (hI) (hK) (hO) (hX) (hP2)
  · subst c
    rcases tapc a2 with c | c | c | c | c | c | c
    · exact absurd c c1
    · subst c
      obtain ⟨q, x1, q', m1, e, hP2⟩ := p_shift1 (t := 5) (u := 0) (by decide) (by decide) a1 a3 a4 hP
      refine X_shift_32_ok (d := 96) hE ((shift_83 _ _ _ _ _ _ _ _ _ _ _).trans x1) ⟨⟨_, rfl⟩, isW_wF, ?_⟩
      refine M_shift_ok hTl (d := 96) hE m1 ⟨congrArg (fun v => some (Value.int v)) e, ?_⟩
      exact Inv_i ((tl_len hT)) (h) (hI) (hK) (hO) (hX) (hP2)
    · subst c
      obtain ⟨q, x1, q', m1, e, hP2⟩ := p_shift1 (t := 5) (u := 1) (by decide) (by decide) a1 a3 a4 hP
      refine X_shift_33_ok (d := 96) hE ((shift_83 _ _ _ _ _ _ _ _ _ _ _).trans x1) ⟨⟨_, rfl⟩, isW_wF, ?_⟩
      refine M_shift_ok hTl (d := 96) hE m1 ⟨congrArg (fun v => some (Value.int v)) e, ?_⟩
      exact Inv_i ((tl_len hT)) (h) (hI) (hK) (hO) (hX) (hP2)
    · subst c
      obtain ⟨q, x1, q', m1, e, hP2⟩ := p_shift1 (t := 5) (u := 2) (by decide) (by decide) a1 a3 a4 hP
      refine X_shift_34_ok (d := 96) hE ((shift_83 _ _ _ _ _ _ _ _ _ _ _).trans x1) ⟨⟨_, rfl⟩, isW_wF, ?_⟩
      refine M_shift_ok hTl (d := 96) hE m1 ⟨congrArg (fun v => some (Value.int v)) e, ?_⟩
      exact Inv_i ((tl_len hT)) (h) (hI) (hK) (hO) (hX) (hP2)
    · subst c
      obtain ⟨q, x1, q', m1, e, hP2⟩ := p_shift1 (t := 5) (u := 3) (by decide) (by decide) a1 a3 a4 hP
      refine X_shift_35_ok (d := 96) hE ((shift_83 _ _ _ _ _ _ _ _ _ _ _).trans x1) ⟨⟨_, rfl⟩, isW_wF, ?_⟩
      refine M_shift_ok hTl (d := 96) hE m1 ⟨congrArg (fun v => some (Value.int v)) e, ?_⟩
      exact Inv_i ((tl_len hT)) (h) (hI) (hK) (hO) (hX) (hP2)
    · subst c
      obtain ⟨q, x1, q', m1, e, hP2⟩ := p_shift1 (t := 5) (u := 4) (by decide) (by decide) a1 a3 a4 hP
      refine X_shift_36_ok (d := 96) hE ((shift_83 _ _ _ _ _ _ _ _ _ _ _).trans x1) ⟨⟨_, rfl⟩, isW_wF, ?_⟩
      refine M_shift_ok hTl (d := 96) hE m1 ⟨congrArg (fun v => some (Value.int v)) e, ?_⟩
      exact Inv_i ((tl_len hT)) (h) (hI) (hK) (hO) (hX) (hP2)
    · subst c
      obtain ⟨q, x1, q', m1, e, hP2⟩ := p_shift0 (t := 5) (by decide) a1 a3 a4 hP
      refine X_shift_37_ok (d := 96) hE x1 ⟨⟨_, rfl⟩, isW_wF, ?_⟩
      refine M_shift_ok hTl (d := 96) hE m1 ⟨congrArg (fun v => some (Value.int v)) e, ?_⟩
      exact Inv_i ((tl_len hT)) (h) (hI) (hK) (hO) (hX) (hP2)
end OPS
