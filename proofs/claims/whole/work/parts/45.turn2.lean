/-! turn on both sides -/
def inB7 (v : Nat) : Bool := decide (1 ≤ v / 7) && decide (v / 7 ≤ 5) && decide (1 ≤ v % 7) && decide (v % 7 ≤ 5)
def ta (v : Nat) : Nat := 6 * (v / 7 - 1) + (v % 7 - 1)
theorem tu_in : ∀ v, v < 49 → inB7 v = true → G_cellAt ((nI v / (7:Int32)) - (1:Int32)) ((nI v - nI v / (7:Int32) * (7:Int32)) - (1:Int32)) = nI (ta v) ∧ G_cellAt ((nI v / (7:Int32)) - (1:Int32)) (nI v - nI v / (7:Int32) * (7:Int32)) = nI (ta v + 1) ∧ G_cellAt (nI v / (7:Int32)) ((nI v - nI v / (7:Int32) * (7:Int32)) - (1:Int32)) = nI (ta v + 6) ∧ G_cellAt (nI v / (7:Int32)) (nI v - nI v / (7:Int32) * (7:Int32)) = nI (ta v + 7) := by decide +kernel
theorem tu_in2 : ∀ v, v < 49 → inB7 v = true → M_isIn (nI v / (7:Int32)) 1 5 = 1 ∧ M_isIn (nI v - nI v / (7:Int32) * (7:Int32)) 1 5 = 1 ∧ (((6:Int32) * ((nI v / (7:Int32)) - (1:Int32))) + (nI v - nI v / (7:Int32) * (7:Int32))) - (1:Int32) = nI (ta v) ∧ ta v < 30 ∧ ta v % 6 < 5 := by decide +kernel
def oc (x : Int32) : Bool := decide (x = -1) || decide (0 ≤ x.toInt ∧ x.toInt < 36)
theorem tu_out : ∀ v, v < 49 → inB7 v = false → oc (G_cellAt ((nI v / (7:Int32)) - (1:Int32)) ((nI v - nI v / (7:Int32) * (7:Int32)) - (1:Int32))) = true ∧ oc (G_cellAt ((nI v / (7:Int32)) - (1:Int32)) (nI v - nI v / (7:Int32) * (7:Int32))) = true ∧ oc (G_cellAt (nI v / (7:Int32)) ((nI v - nI v / (7:Int32) * (7:Int32)) - (1:Int32))) = true ∧ (G_cellAt ((nI v / (7:Int32)) - (1:Int32)) ((nI v - nI v / (7:Int32) * (7:Int32)) - (1:Int32)) = -1 ∨ G_cellAt (nI v / (7:Int32)) (nI v - nI v / (7:Int32) * (7:Int32)) = -1) := by decide +kernel
theorem tu_out2 : ∀ v, v < 49 → inB7 v = false → M_isIn (nI v / (7:Int32)) 1 5 = 0 ∨ M_isIn (nI v / (7:Int32)) 1 5 = 1 ∧ M_isIn (nI v - nI v / (7:Int32) * (7:Int32)) 1 5 = 0 := by decide +kernel
theorem two_m1 (y ld : Int32) (mt : Nat → Int32) : S_areTwo (-1) y ld mt = some 0 := by
  unfold S_areTwo S_areTwo_j35 S_areTwo_j36
  by_cases c : ld = 0
  · rw [if_pos c]; rfl
  · rw [if_neg c, if_pos (by decide)]; rfl
theorem two_m2 (x ld : Int32) (mt : Nat → Int32) : S_areTwo x (-1) ld mt = some 0 := by
  unfold S_areTwo S_areTwo_j35 S_areTwo_j36
  by_cases c : ld = 0
  · rw [if_pos c]; rfl
  · rw [if_neg c, if_pos (show G_isCell (-1) = 0 by decide)]
    by_cases d : G_isCell x = 0
    · rw [if_pos d]; rfl
    · rw [if_neg d]; rfl
theorem two_ex {x : Int32} (hx : oc x = true) (y ld : Int32) (mt : Nat → Int32) : ∃ z, S_areTwo x y ld mt = some z := by
  unfold oc at hx
  rw [Bool.or_eq_true] at hx
  rcases hx with hx | hx
  · rw [of_decide_eq_true hx]
    exact ⟨0, two_m1 y ld mt⟩
  · have hx := of_decide_eq_true hx
    unfold S_areTwo S_areTwo_j35 S_areTwo_j36
    rw [grd_t (show gi x 36 = true from decide_eq_true hx)]
    by_cases c : ld = 0
    · rw [if_pos c]; exact ⟨_, rfl⟩
    · rw [if_neg c]
      by_cases d : G_isCell x = 0
      · rw [if_pos d]; exact ⟨_, rfl⟩
      · rw [if_neg d]
        by_cases d2 : G_isCell y = 0
        · rw [if_pos d2]; exact ⟨_, rfl⟩
        · rw [if_neg d2]; exact ⟨_, rfl⟩
theorem two_nI {x y : Nat} (hx : x < 36) (hy : y < 36) (mt : Nat → Int32) : S_areTwo (nI x) (nI y) 1 mt = some (bI (decide (mt x = nI y))) := by
  unfold S_areTwo
  rw [if_neg (show ¬ (1:Int32) = 0 by decide), show G_isCell (nI x) = 1 from (by decide : ∀ k, k < 36 → G_isCell (nI k) = 1) x hx, show G_isCell (nI y) = 1 from (by decide : ∀ k, k < 36 → G_isCell (nI k) = 1) y hy, if_neg (show ¬ (1 : Int32) = 0 by decide), if_neg (show ¬ (1 : Int32) = 0 by decide), grd_t (gi_nI hx (by decide)), nI_clamp (by omega)]
  by_cases c : mt x = nI y
  · rw [if_pos c, decide_eq_true c]; rfl
  · rw [if_neg c, decide_eq_false c]; rfl
theorem two_0 (x y : Int32) (mt : Nat → Int32) : S_areTwo x y 0 mt = some 0 := by
  unfold S_areTwo S_areTwo_j35 S_areTwo_j36
  rw [if_pos rfl]; rfl
/-- four mates changed -/
def tm (mt : Nat → Int32) (a b c : Nat) : Nat → Int32 := upd (upd (upd (upd mt a (nI c)) c (nI a)) b (nI (a + 7))) (a + 7) (nI b)
theorem turnAt_out {v : Nat} (hv : v < 49) (h : inB7 v = false) (ld : Int32) (mt : Nat → Int32) : S_turnAt (nI v) ld mt = some (0, mt) := by
  obtain ⟨o1, o2, o3, o4⟩ := tu_out v hv h
  unfold S_turnAt
  rw [isV_y v hv, if_neg (show ¬ (1:Int32) = 0 by decide)]
  generalize G_cellAt ((nI v / (7:Int32)) - (1:Int32)) ((nI v - nI v / (7:Int32) * (7:Int32)) - (1:Int32)) = A at *
  generalize G_cellAt ((nI v / (7:Int32)) - (1:Int32)) (nI v - nI v / (7:Int32) * (7:Int32)) = B at *
  generalize G_cellAt (nI v / (7:Int32)) ((nI v - nI v / (7:Int32) * (7:Int32)) - (1:Int32)) = C at *
  generalize G_cellAt (nI v / (7:Int32)) (nI v - nI v / (7:Int32) * (7:Int32)) = D at *
  have j95 : S_turnAt_j95 A B C D mt ld = some (0, mt) := by
    unfold S_turnAt_j95 S_turnAt_j135
    rcases o4 with e | e
    · rw [e, two_m1, wbind rfl, if_pos rfl]
    · obtain ⟨z, ez⟩ := two_ex o1 C ld mt
      rw [ez, wbind rfl]
      by_cases c : z = 0
      · rw [if_pos c]
      · rw [if_neg c, e, two_m2, wbind rfl, if_pos rfl]
  rcases o4 with e | e
  · rw [j95]
    obtain ⟨z, ez⟩ := two_ex o1 B ld mt
    rw [e, two_m1, wbind rfl, if_pos rfl]
  · obtain ⟨z, ez⟩ := two_ex o1 B ld mt
    rw [ez, wbind rfl]
    by_cases c : z = 0
    · rw [if_pos c, j95]
    · rw [if_neg c, j95, e, two_m2, wbind rfl, if_pos rfl]
theorem turnAt_0 {v : Nat} (hv : v < 49) (mt : Nat → Int32) : S_turnAt (nI v) 0 mt = some (0, mt) := by
  unfold S_turnAt S_turnAt_j95 S_turnAt_j135
  rw [isV_y v hv, if_neg (show ¬ (1:Int32) = 0 by decide), two_0, wbind rfl, if_pos rfl, two_0, wbind rfl, if_pos rfl]
theorem turnAt_in {v : Nat} (hv : v < 49) (h : inB7 v = true) (mt : Nat → Int32) : S_turnAt (nI v) 1 mt = some (if mt (ta v) = nI (ta v + 1) ∧ mt (ta v + 6) = nI (ta v + 7) then (1, tm mt (ta v) (ta v + 1) (ta v + 6)) else if mt (ta v) = nI (ta v + 6) ∧ mt (ta v + 1) = nI (ta v + 7) then (1, tm mt (ta v) (ta v + 6) (ta v + 1)) else (0, mt)) := by
  obtain ⟨t1, t2, t3, t4⟩ := tu_in v hv h
  obtain ⟨_, _, _, l1, l2⟩ := tu_in2 v hv h
  unfold S_turnAt
  rw [isV_y v hv, if_neg (show ¬ (1:Int32) = 0 by decide), t1, t2, t3, t4]
  generalize ta v = a at *
  have j95 : S_turnAt_j95 (nI a) (nI (a + 1)) (nI (a + 6)) (nI (a + 7)) mt 1 = some (if mt a = nI (a + 6) ∧ mt (a + 1) = nI (a + 7) then (1, tm mt a (a + 6) (a + 1)) else (0, mt)) := by
    unfold S_turnAt_j95 S_turnAt_j135
    rw [two_nI (by omega) (by omega), wbind rfl, two_nI (by omega) (by omega), bI_if]
    by_cases c : mt a = nI (a + 6)
    · rw [decide_eq_true c, if_pos rfl, wbind rfl, bI_if]
      by_cases d : mt (a + 1) = nI (a + 7)
      · rw [decide_eq_true d, if_pos rfl, join_eq (by omega) (by omega), wbind rfl, join_eq (by omega) (by omega), wbind rfl, if_pos ⟨c, d⟩]
        rfl
      · rw [decide_eq_false d, if_neg (by decide), if_neg (fun q => d q.2)]
    · rw [decide_eq_false c, if_neg (by decide), if_neg (fun q => c q.1)]
  rw [two_nI (by omega) (by omega), wbind rfl, two_nI (by omega) (by omega), bI_if, j95]
  by_cases c : mt a = nI (a + 1)
  · rw [decide_eq_true c, if_pos rfl, wbind rfl, bI_if]
    by_cases d : mt (a + 6) = nI (a + 7)
    · rw [decide_eq_true d, if_pos rfl, join_eq (by omega) (by omega), wbind rfl, join_eq (by omega) (by omega), wbind rfl, if_pos ⟨c, d⟩]
      rfl
    · rw [decide_eq_false d, if_neg (by decide), if_neg (show ¬ (mt a = nI (a + 1) ∧ mt (a + 6) = nI (a + 7)) from fun q => d q.2)]
  · rw [decide_eq_false c, if_neg (by decide), if_neg (show ¬ (mt a = nI (a + 1) ∧ mt (a + 6) = nI (a + 7)) from fun q => c q.1)]
theorem TL_sym {w : Int64} {mt : Nat → Int32} {H : Nat → Int} (hT : TL w mt H) {x y : Nat} (hx : x < 36) (hy : y < 36) (h : mt x = nI y) : mt y = nI x := by
  rcases hT.2.1 x hx with q | ⟨d, hd, q1, q2, _, _⟩
  · rw [q] at h; exact absurd h.symm (nI_m5 (by omega))
  · rw [q1] at h
    rw [← (nI_eq (by omega) (by omega)).mp h]
    exact q2
theorem tm_hm {mt : Nat → Int32} {a b c : Nat} (hbc : (b = a + 1 ∧ c = a + 6) ∨ (b = a + 6 ∧ c = a + 1)) (x : Nat) : tm mt a b c x = if x = a then nI c else if x = c then nI a else if x = b then nI (a + 7) else if x = a + 7 then nI b else mt x := by
  unfold tm
  rw [upd_at, upd_at, upd_at, upd_at]
  by_cases c1 : x = a
  · rw [if_neg (by omega), if_neg (by omega), if_neg (by omega), if_pos c1, if_pos c1]
  rw [if_neg c1]
  by_cases c2 : x = c
  · rw [if_neg (by omega), if_neg (by omega), if_pos c2, if_neg c1, if_pos c2]
  rw [if_neg c2, if_neg c1, if_neg c2]
  by_cases c3 : x = b
  · rw [if_neg (by omega), if_pos c3, if_pos c3]
  rw [if_neg c3, if_neg c3]
/-- the reference's, with four of s changed -/
def tmM (ms : Nat → Int32) (a b c : Nat) : Nat → Int32 := upd (upd (upd (upd ms (6 + a) (nI c)) (6 + c) (nI a)) (6 + b) (nI (a + 7))) (6 + (a + 7)) (nI b)
theorem tmM_6 (ms mt : Nat → Int32) {a b c : Nat} (h : ∀ x, x < 36 → mt x = ms (6 + x)) {x : Nat} (hx : x < 36) : tm mt a b c x = tmM ms a b c (6 + x) := by
  unfold tm tmM
  rw [upd_at, upd_at, upd_at, upd_at, upd_at, upd_at, upd_at, upd_at, h x hx]
  simp only [show ∀ y : Nat, (6 + x = 6 + y) ↔ (x = y) from fun y => by omega]
theorem tmM_off (ms : Nat → Int32) {a b c : Nat} (ha : a < 29) (hb : b < 36) (hc : c < 36) {j : Nat} (h : j < 6 ∨ 42 ≤ j) : tmM ms a b c j = ms j := by
  unfold tmM
  rw [upd_ne _ _ (by omega), upd_ne _ _ (by omega), upd_ne _ _ (by omega), upd_ne _ _ (by omega)]
section TURN2
variable {rg mrg : Int64} {ld ps pl ss es gs : Int32} {mt pw so sq eo eq go gq ms : Nat → Int32}
variable {okn : Int32} {org : Int64} {osi oti ole oto : Int32} {oow oco : Int64} {ost owa owv owh olo ohi : Nat → Int32}
theorem mturn_in {v : Nat} (hv : v < 49) (h : inB7 v = true) (h1 : ms 0 = 1) (gle gsu : Int32) (gma gpi gst ghe gow gfa gqu glo ghi gby gib : Nat → Int32) :
    M_turn (nI v) mrg gle gsu ms gma gpi gst ghe gow gfa gqu glo ghi gby gib = if ms (6 + ta v) = nI (ta v + 1) ∧ ms (6 + (ta v + 7)) = nI (ta v + 6) then Option.bind (M_rank mrg gle gsu (tmM ms (ta v) (ta v + 1) (ta v + 6)) gma gpi gst ghe gow gfa gqu glo ghi gby gib) (fun q7 => some (q7.1, q7.2.1, q7.2.2.1, tmM ms (ta v) (ta v + 1) (ta v + 6), q7.2.2.2.1, q7.2.2.2.2.1, q7.2.2.2.2.2.1, q7.2.2.2.2.2.2.1, q7.2.2.2.2.2.2.2.1, q7.2.2.2.2.2.2.2.2.1, q7.2.2.2.2.2.2.2.2.2.1, q7.2.2.2.2.2.2.2.2.2.2.1, q7.2.2.2.2.2.2.2.2.2.2.2.1, q7.2.2.2.2.2.2.2.2.2.2.2.2.1, q7.2.2.2.2.2.2.2.2.2.2.2.2.2))
      else if ms (6 + ta v) = nI (ta v + 6) ∧ ms (6 + (ta v + 7)) = nI (ta v + 1) then Option.bind (M_rank mrg gle gsu (tmM ms (ta v) (ta v + 6) (ta v + 1)) gma gpi gst ghe gow gfa gqu glo ghi gby gib) (fun q7 => some (q7.1, q7.2.1, q7.2.2.1, tmM ms (ta v) (ta v + 6) (ta v + 1), q7.2.2.2.1, q7.2.2.2.2.1, q7.2.2.2.2.2.1, q7.2.2.2.2.2.2.1, q7.2.2.2.2.2.2.2.1, q7.2.2.2.2.2.2.2.2.1, q7.2.2.2.2.2.2.2.2.2.1, q7.2.2.2.2.2.2.2.2.2.2.1, q7.2.2.2.2.2.2.2.2.2.2.2.1, q7.2.2.2.2.2.2.2.2.2.2.2.2.1, q7.2.2.2.2.2.2.2.2.2.2.2.2.2))
      else some (-3, gle, gsu, ms, gma, gpi, gst, ghe, gow, gfa, gqu, glo, ghi, gby, gib) := by
  obtain ⟨u1, u2, u3, l1, l2⟩ := tu_in2 v hv h
  have iv : M_isVertex (nI v) = 1 := (by decide +kernel : ∀ v, v < 49 → M_isVertex (nI v) = 1) v hv
  unfold M_turn
  rw [iv, if_neg (show ¬ (1:Int32) = 0 by decide), grd_t (by decide), show (0:Int32).toNatClampNeg = 0 from rfl, h1, if_neg (show ¬ (1:Int32) = 0 by decide), u1, u2, if_neg (show ¬ (1:Int32) = 0 by decide), if_neg (show ¬ (1:Int32) = 0 by decide), u3]
  generalize ta v = a at *
  have e7 : nI (a + 6) + (1:Int32) = nI (a + 7) := nI_1 (a + 6)
  have e6 : nI a + (6:Int32) = nI (a + 6) := nI_add a 6
  have e1 : nI a + (1:Int32) = nI (a + 1) := nI_1 a
  have m1 : nI (a + 7) - (1:Int32) = nI (a + 6) := by rw [← nI_1 (a + 6)]; exact Int32.add_sub_cancel _ _
  have m6 : nI (a + 7) - (6:Int32) = nI (a + 1) := by
    have : nI (a + 7) = nI (a + 1) + (6:Int32) := by rw [show nI (a + 1) + (6:Int32) = nI (a + 1 + 6) from nI_add (a + 1) 6]
    rw [this]; exact Int32.add_sub_cancel _ _
  have s0 : (6:Int32) + nI a = nI (6 + a) := nI_add 6 a
  have s7 : (6:Int32) + nI (a + 7) = nI (6 + (a + 7)) := nI_add 6 (a + 7)
  have s6 : (6:Int32) + nI (a + 6) = nI (6 + (a + 6)) := nI_add 6 (a + 6)
  have s1 : (6:Int32) + nI (a + 1) = nI (6 + (a + 1)) := nI_add 6 (a + 1)
  have g0 : ∀ {α : Type} (k : Option α), grd (gi (nI (6 + a)) 122) k = k := fun k => grd_t (gi_nI (by omega) (by decide))
  have g7 : ∀ {α : Type} (k : Option α), grd (gi (nI (6 + (a + 7))) 122) k = k := fun k => grd_t (gi_nI (by omega) (by decide))
  have g6 : ∀ {α : Type} (k : Option α), grd (gi (nI (6 + (a + 6))) 122) k = k := fun k => grd_t (gi_nI (by omega) (by decide))
  have g1 : ∀ {α : Type} (k : Option α), grd (gi (nI (6 + (a + 1))) 122) k = k := fun k => grd_t (gi_nI (by omega) (by decide))
  have c0 : (nI (6 + a)).toNatClampNeg = 6 + a := nI_clamp (by omega)
  have c7 : (nI (6 + (a + 7))).toNatClampNeg = 6 + (a + 7) := nI_clamp (by omega)
  have c6 : (nI (6 + (a + 6))).toNatClampNeg = 6 + (a + 6) := nI_clamp (by omega)
  have c1 : (nI (6 + (a + 1))).toNatClampNeg = 6 + (a + 1) := nI_clamp (by omega)
  have ne16 : ¬ nI (a + 1) = nI (a + 6) := fun q => by have := (nI_eq (by omega) (by omega)).mp q; omega
  have n10 : ¬ (1:Int32) = 0 := by decide
  have j1 : M_turn_j167 (nI a) (nI (a + 7)) 1 gle gsu ms gma gpi gst ghe gow gfa gqu glo ghi gby gib mrg = Option.bind (M_rank mrg gle gsu (tmM ms a (a + 1) (a + 6)) gma gpi gst ghe gow gfa gqu glo ghi gby gib) (fun q7 => some (q7.1, q7.2.1, q7.2.2.1, tmM ms a (a + 1) (a + 6), q7.2.2.2.1, q7.2.2.2.2.1, q7.2.2.2.2.2.1, q7.2.2.2.2.2.2.1, q7.2.2.2.2.2.2.2.1, q7.2.2.2.2.2.2.2.2.1, q7.2.2.2.2.2.2.2.2.2.1, q7.2.2.2.2.2.2.2.2.2.2.1, q7.2.2.2.2.2.2.2.2.2.2.2.1, q7.2.2.2.2.2.2.2.2.2.2.2.2.1, q7.2.2.2.2.2.2.2.2.2.2.2.2.2)) := by
    unfold M_turn_j167 tmM
    simp only [if_neg n10, e6, e1, s0, s1, s6, s7, g0, g1, g6, g7, c0, c1, c6, c7]
  have j0 : M_turn_j167 (nI a) (nI (a + 7)) 0 gle gsu ms gma gpi gst ghe gow gfa gqu glo ghi gby gib mrg = Option.bind (M_rank mrg gle gsu (tmM ms a (a + 6) (a + 1)) gma gpi gst ghe gow gfa gqu glo ghi gby gib) (fun q7 => some (q7.1, q7.2.1, q7.2.2.1, tmM ms a (a + 6) (a + 1), q7.2.2.2.1, q7.2.2.2.2.1, q7.2.2.2.2.2.1, q7.2.2.2.2.2.2.1, q7.2.2.2.2.2.2.2.1, q7.2.2.2.2.2.2.2.2.1, q7.2.2.2.2.2.2.2.2.2.1, q7.2.2.2.2.2.2.2.2.2.2.1, q7.2.2.2.2.2.2.2.2.2.2.2.1, q7.2.2.2.2.2.2.2.2.2.2.2.2.1, q7.2.2.2.2.2.2.2.2.2.2.2.2.2)) := by
    unfold M_turn_j167 tmM
    simp only [if_true, e6, e1, s0, s1, s6, s7, g0, g1, g6, g7, c0, c1, c6, c7]
  unfold M_turn_j108 M_turn_j109 M_turn_j151 M_turn_j152
  simp only [e7, e6, e1, m1, m6, s0, s7, g0, g7, c0, c7]
  by_cases x1 : ms (6 + a) = nI (a + 1)
  · have x6 : ¬ ms (6 + a) = nI (a + 6) := fun q => ne16 (x1.symm.trans q)
    simp only [if_pos x1, if_neg x6]
    by_cases y : ms (6 + (a + 7)) = nI (a + 6)
    · simp only [if_pos y, if_neg n10, if_pos (And.intro x1 y)]
      exact j1
    · have nn : ¬ (ms (6 + a) = nI (a + 1) ∧ ms (6 + (a + 7)) = nI (a + 6)) := fun q => y q.2
      have nn2 : ¬ (ms (6 + a) = nI (a + 6) ∧ ms (6 + (a + 7)) = nI (a + 1)) := fun q => x6 q.1
      simp only [if_neg y, if_true, if_neg nn, if_neg nn2]
  · have nn : ¬ (ms (6 + a) = nI (a + 1) ∧ ms (6 + (a + 7)) = nI (a + 6)) := fun q => x1 q.1
    simp only [if_neg x1, if_neg nn]
    by_cases x6 : ms (6 + a) = nI (a + 6)
    · by_cases y : ms (6 + (a + 7)) = nI (a + 1)
      · simp only [if_pos x6, if_pos y, if_true, if_neg n10, if_pos (And.intro x6 y)]
        exact j0
      · have nn2 : ¬ (ms (6 + a) = nI (a + 6) ∧ ms (6 + (a + 7)) = nI (a + 1)) := fun q => y q.2
        simp only [if_pos x6, if_neg y, if_true, if_neg nn2]
    · have nn2 : ¬ (ms (6 + a) = nI (a + 6) ∧ ms (6 + (a + 7)) = nI (a + 1)) := fun q => x6 q.1
      simp only [if_neg x6, if_true, if_neg nn2]
theorem p_turn (a : Int32) (h : St rg ld mt ps pl pw ss so sq es eo eq gs go gq mrg ms) (hI : TI rg ld mt) (hO : IOk okn org osi oti ole oto oow oco ost owa owv owh olo ohi) (ora odi oqu : Nat → Int32) (gle gsu : Int32) (gma gpi gst ghe gow gfa gqu glo ghi gby gib : Nat → Int32) : ∃ q, X_turn a rg ld mt okn org osi oti ole oto oow oco ost owa owv owh olo ohi ora odi oqu = some q ∧ ∃ q', M_turn a mrg gle gsu ms gma gpi gst ghe gow gfa gqu glo ghi gby gib = some q' ∧ q'.1 = q.1 ∧ St rg ld q.2.1 ps pl pw ss so sq es eo eq gs go gq mrg q'.2.2.2.1 ∧ TI rg ld q.2.1 ∧ IOk q.2.2.1 q.2.2.2.1 q.2.2.2.2.1 q.2.2.2.2.2.1 q.2.2.2.2.2.2.1 q.2.2.2.2.2.2.2.1 q.2.2.2.2.2.2.2.2.1 q.2.2.2.2.2.2.2.2.2.1 q.2.2.2.2.2.2.2.2.2.2.1 q.2.2.2.2.2.2.2.2.2.2.2.1 q.2.2.2.2.2.2.2.2.2.2.2.2.1 q.2.2.2.2.2.2.2.2.2.2.2.2.2.1 q.2.2.2.2.2.2.2.2.2.2.2.2.2.2.1 q.2.2.2.2.2.2.2.2.2.2.2.2.2.2.2.1 := by
  have e := h.1.1
  subst e
  rcases tri a (m := 48) (m1 := 49) (n := 48) rfl rfl (by decide) with ⟨y1, y2, y3⟩ | ⟨y1, y2, y3, y4, y5, y6, y7⟩ | ⟨v, hv48, ev, y1, y2, y3, y4, y5, y6, y7⟩
  · unfold X_turn M_turn M_isVertex G_isVertex
    rw [if_pos y1, if_pos rfl, if_pos y3]
    exact ⟨_, rfl, _, rfl, rfl, h, hI, hO⟩
  · unfold X_turn M_turn M_isVertex G_isVertex
    rw [if_neg y1, if_pos y5, if_pos rfl, if_pos y7]
    exact ⟨_, rfl, _, rfl, rfl, h, hI, hO⟩
  subst ev
  have hv : v < 49 := by omega
  have iv : M_isVertex (nI v) = 1 := (by decide +kernel : ∀ v, v < 49 → M_isVertex (nI v) = 1) v hv
  have hA := h.2.1
  -- nothing is turned
  have no : S_turnAt (nI v) ld mt = some (0, mt) → (∃ q', M_turn (nI v) mrg gle gsu ms gma gpi gst ghe gow gfa gqu glo ghi gby gib = some q' ∧ q'.1 = -3 ∧ q'.2.2.2.1 = ms) → ∃ q, X_turn (nI v) mrg ld mt okn org osi oti ole oto oow oco ost owa owv owh olo ohi ora odi oqu = some q ∧ ∃ q', M_turn (nI v) mrg gle gsu ms gma gpi gst ghe gow gfa gqu glo ghi gby gib = some q' ∧ q'.1 = q.1 ∧ St mrg ld q.2.1 ps pl pw ss so sq es eo eq gs go gq mrg q'.2.2.2.1 ∧ TI mrg ld q.2.1 ∧ IOk q.2.2.1 q.2.2.2.1 q.2.2.2.2.1 q.2.2.2.2.2.1 q.2.2.2.2.2.2.1 q.2.2.2.2.2.2.2.1 q.2.2.2.2.2.2.2.2.1 q.2.2.2.2.2.2.2.2.2.1 q.2.2.2.2.2.2.2.2.2.2.1 q.2.2.2.2.2.2.2.2.2.2.2.1 q.2.2.2.2.2.2.2.2.2.2.2.2.1 q.2.2.2.2.2.2.2.2.2.2.2.2.2.1 q.2.2.2.2.2.2.2.2.2.2.2.2.2.2.1 q.2.2.2.2.2.2.2.2.2.2.2.2.2.2.2.1 := fun e1 ⟨q', e2, e3, e4⟩ => by
    unfold X_turn
    rw [isV_y v hv, if_neg (show ¬ (1:Int32) = 0 by decide), e1, wbind rfl]
    dsimp only
    rw [if_pos rfl]
    refine ⟨_, rfl, q', e2, e3, ?_, hI, hO⟩
    rw [e4]
    exact h
  rcases IA_01 hA with ⟨l0, m0⟩ | ⟨l1, m1, hms⟩
  · subst l0
    refine no (turnAt_0 hv mt) ⟨(-3, gle, gsu, ms, gma, gpi, gst, ghe, gow, gfa, gqu, glo, ghi, gby, gib), ?_, rfl, rfl⟩
    · unfold M_turn M_turn_j46
      rw [iv, if_neg (show ¬ (1:Int32) = 0 by decide), grd_t (by decide), show (0:Int32).toNatClampNeg = 0 from rfl, m0, if_pos rfl]
  · subst l1
    obtain ⟨H, hT⟩ := hI rfl
    cases hin : inB7 v with
    | false =>
      refine no (turnAt_out hv hin 1 mt) ⟨(-3, gle, gsu, ms, gma, gpi, gst, ghe, gow, gfa, gqu, glo, ghi, gby, gib), ?_, rfl, rfl⟩
      unfold M_turn M_turn_j46
      rw [iv, if_neg (show ¬ (1:Int32) = 0 by decide), grd_t (by decide), show (0:Int32).toNatClampNeg = 0 from rfl, m1, if_neg (show ¬ (1:Int32) = 0 by decide)]
      rcases tu_out2 v hv hin with t | ⟨t, t'⟩
      · rw [t, if_pos rfl]
      · rw [t, t', if_neg (show ¬ (1:Int32) = 0 by decide), if_pos rfl]
    | true =>
      obtain ⟨_, _, _, l1, l2⟩ := tu_in2 v hv hin
      have hX := turnAt_in hv hin mt
      have hM := mturn_in (mrg := mrg) hv hin m1 gle gsu gma gpi gst ghe gow gfa gqu glo ghi gby gib
      generalize ta v = t at *
      have h0 := hms t (by omega)
      have h7 := hms (t + 7) (by omega)
      have yes : ∀ b c : Nat, ((b = t + 1 ∧ c = t + 6) ∨ (b = t + 6 ∧ c = t + 1)) → mt t = nI b → mt c = nI (t + 7) → S_turnAt (nI v) 1 mt = some (1, tm mt t b c) → M_turn (nI v) mrg gle gsu ms gma gpi gst ghe gow gfa gqu glo ghi gby gib = Option.bind (M_rank mrg gle gsu (tmM ms t b c) gma gpi gst ghe gow gfa gqu glo ghi gby gib) (fun q7 => some (q7.1, q7.2.1, q7.2.2.1, tmM ms t b c, q7.2.2.2.1, q7.2.2.2.2.1, q7.2.2.2.2.2.1, q7.2.2.2.2.2.2.1, q7.2.2.2.2.2.2.2.1, q7.2.2.2.2.2.2.2.2.1, q7.2.2.2.2.2.2.2.2.2.1, q7.2.2.2.2.2.2.2.2.2.2.1, q7.2.2.2.2.2.2.2.2.2.2.2.1, q7.2.2.2.2.2.2.2.2.2.2.2.2.1, q7.2.2.2.2.2.2.2.2.2.2.2.2.2)) → ∃ q, X_turn (nI v) mrg 1 mt okn org osi oti ole oto oow oco ost owa owv owh olo ohi ora odi oqu = some q ∧ ∃ q', M_turn (nI v) mrg gle gsu ms gma gpi gst ghe gow gfa gqu glo ghi gby gib = some q' ∧ q'.1 = q.1 ∧ St mrg 1 q.2.1 ps pl pw ss so sq es eo eq gs go gq mrg q'.2.2.2.1 ∧ TI mrg 1 q.2.1 ∧ IOk q.2.2.1 q.2.2.2.1 q.2.2.2.2.1 q.2.2.2.2.2.1 q.2.2.2.2.2.2.1 q.2.2.2.2.2.2.2.1 q.2.2.2.2.2.2.2.2.1 q.2.2.2.2.2.2.2.2.2.1 q.2.2.2.2.2.2.2.2.2.2.1 q.2.2.2.2.2.2.2.2.2.2.2.1 q.2.2.2.2.2.2.2.2.2.2.2.2.1 q.2.2.2.2.2.2.2.2.2.2.2.2.2.1 q.2.2.2.2.2.2.2.2.2.2.2.2.2.2.1 q.2.2.2.2.2.2.2.2.2.2.2.2.2.2.2.1 := fun b c hbc k1 k3 eX eM => by
        have hb36 : b < 36 ∧ c < 36 := by omega
        obtain ⟨H', hT'⟩ := TL_turn (mt' := tm mt t b c) hT l1 l2 hbc k1 (TL_sym hT (by omega) hb36.1 k1) k3 (TL_sym hT hb36.2 (by omega) k3) (fun x _ => tm_hm hbc x)
        have hms' : ∀ x, x < 36 → tm mt t b c x = tmM ms t b c (6 + x) := fun x hx => tmM_6 ms mt hms hx
        obtain ⟨le2, to2, ow2, co2, st2, wa2, wv2, wh2, lo2, hi2, ra2, d2, q2, e3, hL2⟩ := srank_eq hT' hO ora odi oqu
        obtain ⟨z, e4, _⟩ := mrank_eq hT' hms' gle gsu gma gpi gst ghe gow gfa gqu glo ghi gby gib
        unfold X_turn
        rw [isV_y v hv, if_neg (show ¬ (1:Int32) = 0 by decide), eX, wbind rfl]
        dsimp only
        rw [if_neg (show ¬ (1:Int32) = 0 by decide), e3, wbind rfl, eM, e4, wbind rfl]
        refine ⟨_, rfl, _, rfl, rfl, ?_, fun _ => ⟨H', hT'⟩, Or.inr ⟨rfl, hL2⟩⟩
        refine St_tile h h.1 (Or.inr ⟨rfl, ?_, hms', trivial⟩) (fun j j0 j1 => tmM_off ms (by omega) hb36.1 hb36.2 j1)
        show tmM ms t b c 0 = 1
        rw [tmM_off ms (by omega) hb36.1 hb36.2 (Or.inl (by decide)), m1]
      by_cases r1 : mt t = nI (t + 1) ∧ mt (t + 6) = nI (t + 7)
      · refine yes (t + 1) (t + 6) (Or.inl ⟨rfl, rfl⟩) r1.1 r1.2 (by rw [hX, if_pos r1]) ?_
        rw [hM, if_pos ⟨by rw [← h0]; exact r1.1, by rw [← h7]; exact TL_sym hT (by omega) (by omega) r1.2⟩]
      · have r1' : ¬ (ms (6 + t) = nI (t + 1) ∧ ms (6 + (t + 7)) = nI (t + 6)) := fun q => r1 ⟨by rw [h0]; exact q.1, TL_sym hT (by omega) (by omega) (by rw [h7]; exact q.2)⟩
        rw [if_neg r1] at hX
        rw [if_neg r1'] at hM
        by_cases r2 : mt t = nI (t + 6) ∧ mt (t + 1) = nI (t + 7)
        · refine yes (t + 6) (t + 1) (Or.inr ⟨rfl, rfl⟩) r2.1 r2.2 (by rw [hX, if_pos r2]) ?_
          rw [hM, if_pos ⟨by rw [← h0]; exact r2.1, by rw [← h7]; exact TL_sym hT (by omega) (by omega) r2.2⟩]
        · have r2' : ¬ (ms (6 + t) = nI (t + 6) ∧ ms (6 + (t + 7)) = nI (t + 1)) := fun q => r2 ⟨by rw [h0]; exact q.1, TL_sym hT (by omega) (by omega) (by rw [h7]; exact q.2)⟩
          rw [if_neg r2] at hX
          rw [if_neg r2'] at hM
          exact no hX ⟨_, hM, rfl, rfl⟩
end TURN2
