/-! methods as functions (printed by wip/whole/dec) -/
section PT
variable {sc : sxS} {d : Nat} {Q : sxR} {hp : sxH} {call cl : sxX} {nw kp : tSt} {im : Int32} {ol : tOl} {sn : tSn} {sr : tSc} {tp : Nat → tTp} {mk : tMk} {mg : tMg} {mt : tMt} {mc : tMc} {T : sxH}

def C_digitsOf_j106   : Int32 := (-1:Int32)
def C_digitsOf_j104   : Int32 := (0:Int32)
def C_digitsOf_j102   : Int32 := (4:Int32)
def C_digitsOf_j100   : Int32 := (2:Int32)
def C_digitsOf (v0 : Int32)  : Int32 := if v0 = (99:Int32) then C_digitsOf_j100 else (if v0 = (100:Int32) then C_digitsOf_j106 else (if v0 = (101:Int32) then C_digitsOf_j102 else (if v0 = (102:Int32) then C_digitsOf_j102 else (if v0 = (103:Int32) then C_digitsOf_j104 else (if v0 = (104:Int32) then C_digitsOf_j106 else (if v0 = (105:Int32) then C_digitsOf_j106 else (if v0 = (106:Int32) then C_digitsOf_j106 else (if v0 = (107:Int32) then C_digitsOf_j106 else (if v0 = (108:Int32) then C_digitsOf_j104 else (if v0 = (109:Int32) then C_digitsOf_j104 else (if v0 = (110:Int32) then C_digitsOf_j106 else (if v0 = (111:Int32) then C_digitsOf_j106 else (if v0 = (112:Int32) then C_digitsOf_j106 else (if v0 = (113:Int32) then C_digitsOf_j106 else (if v0 = (114:Int32) then C_digitsOf_j106 else (if v0 = (115:Int32) then C_digitsOf_j106 else (if v0 = (116:Int32) then C_digitsOf_j100 else (if v0 = (117:Int32) then C_digitsOf_j106 else (if v0 = (118:Int32) then C_digitsOf_j106 else (if v0 = (119:Int32) then C_digitsOf_j100 else C_digitsOf_j106))))))))))))))))))))
set_option maxRecDepth 10000 in
theorem C_digitsOf_ok {v0 : Int32} {r : Int32} (hc : call = sxE sc (d + 1)) (hf : C_digitsOf v0 = r) (h : Q (some (.int r)) hp) : call 60 [.int v0] hp Q := by
  refine ent hc rfl (fun cl hE hm => ?_)
  have J106 : ∀  (z0 : Option Value), C_digitsOf_j106 = r → sxWP sc cl Q 60 (106, [z0], [], hp, 0, 0) := by
    intro z0 hf
    unfold C_digitsOf_j106 at hf
    subst hf
    refine stp hm 2 ?_
    exact h
  have J104 : ∀  (z0 : Option Value), C_digitsOf_j104 = r → sxWP sc cl Q 60 (104, [z0], [], hp, 0, 0) := by
    intro z0 hf
    unfold C_digitsOf_j104 at hf
    subst hf
    refine stp hm 2 ?_
    exact h
  have J102 : ∀  (z0 : Option Value), C_digitsOf_j102 = r → sxWP sc cl Q 60 (102, [z0], [], hp, 0, 0) := by
    intro z0 hf
    unfold C_digitsOf_j102 at hf
    subst hf
    refine stp hm 2 ?_
    exact h
  have J100 : ∀  (z0 : Option Value), C_digitsOf_j100 = r → sxWP sc cl Q 60 (100, [z0], [], hp, 0, 0) := by
    intro z0 hf
    unfold C_digitsOf_j100 at hf
    subst hf
    refine stp hm 2 ?_
    exact h
  unfold C_digitsOf at hf
  refine stp hm 2 ?_
  show sxWP sc cl Q 60 ((swT (v0).toInt (99) [100, 106, 102, 102, 104, 106, 106, 106, 106, 104, 104, 106, 106, 106, 106, 106, 106, 100, 106, 106, 100] 106), [some (.int v0)], [], hp, 0, 0)
  rcases ite_or hf with ⟨c1_0, hf⟩ | ⟨c1_0, hf⟩
  · rw [show swT (v0).toInt (99) [100, 106, 102, 102, 104, 106, 106, 106, 106, 104, 104, 106, 106, 106, 106, 106, 106, 100, 106, 106, 100] 106 = 100 by rw [c1_0]; rfl]
    exact J100 _ hf
  rcases ite_or hf with ⟨c1_1, hf⟩ | ⟨c1_1, hf⟩
  · rw [show swT (v0).toInt (99) [100, 106, 102, 102, 104, 106, 106, 106, 106, 104, 104, 106, 106, 106, 106, 106, 106, 100, 106, 106, 100] 106 = 106 by rw [c1_1]; rfl]
    exact J106 _ hf
  rcases ite_or hf with ⟨c1_2, hf⟩ | ⟨c1_2, hf⟩
  · rw [show swT (v0).toInt (99) [100, 106, 102, 102, 104, 106, 106, 106, 106, 104, 104, 106, 106, 106, 106, 106, 106, 100, 106, 106, 100] 106 = 102 by rw [c1_2]; rfl]
    exact J102 _ hf
  rcases ite_or hf with ⟨c1_3, hf⟩ | ⟨c1_3, hf⟩
  · rw [show swT (v0).toInt (99) [100, 106, 102, 102, 104, 106, 106, 106, 106, 104, 104, 106, 106, 106, 106, 106, 106, 100, 106, 106, 100] 106 = 102 by rw [c1_3]; rfl]
    exact J102 _ hf
  rcases ite_or hf with ⟨c1_4, hf⟩ | ⟨c1_4, hf⟩
  · rw [show swT (v0).toInt (99) [100, 106, 102, 102, 104, 106, 106, 106, 106, 104, 104, 106, 106, 106, 106, 106, 106, 100, 106, 106, 100] 106 = 104 by rw [c1_4]; rfl]
    exact J104 _ hf
  rcases ite_or hf with ⟨c1_5, hf⟩ | ⟨c1_5, hf⟩
  · rw [show swT (v0).toInt (99) [100, 106, 102, 102, 104, 106, 106, 106, 106, 104, 104, 106, 106, 106, 106, 106, 106, 100, 106, 106, 100] 106 = 106 by rw [c1_5]; rfl]
    exact J106 _ hf
  rcases ite_or hf with ⟨c1_6, hf⟩ | ⟨c1_6, hf⟩
  · rw [show swT (v0).toInt (99) [100, 106, 102, 102, 104, 106, 106, 106, 106, 104, 104, 106, 106, 106, 106, 106, 106, 100, 106, 106, 100] 106 = 106 by rw [c1_6]; rfl]
    exact J106 _ hf
  rcases ite_or hf with ⟨c1_7, hf⟩ | ⟨c1_7, hf⟩
  · rw [show swT (v0).toInt (99) [100, 106, 102, 102, 104, 106, 106, 106, 106, 104, 104, 106, 106, 106, 106, 106, 106, 100, 106, 106, 100] 106 = 106 by rw [c1_7]; rfl]
    exact J106 _ hf
  rcases ite_or hf with ⟨c1_8, hf⟩ | ⟨c1_8, hf⟩
  · rw [show swT (v0).toInt (99) [100, 106, 102, 102, 104, 106, 106, 106, 106, 104, 104, 106, 106, 106, 106, 106, 106, 100, 106, 106, 100] 106 = 106 by rw [c1_8]; rfl]
    exact J106 _ hf
  rcases ite_or hf with ⟨c1_9, hf⟩ | ⟨c1_9, hf⟩
  · rw [show swT (v0).toInt (99) [100, 106, 102, 102, 104, 106, 106, 106, 106, 104, 104, 106, 106, 106, 106, 106, 106, 100, 106, 106, 100] 106 = 104 by rw [c1_9]; rfl]
    exact J104 _ hf
  rcases ite_or hf with ⟨c1_10, hf⟩ | ⟨c1_10, hf⟩
  · rw [show swT (v0).toInt (99) [100, 106, 102, 102, 104, 106, 106, 106, 106, 104, 104, 106, 106, 106, 106, 106, 106, 100, 106, 106, 100] 106 = 104 by rw [c1_10]; rfl]
    exact J104 _ hf
  rcases ite_or hf with ⟨c1_11, hf⟩ | ⟨c1_11, hf⟩
  · rw [show swT (v0).toInt (99) [100, 106, 102, 102, 104, 106, 106, 106, 106, 104, 104, 106, 106, 106, 106, 106, 106, 100, 106, 106, 100] 106 = 106 by rw [c1_11]; rfl]
    exact J106 _ hf
  rcases ite_or hf with ⟨c1_12, hf⟩ | ⟨c1_12, hf⟩
  · rw [show swT (v0).toInt (99) [100, 106, 102, 102, 104, 106, 106, 106, 106, 104, 104, 106, 106, 106, 106, 106, 106, 100, 106, 106, 100] 106 = 106 by rw [c1_12]; rfl]
    exact J106 _ hf
  rcases ite_or hf with ⟨c1_13, hf⟩ | ⟨c1_13, hf⟩
  · rw [show swT (v0).toInt (99) [100, 106, 102, 102, 104, 106, 106, 106, 106, 104, 104, 106, 106, 106, 106, 106, 106, 100, 106, 106, 100] 106 = 106 by rw [c1_13]; rfl]
    exact J106 _ hf
  rcases ite_or hf with ⟨c1_14, hf⟩ | ⟨c1_14, hf⟩
  · rw [show swT (v0).toInt (99) [100, 106, 102, 102, 104, 106, 106, 106, 106, 104, 104, 106, 106, 106, 106, 106, 106, 100, 106, 106, 100] 106 = 106 by rw [c1_14]; rfl]
    exact J106 _ hf
  rcases ite_or hf with ⟨c1_15, hf⟩ | ⟨c1_15, hf⟩
  · rw [show swT (v0).toInt (99) [100, 106, 102, 102, 104, 106, 106, 106, 106, 104, 104, 106, 106, 106, 106, 106, 106, 100, 106, 106, 100] 106 = 106 by rw [c1_15]; rfl]
    exact J106 _ hf
  rcases ite_or hf with ⟨c1_16, hf⟩ | ⟨c1_16, hf⟩
  · rw [show swT (v0).toInt (99) [100, 106, 102, 102, 104, 106, 106, 106, 106, 104, 104, 106, 106, 106, 106, 106, 106, 100, 106, 106, 100] 106 = 106 by rw [c1_16]; rfl]
    exact J106 _ hf
  rcases ite_or hf with ⟨c1_17, hf⟩ | ⟨c1_17, hf⟩
  · rw [show swT (v0).toInt (99) [100, 106, 102, 102, 104, 106, 106, 106, 106, 104, 104, 106, 106, 106, 106, 106, 106, 100, 106, 106, 100] 106 = 100 by rw [c1_17]; rfl]
    exact J100 _ hf
  rcases ite_or hf with ⟨c1_18, hf⟩ | ⟨c1_18, hf⟩
  · rw [show swT (v0).toInt (99) [100, 106, 102, 102, 104, 106, 106, 106, 106, 104, 104, 106, 106, 106, 106, 106, 106, 100, 106, 106, 100] 106 = 106 by rw [c1_18]; rfl]
    exact J106 _ hf
  rcases ite_or hf with ⟨c1_19, hf⟩ | ⟨c1_19, hf⟩
  · rw [show swT (v0).toInt (99) [100, 106, 102, 102, 104, 106, 106, 106, 106, 104, 104, 106, 106, 106, 106, 106, 106, 100, 106, 106, 100] 106 = 106 by rw [c1_19]; rfl]
    exact J106 _ hf
  rcases ite_or hf with ⟨c1_20, hf⟩ | ⟨c1_20, hf⟩
  · rw [show swT (v0).toInt (99) [100, 106, 102, 102, 104, 106, 106, 106, 106, 104, 104, 106, 106, 106, 106, 106, 106, 100, 106, 106, 100] 106 = 100 by rw [c1_20]; rfl]
    exact J100 _ hf
  have tc1_0 : ¬ (v0).toInt = 99 := fun e => c1_0 (Int32.toInt_inj.mp e)
  have tc1_1 : ¬ (v0).toInt = 100 := fun e => c1_1 (Int32.toInt_inj.mp e)
  have tc1_2 : ¬ (v0).toInt = 101 := fun e => c1_2 (Int32.toInt_inj.mp e)
  have tc1_3 : ¬ (v0).toInt = 102 := fun e => c1_3 (Int32.toInt_inj.mp e)
  have tc1_4 : ¬ (v0).toInt = 103 := fun e => c1_4 (Int32.toInt_inj.mp e)
  have tc1_5 : ¬ (v0).toInt = 104 := fun e => c1_5 (Int32.toInt_inj.mp e)
  have tc1_6 : ¬ (v0).toInt = 105 := fun e => c1_6 (Int32.toInt_inj.mp e)
  have tc1_7 : ¬ (v0).toInt = 106 := fun e => c1_7 (Int32.toInt_inj.mp e)
  have tc1_8 : ¬ (v0).toInt = 107 := fun e => c1_8 (Int32.toInt_inj.mp e)
  have tc1_9 : ¬ (v0).toInt = 108 := fun e => c1_9 (Int32.toInt_inj.mp e)
  have tc1_10 : ¬ (v0).toInt = 109 := fun e => c1_10 (Int32.toInt_inj.mp e)
  have tc1_11 : ¬ (v0).toInt = 110 := fun e => c1_11 (Int32.toInt_inj.mp e)
  have tc1_12 : ¬ (v0).toInt = 111 := fun e => c1_12 (Int32.toInt_inj.mp e)
  have tc1_13 : ¬ (v0).toInt = 112 := fun e => c1_13 (Int32.toInt_inj.mp e)
  have tc1_14 : ¬ (v0).toInt = 113 := fun e => c1_14 (Int32.toInt_inj.mp e)
  have tc1_15 : ¬ (v0).toInt = 114 := fun e => c1_15 (Int32.toInt_inj.mp e)
  have tc1_16 : ¬ (v0).toInt = 115 := fun e => c1_16 (Int32.toInt_inj.mp e)
  have tc1_17 : ¬ (v0).toInt = 116 := fun e => c1_17 (Int32.toInt_inj.mp e)
  have tc1_18 : ¬ (v0).toInt = 117 := fun e => c1_18 (Int32.toInt_inj.mp e)
  have tc1_19 : ¬ (v0).toInt = 118 := fun e => c1_19 (Int32.toInt_inj.mp e)
  have tc1_20 : ¬ (v0).toInt = 119 := fun e => c1_20 (Int32.toInt_inj.mp e)
  rw [show swT (v0).toInt (99) [100, 106, 102, 102, 104, 106, 106, 106, 106, 104, 104, 106, 106, 106, 106, 106, 106, 100, 106, 106, 100] 106 = 106 by simp [swT, tc1_0, tc1_1, tc1_2, tc1_3, tc1_4, tc1_5, tc1_6, tc1_7, tc1_8, tc1_9, tc1_10, tc1_11, tc1_12, tc1_13, tc1_14, tc1_15, tc1_16, tc1_17, tc1_18, tc1_19, tc1_20]]
  exact J106 _ hf

def C_digit (v1 : Int32) (rsz : Int32) (rsg : (Nat → Int32)) : Option Int32 := Option.bind (C_sign v1 rsz rsg) (fun q1 => some (if q1 < (48:Int32) then (-1:Int32) else (if (57:Int32) < q1 then (-1:Int32) else (q1 - (48:Int32)))))
set_option maxRecDepth 10000 in
theorem C_digit_ok {v1 : Int32} {q : Int32} (hc : call = sxE sc (d + 2)) (hf : C_digit v1 sr.1 sr.2.2.1 = some q) (h : Q (some (.int q)) (cW nw kp im ol sn sr tp (mW mk mg mt mc T))) : call 55 [.ref 43, .int v1] (cW nw kp im ol sn sr tp (mW mk mg mt mc T)) Q := by
  refine ent hc rfl (fun cl hE hm => ?_)
  unfold C_digit at hf
  obtain ⟨q1, hq1, hf⟩ := bnd hf
  refine stp hm 3 (C_sign_ok hE hq1 ?_)
  show sxWP sc cl Q 55 (5, [some (.ref 43), some (.int v1), none], [.int q1], (cW nw kp im ol sn sr tp (mW mk mg mt mc T)), 0, 0)
  have m2 : ∀ (m2_0 : Int32), m2_0 = (if q1 < (48:Int32) then (-1:Int32) else (if (57:Int32) < q1 then (-1:Int32) else (q1 - (48:Int32)))) → sxWP sc cl Q 55 (26, [some (.ref 43), some (.int v1), some (.int q1)], [.int m2_0], (cW nw kp im ol sn sr tp (mW mk mg mt mc T)), 0, 0) := by
    intro m2_0 em2_0
    subst em2_0
    obtain rfl := Option.some.inj hf
    refine stp hm 1 ?_
    exact h
  refine stp hm 4 (bs (c := q1 < (48:Int32)) (fun c3 => ?_) (fun c3 => ?_))
  · have c3 : q1 < (48:Int32) := c3
    refine stp hm 1 (?_ : sxWP sc cl Q 55 (26, [some (.ref 43), some (.int v1), some (.int q1)], [.int (-1:Int32)], (cW nw kp im ol sn sr tp (mW mk mg mt mc T)), 0, 0))
    exact m2 _ (by rw [if_pos c3])
  · have c3 : ¬ q1 < (48:Int32) := c3
    refine stp hm 3 (bs (c := (57:Int32) < q1) (fun c4 => ?_) (fun c4 => ?_))
    · have c4 : (57:Int32) < q1 := c4
      refine stp hm 1 (?_ : sxWP sc cl Q 55 (26, [some (.ref 43), some (.int v1), some (.int q1)], [.int (-1:Int32)], (cW nw kp im ol sn sr tp (mW mk mg mt mc T)), 0, 0))
      exact m2 _ (by rw [if_neg c3, if_pos c4])
    · have c4 : ¬ (57:Int32) < q1 := c4
      refine stp hm 4 (?_ : sxWP sc cl Q 55 (26, [some (.ref 43), some (.int v1), some (.int q1)], [.int (q1 - (48:Int32))], (cW nw kp im ol sn sr tp (mW mk mg mt mc T)), 0, 0))
      exact m2 _ (by rw [if_neg c3, if_neg c4])

def C_way (v1 : Int32) (rsz : Int32) (rsg : (Nat → Int32)) : Option Int32 := Option.bind (C_sign v1 rsz rsg) (fun q1 => if q1 = (100:Int32) then (some (1:Int32)) else (if q1 = (108:Int32) then (some (2:Int32)) else (if q1 = (114:Int32) then (some (0:Int32)) else (if q1 = (117:Int32) then (some (3:Int32)) else (some (-1:Int32))))))
set_option maxRecDepth 10000 in
theorem C_way_ok {v1 : Int32} {q : Int32} (hc : call = sxE sc (d + 2)) (hf : C_way v1 sr.1 sr.2.2.1 = some q) (h : Q (some (.int q)) (cW nw kp im ol sn sr tp (mW mk mg mt mc T))) : call 56 [.ref 43, .int v1] (cW nw kp im ol sn sr tp (mW mk mg mt mc T)) Q := by
  refine ent hc rfl (fun cl hE hm => ?_)
  unfold C_way at hf
  obtain ⟨q1, hq1, hf⟩ := bnd hf
  refine stp hm 3 (C_sign_ok hE hq1 ?_)
  show sxWP sc cl Q 56 (5, [some (.ref 43), some (.int v1)], [.int q1], (cW nw kp im ol sn sr tp (mW mk mg mt mc T)), 0, 0)
  refine stp hm 1 ?_
  show sxWP sc cl Q 56 ((swL (q1).toInt [(100, 45), (108, 47), (114, 43), (117, 49)] [50, 52, 48, 54] 56), [some (.ref 43), some (.int v1)], [], (cW nw kp im ol sn sr tp (mW mk mg mt mc T)), 0, 0)
  rcases ite_or hf with ⟨c2_0, hf⟩ | ⟨c2_0, hf⟩
  · rw [show swL (q1).toInt [(100, 45), (108, 47), (114, 43), (117, 49)] [50, 52, 48, 54] 56 = 50 by rw [c2_0]; rfl]
    obtain rfl := Option.some.inj hf
    refine stp hm 2 ?_
    exact h
  rcases ite_or hf with ⟨c2_1, hf⟩ | ⟨c2_1, hf⟩
  · rw [show swL (q1).toInt [(100, 45), (108, 47), (114, 43), (117, 49)] [50, 52, 48, 54] 56 = 52 by rw [c2_1]; rfl]
    obtain rfl := Option.some.inj hf
    refine stp hm 2 ?_
    exact h
  rcases ite_or hf with ⟨c2_2, hf⟩ | ⟨c2_2, hf⟩
  · rw [show swL (q1).toInt [(100, 45), (108, 47), (114, 43), (117, 49)] [50, 52, 48, 54] 56 = 48 by rw [c2_2]; rfl]
    obtain rfl := Option.some.inj hf
    refine stp hm 2 ?_
    exact h
  rcases ite_or hf with ⟨c2_3, hf⟩ | ⟨c2_3, hf⟩
  · rw [show swL (q1).toInt [(100, 45), (108, 47), (114, 43), (117, 49)] [50, 52, 48, 54] 56 = 54 by rw [c2_3]; rfl]
    obtain rfl := Option.some.inj hf
    refine stp hm 2 ?_
    exact h
  have tc2_0 : ¬ (q1).toInt = 100 := fun e => c2_0 (Int32.toInt_inj.mp e)
  have tc2_1 : ¬ (q1).toInt = 108 := fun e => c2_1 (Int32.toInt_inj.mp e)
  have tc2_2 : ¬ (q1).toInt = 114 := fun e => c2_2 (Int32.toInt_inj.mp e)
  have tc2_3 : ¬ (q1).toInt = 117 := fun e => c2_3 (Int32.toInt_inj.mp e)
  rw [show swL (q1).toInt [(100, 45), (108, 47), (114, 43), (117, 49)] [50, 52, 48, 54] 56 = 56 by simp [swL, tc2_0, tc2_1, tc2_2, tc2_3]]
  obtain rfl := Option.some.inj hf
  refine stp hm 2 ?_
  exact h

def C_letters_s4  (v1 : Int32) (rsz : Int32) (rsg : (Nat → Int32)) (s : (Int32 × Int32)) : Option ((Int32 × Int32) ⊕ Int32) := if (20:Int32) ≤ s.2 then (some (Sum.inr s.1)) else (Option.bind (C_way (v1 + s.2) rsz rsg) (fun q2 => if q2 < (0:Int32) then (some (Sum.inr s.1)) else (some (Sum.inl (s.1 + (1:Int32), s.2 + (1:Int32))))))
def C_letters (v1 : Int32) (rsz : Int32) (rsg : (Nat → Int32)) : Option Int32 := Option.bind (wh (C_letters_s4 v1 rsz rsg) FU ((0:Int32), (0:Int32))) (fun w1 => some w1)
set_option maxRecDepth 10000 in
theorem C_letters_l4 {v1 : Int32}   (hE : cl = sxE sc (d + 2)) (hm : CallMono cl) : ∀ (n : Nat) (s : (Int32 × Int32)) (r : Int32), wh (C_letters_s4 v1 sr.1 sr.2.2.1) n s = some r → (∀ (z0 z1 z3 : Option Value), sxWP sc cl Q 57 (29, [z0, z1, some (.int r), z3], [], (cW nw kp im ol sn sr tp (mW mk mg mt mc T)), 0, 0)) → sxWP sc cl Q 57 (4, [some (.ref 43), some (.int v1), some (.int s.1), some (.int s.2)], [], (cW nw kp im ol sn sr tp (mW mk mg mt mc T)), 0, 0) := by
  refine wh_run (A := fun (s : (Int32 × Int32)) => sxWP sc cl Q 57 (4, [some (.ref 43), some (.int v1), some (.int s.1), some (.int s.2)], [], (cW nw kp im ol sn sr tp (mW mk mg mt mc T)), 0, 0)) (B := fun (r : Int32) => ∀ (z0 z1 z3 : Option Value), sxWP sc cl Q 57 (29, [z0, z1, some (.int r), z3], [], (cW nw kp im ol sn sr tp (mW mk mg mt mc T)), 0, 0)) (fun s x hf hA hB => ?_)
  unfold C_letters_s4 at hf
  refine stp hm 3 (br hf (fun c1 hf => ?_) (fun c1 hf => ?_))
  · show sxWP sc cl Q 57 (29, [some (.ref 43), some (.int v1), some (.int s.1), some (.int s.2)], [], (cW nw kp im ol sn sr tp (mW mk mg mt mc T)), 0, 0)
    obtain rfl := Option.some.inj hf
    exact hB _ rfl _ _ _
  · show sxWP sc cl Q 57 (10, [some (.ref 43), some (.int v1), some (.int s.1), some (.int s.2)], [], (cW nw kp im ol sn sr tp (mW mk mg mt mc T)), 0, 0)
    obtain ⟨q2, hq2, hf⟩ := bnd hf
    refine stp hm 5 (C_way_ok hE hq2 ?_)
    show sxWP sc cl Q 57 (17, [some (.ref 43), some (.int v1), some (.int s.1), some (.int s.2)], [.int q2], (cW nw kp im ol sn sr tp (mW mk mg mt mc T)), 0, 0)
    refine stp hm 1 (br hf (fun c3 hf => ?_) (fun c3 hf => ?_))
    · show sxWP sc cl Q 57 (29, [some (.ref 43), some (.int v1), some (.int s.1), some (.int s.2)], [], (cW nw kp im ol sn sr tp (mW mk mg mt mc T)), 0, 0)
      obtain rfl := Option.some.inj hf
      exact hB _ rfl _ _ _
    · show sxWP sc cl Q 57 (20, [some (.ref 43), some (.int v1), some (.int s.1), some (.int s.2)], [], (cW nw kp im ol sn sr tp (mW mk mg mt mc T)), 0, 0)
      obtain rfl := Option.some.inj hf
      refine stp hm 3 (?_ : sxWP sc cl Q 57 (4, [some (.ref 43), some (.int v1), some (.int (s.1 + (1:Int32))), some (.int (s.2 + (1:Int32)))], [], (cW nw kp im ol sn sr tp (mW mk mg mt mc T)), 0, 0))
      exact hA _ rfl
set_option maxRecDepth 10000 in
theorem C_letters_ok {v1 : Int32} {q : Int32} (hc : call = sxE sc (d + 3)) (hf : C_letters v1 sr.1 sr.2.2.1 = some q) (h : Q (some (.int q)) (cW nw kp im ol sn sr tp (mW mk mg mt mc T))) : call 57 [.ref 43, .int v1] (cW nw kp im ol sn sr tp (mW mk mg mt mc T)) Q := by
  refine ent hc rfl (fun cl hE hm => ?_)
  unfold C_letters at hf
  obtain ⟨w1, hw1, hf⟩ := bnd hf
  refine stp hm 4 (?_ : sxWP sc cl Q 57 (4, [some (.ref 43), some (.int v1), some (.int (0:Int32)), some (.int (0:Int32))], [], (cW nw kp im ol sn sr tp (mW mk mg mt mc T)), 0, 0))
  refine C_letters_l4 hE hm _ _ _ hw1 ?_
  intro w1_z0 w1_z1 w1_z3
  show sxWP sc cl Q 57 (29, [w1_z0, w1_z1, some (.int w1), w1_z3], [], (cW nw kp im ol sn sr tp (mW mk mg mt mc T)), 0, 0)
  obtain rfl := Option.some.inj hf
  refine stp hm 2 ?_
  exact h

def C_fault_s67  (v3 : Int32) (rsz : Int32) (rsg : (Nat → Int32)) (s : (Int32 × Int32)) : Option ((Int32 × Int32) ⊕ (Int32 ⊕ Int32)) := if v3 ≤ s.2 then (some (Sum.inr (Sum.inr s.1))) else (Option.bind (C_digit s.1 rsz rsg) (fun q2 => if (0:Int32) ≤ q2 then (some (Sum.inl (s.1 + (1:Int32), s.2 + (1:Int32)))) else (some (Sum.inr (Sum.inl s.1)))))
def C_fault_j123  (v2 : Int32) (k0 : Int32) (rcl_j : Int32) (rst_j : (Nat → Int32)) (rsz : Int32) (rsg : (Nat → Int32)) : Option ((Int32 × Int32 × Int32 × (Nat → Int32)) ⊕ ((Int32 × Int32 × (Nat → Int32)) ⊕ ((Int32 × Int32 × (Nat → Int32)) ⊕ ((Int32 × Int32 × (Nat → Int32)) ⊕ ((Int32 × (Nat → Int32)) ⊕ ((Int32 × Int32 × (Nat → Int32)) ⊕ (Int32 × Int32 × (Nat → Int32)))))))) := if k0 = rsz then (some (Sum.inr (Sum.inr (Sum.inr (Sum.inr (Sum.inl (rcl_j, rst_j))))))) else (Option.bind (C_sign k0 rsz rsg) (fun q2 => if q2 = (59:Int32) then (if rcl_j = (12:Int32) then (some (Sum.inr (Sum.inr (Sum.inr (Sum.inr (Sum.inr (Sum.inl (k0, rcl_j, rst_j)))))))) else (some (Sum.inl (k0 + (1:Int32), v2 + (1:Int32), rcl_j, rst_j)))) else (some (Sum.inr (Sum.inr (Sum.inr (Sum.inr (Sum.inr (Sum.inl (k0, rcl_j, rst_j))))))))))
def C_fault_j107  (v1 : Int32) (v2 : Int32) (v4 : Int32) (rcl_j : Int32) (rst_j : (Nat → Int32)) (rsz : Int32) (rsg : (Nat → Int32)) : Option ((Int32 × Int32 × Int32 × (Nat → Int32)) ⊕ ((Int32 × Int32 × (Nat → Int32)) ⊕ ((Int32 × Int32 × (Nat → Int32)) ⊕ ((Int32 × Int32 × (Nat → Int32)) ⊕ ((Int32 × (Nat → Int32)) ⊕ ((Int32 × Int32 × (Nat → Int32)) ⊕ (Int32 × Int32 × (Nat → Int32)))))))) := if v4 = (0:Int32) then (C_fault_j123 v2 v1 rcl_j rst_j rsz rsg) else (Option.bind (C_letters v1 rsz rsg) (fun q6 => C_fault_j123 v2 (v1 + q6) rcl_j rst_j rsz rsg))
def C_fault_s9   (rsz : Int32) (rsg : (Nat → Int32)) (s : (Int32 × Int32 × Int32 × (Nat → Int32))) : Option ((Int32 × Int32 × Int32 × (Nat → Int32)) ⊕ ((Int32 × Int32 × (Nat → Int32)) ⊕ ((Int32 × Int32 × (Nat → Int32)) ⊕ ((Int32 × Int32 × (Nat → Int32)) ⊕ ((Int32 × (Nat → Int32)) ⊕ ((Int32 × Int32 × (Nat → Int32)) ⊕ (Int32 × Int32 × (Nat → Int32)))))))) := if (12:Int32) ≤ s.2.1 then (some (Sum.inr (Sum.inr (Sum.inr (Sum.inr (Sum.inr (Sum.inr (s.1, s.2.2.1, s.2.2.2)))))))) else (Option.bind (C_sign s.1 rsz rsg) (fun q8 => if (0:Int32) ≤ (C_digitsOf q8) then (grd (gi s.2.1 12) (Option.bind (C_sign s.1 rsz rsg) (fun q11 => Option.bind (wh (C_fault_s67 (C_digitsOf q8) rsz rsg) FU (s.1 + (1:Int32), (0:Int32))) (Sum.elim (fun w13_0a => some (Sum.inr (Sum.inr (Sum.inl (w13_0a, s.2.1 + (1:Int32), upd s.2.2.2 s.2.1.toNatClampNeg s.1))))) (fun w13_0b => if (if q11 = (119:Int32) then (1:Int32) else (0:Int32)) = (0:Int32) then (C_fault_j107 w13_0b s.2.1 (if q11 = (119:Int32) then (1:Int32) else (0:Int32)) (s.2.1 + (1:Int32)) (upd s.2.2.2 s.2.1.toNatClampNeg s.1) rsz rsg) else (Option.bind (C_letters w13_0b rsz rsg) (fun q15 => if q15 = (0:Int32) then (some (Sum.inr (Sum.inr (Sum.inr (Sum.inl (w13_0b, s.2.1 + (1:Int32), upd s.2.2.2 s.2.1.toNatClampNeg s.1)))))) else (C_fault_j107 w13_0b s.2.1 (if q11 = (119:Int32) then (1:Int32) else (0:Int32)) (s.2.1 + (1:Int32)) (upd s.2.2.2 s.2.1.toNatClampNeg s.1) rsz rsg)))))))) else (some (Sum.inr (Sum.inl (s.1, s.2.2.1, s.2.2.2))))))
def C_fault  (rsz : Int32) (rsg : (Nat → Int32)) (rst : (Nat → Int32)) : Option (Int32 × Int32 × (Nat → Int32)) := Option.bind (wh (C_fault_s9 rsz rsg) FU ((0:Int32), (0:Int32), (0:Int32), rst)) (Sum.elim (fun w1_0a => some (w1_0a.1, w1_0a.2.1, w1_0a.2.2)) (Sum.elim (fun w1_1a => some (w1_1a.1, w1_1a.2.1, w1_1a.2.2)) (Sum.elim (fun w1_2a => some (w1_2a.1, w1_2a.2.1, w1_2a.2.2)) (Sum.elim (fun w1_3a => some ((-1:Int32), w1_3a.1, w1_3a.2)) (Sum.elim (fun w1_4a => some (w1_4a.1, w1_4a.2.1, w1_4a.2.2)) (fun w1_4b => some (w1_4b.1, w1_4b.2.1, w1_4b.2.2)))))))
set_option maxRecDepth 10000 in
theorem C_fault_l67 {v2 : Int32} {v3 : Int32} {v4 : Int32}   (hE : cl = sxE sc (d + 3)) (hm : CallMono cl) : ∀ (n : Nat) (s : (Int32 × Int32)) (r : (Int32 ⊕ Int32)), wh (C_fault_s67 v3 sr.1 sr.2.2.1) n s = some r → ((∀ p0, r = Sum.inl p0 → ∀ (z0 z2 z3 z4 z5 : Option Value), sxWP sc cl Q 59 (81, [z0, some (.int p0), z2, z3, z4, z5], [], (cW nw kp im ol sn sr tp (mW mk mg mt mc T)), 0, 0)) ∧ (∀ p0, r = Sum.inr p0 → ∀ (z3 z5 : Option Value), sxWP sc cl Q 59 (92, [some (.ref 43), some (.int p0), some (.int v2), z3, some (.int v4), z5], [], (cW nw kp im ol sn sr tp (mW mk mg mt mc T)), 0, 0))) → sxWP sc cl Q 59 (67, [some (.ref 43), some (.int s.1), some (.int v2), some (.int v3), some (.int v4), some (.int s.2)], [], (cW nw kp im ol sn sr tp (mW mk mg mt mc T)), 0, 0) := by
  refine wh_run (A := fun (s : (Int32 × Int32)) => sxWP sc cl Q 59 (67, [some (.ref 43), some (.int s.1), some (.int v2), some (.int v3), some (.int v4), some (.int s.2)], [], (cW nw kp im ol sn sr tp (mW mk mg mt mc T)), 0, 0)) (B := fun (r : (Int32 ⊕ Int32)) => (∀ p0, r = Sum.inl p0 → ∀ (z0 z2 z3 z4 z5 : Option Value), sxWP sc cl Q 59 (81, [z0, some (.int p0), z2, z3, z4, z5], [], (cW nw kp im ol sn sr tp (mW mk mg mt mc T)), 0, 0)) ∧ (∀ p0, r = Sum.inr p0 → ∀ (z3 z5 : Option Value), sxWP sc cl Q 59 (92, [some (.ref 43), some (.int p0), some (.int v2), z3, some (.int v4), z5], [], (cW nw kp im ol sn sr tp (mW mk mg mt mc T)), 0, 0))) (fun s x hf hA hB => ?_)
  unfold C_fault_s67 at hf
  refine stp hm 3 (br hf (fun c1 hf => ?_) (fun c1 hf => ?_))
  · show sxWP sc cl Q 59 (92, [some (.ref 43), some (.int s.1), some (.int v2), some (.int v3), some (.int v4), some (.int s.2)], [], (cW nw kp im ol sn sr tp (mW mk mg mt mc T)), 0, 0)
    obtain rfl := Option.some.inj hf
    exact (hB _ rfl).2 _ rfl _ _
  · show sxWP sc cl Q 59 (73, [some (.ref 43), some (.int s.1), some (.int v2), some (.int v3), some (.int v4), some (.int s.2)], [], (cW nw kp im ol sn sr tp (mW mk mg mt mc T)), 0, 0)
    obtain ⟨q2, hq2, hf⟩ := bnd hf
    refine stp hm 3 (C_digit_ok hE hq2 ?_)
    show sxWP sc cl Q 59 (78, [some (.ref 43), some (.int s.1), some (.int v2), some (.int v3), some (.int v4), some (.int s.2)], [.int q2], (cW nw kp im ol sn sr tp (mW mk mg mt mc T)), 0, 0)
    refine stp hm 1 (br hf (fun c3 hf => ?_) (fun c3 hf => ?_))
    · show sxWP sc cl Q 59 (83, [some (.ref 43), some (.int s.1), some (.int v2), some (.int v3), some (.int v4), some (.int s.2)], [], (cW nw kp im ol sn sr tp (mW mk mg mt mc T)), 0, 0)
      obtain rfl := Option.some.inj hf
      refine stp hm 3 (?_ : sxWP sc cl Q 59 (67, [some (.ref 43), some (.int (s.1 + (1:Int32))), some (.int v2), some (.int v3), some (.int v4), some (.int (s.2 + (1:Int32)))], [], (cW nw kp im ol sn sr tp (mW mk mg mt mc T)), 0, 0))
      exact hA _ rfl
    · show sxWP sc cl Q 59 (81, [some (.ref 43), some (.int s.1), some (.int v2), some (.int v3), some (.int v4), some (.int s.2)], [], (cW nw kp im ol sn sr tp (mW mk mg mt mc T)), 0, 0)
      obtain rfl := Option.some.inj hf
      exact (hB _ rfl).1 _ rfl _ _ _ _ _
set_option maxRecDepth 10000 in
theorem C_fault_l9    (hE : cl = sxE sc (d + 3)) (hm : CallMono cl) : ∀ (n : Nat) (s : (Int32 × Int32 × Int32 × (Nat → Int32))) (r : ((Int32 × Int32 × (Nat → Int32)) ⊕ ((Int32 × Int32 × (Nat → Int32)) ⊕ ((Int32 × Int32 × (Nat → Int32)) ⊕ ((Int32 × (Nat → Int32)) ⊕ ((Int32 × Int32 × (Nat → Int32)) ⊕ (Int32 × Int32 × (Nat → Int32)))))))), wh (C_fault_s9 sr.1 sr.2.2.1) n s = some r → ((∀ p0, r = Sum.inl p0 → ∀ (z0 z2 z3 z4 z5 : Option Value), sxWP sc cl Q 59 (28, [z0, some (.int p0.1), z2, z3, z4, z5], [], (cW nw kp im ol sn (sr.1, p0.2.1, sr.2.2.1, p0.2.2) tp (mW mk mg mt mc T)), 0, 0)) ∧ (∀ p0, r = Sum.inr p0 → (∀ p1, p0 = Sum.inl p1 → ∀ (z0 z2 z3 z4 z5 : Option Value), sxWP sc cl Q 59 (81, [z0, some (.int p1.1), z2, z3, z4, z5], [], (cW nw kp im ol sn (sr.1, p1.2.1, sr.2.2.1, p1.2.2) tp (mW mk mg mt mc T)), 0, 0)) ∧ (∀ p1, p0 = Sum.inr p1 → (∀ p2, p1 = Sum.inl p2 → ∀ (z0 z2 z3 z4 z5 : Option Value), sxWP sc cl Q 59 (105, [z0, some (.int p2.1), z2, z3, z4, z5], [], (cW nw kp im ol sn (sr.1, p2.2.1, sr.2.2.1, p2.2.2) tp (mW mk mg mt mc T)), 0, 0)) ∧ (∀ p2, p1 = Sum.inr p2 → (∀ p3, p2 = Sum.inl p3 → ∀ (z0 z1 z2 z3 z4 z5 : Option Value), sxWP sc cl Q 59 (132, [z0, z1, z2, z3, z4, z5], [], (cW nw kp im ol sn (sr.1, p3.1, sr.2.2.1, p3.2) tp (mW mk mg mt mc T)), 0, 0)) ∧ (∀ p3, p2 = Sum.inr p3 → (∀ p4, p3 = Sum.inl p4 → ∀ (z0 z2 z3 z4 z5 : Option Value), sxWP sc cl Q 59 (153, [z0, some (.int p4.1), z2, z3, z4, z5], [], (cW nw kp im ol sn (sr.1, p4.2.1, sr.2.2.1, p4.2.2) tp (mW mk mg mt mc T)), 0, 0)) ∧ (∀ p4, p3 = Sum.inr p4 → ∀ (z0 z2 z3 z4 z5 : Option Value), sxWP sc cl Q 59 (164, [z0, some (.int p4.1), z2, z3, z4, z5], [], (cW nw kp im ol sn (sr.1, p4.2.1, sr.2.2.1, p4.2.2) tp (mW mk mg mt mc T)), 0, 0))))))) → ∀ (z3 z4 z5 : Option Value), sxWP sc cl Q 59 (9, [some (.ref 43), some (.int s.1), some (.int s.2.1), z3, z4, z5], [], (cW nw kp im ol sn (sr.1, s.2.2.1, sr.2.2.1, s.2.2.2) tp (mW mk mg mt mc T)), 0, 0) := by
  refine wh_run (A := fun (s : (Int32 × Int32 × Int32 × (Nat → Int32))) => ∀ (z3 z4 z5 : Option Value), sxWP sc cl Q 59 (9, [some (.ref 43), some (.int s.1), some (.int s.2.1), z3, z4, z5], [], (cW nw kp im ol sn (sr.1, s.2.2.1, sr.2.2.1, s.2.2.2) tp (mW mk mg mt mc T)), 0, 0)) (B := fun (r : ((Int32 × Int32 × (Nat → Int32)) ⊕ ((Int32 × Int32 × (Nat → Int32)) ⊕ ((Int32 × Int32 × (Nat → Int32)) ⊕ ((Int32 × (Nat → Int32)) ⊕ ((Int32 × Int32 × (Nat → Int32)) ⊕ (Int32 × Int32 × (Nat → Int32)))))))) => (∀ p0, r = Sum.inl p0 → ∀ (z0 z2 z3 z4 z5 : Option Value), sxWP sc cl Q 59 (28, [z0, some (.int p0.1), z2, z3, z4, z5], [], (cW nw kp im ol sn (sr.1, p0.2.1, sr.2.2.1, p0.2.2) tp (mW mk mg mt mc T)), 0, 0)) ∧ (∀ p0, r = Sum.inr p0 → (∀ p1, p0 = Sum.inl p1 → ∀ (z0 z2 z3 z4 z5 : Option Value), sxWP sc cl Q 59 (81, [z0, some (.int p1.1), z2, z3, z4, z5], [], (cW nw kp im ol sn (sr.1, p1.2.1, sr.2.2.1, p1.2.2) tp (mW mk mg mt mc T)), 0, 0)) ∧ (∀ p1, p0 = Sum.inr p1 → (∀ p2, p1 = Sum.inl p2 → ∀ (z0 z2 z3 z4 z5 : Option Value), sxWP sc cl Q 59 (105, [z0, some (.int p2.1), z2, z3, z4, z5], [], (cW nw kp im ol sn (sr.1, p2.2.1, sr.2.2.1, p2.2.2) tp (mW mk mg mt mc T)), 0, 0)) ∧ (∀ p2, p1 = Sum.inr p2 → (∀ p3, p2 = Sum.inl p3 → ∀ (z0 z1 z2 z3 z4 z5 : Option Value), sxWP sc cl Q 59 (132, [z0, z1, z2, z3, z4, z5], [], (cW nw kp im ol sn (sr.1, p3.1, sr.2.2.1, p3.2) tp (mW mk mg mt mc T)), 0, 0)) ∧ (∀ p3, p2 = Sum.inr p3 → (∀ p4, p3 = Sum.inl p4 → ∀ (z0 z2 z3 z4 z5 : Option Value), sxWP sc cl Q 59 (153, [z0, some (.int p4.1), z2, z3, z4, z5], [], (cW nw kp im ol sn (sr.1, p4.2.1, sr.2.2.1, p4.2.2) tp (mW mk mg mt mc T)), 0, 0)) ∧ (∀ p4, p3 = Sum.inr p4 → ∀ (z0 z2 z3 z4 z5 : Option Value), sxWP sc cl Q 59 (164, [z0, some (.int p4.1), z2, z3, z4, z5], [], (cW nw kp im ol sn (sr.1, p4.2.1, sr.2.2.1, p4.2.2) tp (mW mk mg mt mc T)), 0, 0))))))) (fun s x hf hA hB => ?_)
  intro z3 z4 z5
  have J123 : ∀ (v2 : Int32) (k0 : Int32) (rcl_j : Int32) (rst_j : (Nat → Int32)) (z1 : Option Value) (z3 : Option Value) (z4 : Option Value) (z5 : Option Value), C_fault_j123 v2 k0 rcl_j rst_j sr.1 sr.2.2.1 = some x → sxWP sc cl Q 59 (123, [some (.ref 43), z1, some (.int v2), z3, z4, z5], [.int k0], (cW nw kp im ol sn (sr.1, rcl_j, sr.2.2.1, rst_j) tp (mW mk mg mt mc T)), 0, 0) := by
    intro v2 k0 rcl_j rst_j z1 z3 z4 z5 hf
    unfold C_fault_j123 at hf
    refine stp hm 5 (brn hf (fun c1 hf => ?_) (fun c1 hf => ?_))
    · show sxWP sc cl Q 59 (134, [some (.ref 43), some (.int k0), some (.int v2), z3, z4, z5], [], (cW nw kp im ol sn (sr.1, rcl_j, sr.2.2.1, rst_j) tp (mW mk mg mt mc T)), 0, 0)
      obtain ⟨q2, hq2, hf⟩ := bnd hf
      refine stp hm 3 (C_sign_ok hE hq2 ?_)
      show sxWP sc cl Q 59 (139, [some (.ref 43), some (.int k0), some (.int v2), z3, z4, z5], [.int q2], (cW nw kp im ol sn (sr.1, rcl_j, sr.2.2.1, rst_j) tp (mW mk mg mt mc T)), 0, 0)
      refine stp hm 2 (brn hf (fun c3 hf => ?_) (fun c3 hf => ?_))
      · show sxWP sc cl Q 59 (153, [some (.ref 43), some (.int k0), some (.int v2), z3, z4, z5], [], (cW nw kp im ol sn (sr.1, rcl_j, sr.2.2.1, rst_j) tp (mW mk mg mt mc T)), 0, 0)
        obtain rfl := Option.some.inj hf
        exact (((((hB _ rfl).2 _ rfl).2 _ rfl).2 _ rfl).2 _ rfl).1 _ rfl _ _ _ _ _
      · show sxWP sc cl Q 59 (144, [some (.ref 43), some (.int k0), some (.int v2), z3, z4, z5], [], (cW nw kp im ol sn (sr.1, rcl_j, sr.2.2.1, rst_j) tp (mW mk mg mt mc T)), 0, 0)
        refine stp hm 4 (brn hf (fun c4 hf => ?_) (fun c4 hf => ?_))
        · show sxWP sc cl Q 59 (155, [some (.ref 43), some (.int k0), some (.int v2), z3, z4, z5], [], (cW nw kp im ol sn (sr.1, rcl_j, sr.2.2.1, rst_j) tp (mW mk mg mt mc T)), 0, 0)
          obtain rfl := Option.some.inj hf
          refine stp hm 3 (?_ : sxWP sc cl Q 59 (9, [some (.ref 43), some (.int (k0 + (1:Int32))), some (.int (v2 + (1:Int32))), z3, z4, z5], [], (cW nw kp im ol sn (sr.1, rcl_j, sr.2.2.1, rst_j) tp (mW mk mg mt mc T)), 0, 0))
          exact hA _ rfl _ _ _
        · show sxWP sc cl Q 59 (153, [some (.ref 43), some (.int k0), some (.int v2), z3, z4, z5], [], (cW nw kp im ol sn (sr.1, rcl_j, sr.2.2.1, rst_j) tp (mW mk mg mt mc T)), 0, 0)
          obtain rfl := Option.some.inj hf
          exact (((((hB _ rfl).2 _ rfl).2 _ rfl).2 _ rfl).2 _ rfl).1 _ rfl _ _ _ _ _
    · show sxWP sc cl Q 59 (132, [some (.ref 43), some (.int k0), some (.int v2), z3, z4, z5], [], (cW nw kp im ol sn (sr.1, rcl_j, sr.2.2.1, rst_j) tp (mW mk mg mt mc T)), 0, 0)
      obtain rfl := Option.some.inj hf
      exact ((((hB _ rfl).2 _ rfl).2 _ rfl).2 _ rfl).1 _ rfl _ _ _ _ _ _
  have J107 : ∀ (v1 : Int32) (v2 : Int32) (v4 : Int32) (rcl_j : Int32) (rst_j : (Nat → Int32)) (z3 : Option Value) (z5 : Option Value), C_fault_j107 v1 v2 v4 rcl_j rst_j sr.1 sr.2.2.1 = some x → sxWP sc cl Q 59 (107, [some (.ref 43), some (.int v1), some (.int v2), z3, some (.int v4), z5], [], (cW nw kp im ol sn (sr.1, rcl_j, sr.2.2.1, rst_j) tp (mW mk mg mt mc T)), 0, 0) := by
    intro v1 v2 v4 rcl_j rst_j z3 z5 hf
    unfold C_fault_j107 at hf
    refine stp hm 2 (br hf (fun c5 hf => ?_) (fun c5 hf => ?_))
    · show sxWP sc cl Q 59 (122, [some (.ref 43), some (.int v1), some (.int v2), z3, some (.int v4), z5], [], (cW nw kp im ol sn (sr.1, rcl_j, sr.2.2.1, rst_j) tp (mW mk mg mt mc T)), 0, 0)
      refine stp hm 1 (?_ : sxWP sc cl Q 59 (123, [some (.ref 43), some (.int v1), some (.int v2), z3, some (.int v4), z5], [.int v1], (cW nw kp im ol sn (sr.1, rcl_j, sr.2.2.1, rst_j) tp (mW mk mg mt mc T)), 0, 0))
      exact J123 _ _ _ _ _ _ _ _ hf
    · show sxWP sc cl Q 59 (112, [some (.ref 43), some (.int v1), some (.int v2), z3, some (.int v4), z5], [], (cW nw kp im ol sn (sr.1, rcl_j, sr.2.2.1, rst_j) tp (mW mk mg mt mc T)), 0, 0)
      obtain ⟨q6, hq6, hf⟩ := bnd hf
      refine stp hm 4 (C_letters_ok hE hq6 ?_)
      show sxWP sc cl Q 59 (118, [some (.ref 43), some (.int v1), some (.int v2), z3, some (.int v4), z5], [.int q6, .int v1], (cW nw kp im ol sn (sr.1, rcl_j, sr.2.2.1, rst_j) tp (mW mk mg mt mc T)), 0, 0)
      refine stp hm 2 (?_ : sxWP sc cl Q 59 (123, [some (.ref 43), some (.int v1), some (.int v2), z3, some (.int v4), z5], [.int (v1 + q6)], (cW nw kp im ol sn (sr.1, rcl_j, sr.2.2.1, rst_j) tp (mW mk mg mt mc T)), 0, 0))
      exact J123 _ _ _ _ _ _ _ _ hf
  unfold C_fault_s9 at hf
  refine stp hm 3 (br hf (fun c7 hf => ?_) (fun c7 hf => ?_))
  · show sxWP sc cl Q 59 (164, [some (.ref 43), some (.int s.1), some (.int s.2.1), z3, z4, z5], [], (cW nw kp im ol sn (sr.1, s.2.2.1, sr.2.2.1, s.2.2.2) tp (mW mk mg mt mc T)), 0, 0)
    obtain rfl := Option.some.inj hf
    exact (((((hB _ rfl).2 _ rfl).2 _ rfl).2 _ rfl).2 _ rfl).2 _ rfl _ _ _ _ _
  · show sxWP sc cl Q 59 (15, [some (.ref 43), some (.int s.1), some (.int s.2.1), z3, z4, z5], [], (cW nw kp im ol sn (sr.1, s.2.2.1, sr.2.2.1, s.2.2.2) tp (mW mk mg mt mc T)), 0, 0)
    obtain ⟨q8, hq8, hf⟩ := bnd hf
    refine stp hm 3 (C_sign_ok hE hq8 ?_)
    show sxWP sc cl Q 59 (20, [some (.ref 43), some (.int s.1), some (.int s.2.1), z3, z4, z5], [.int q8], (cW nw kp im ol sn (sr.1, s.2.2.1, sr.2.2.1, s.2.2.2) tp (mW mk mg mt mc T)), 0, 0)
    refine stp hm 1 (C_digitsOf_ok hE rfl ?_)
    show sxWP sc cl Q 59 (23, [some (.ref 43), some (.int s.1), some (.int s.2.1), z3, z4, z5], [.int (C_digitsOf q8)], (cW nw kp im ol sn (sr.1, s.2.2.1, sr.2.2.1, s.2.2.2) tp (mW mk mg mt mc T)), 0, 0)
    refine stp hm 3 (br hf (fun c9 hf => ?_) (fun c9 hf => ?_))
    · show sxWP sc cl Q 59 (30, [some (.ref 43), some (.int s.1), some (.int s.2.1), some (.int (C_digitsOf q8)), z4, z5], [], (cW nw kp im ol sn (sr.1, s.2.2.1, sr.2.2.1, s.2.2.2) tp (mW mk mg mt mc T)), 0, 0)
      obtain ⟨g10, hf⟩ := grd_e hf
      refine stp hm 5 (And.intro (gi_in g10) (?_ : sxWP sc cl Q 59 (37, [some (.ref 43), some (.int s.1), some (.int s.2.1), some (.int (C_digitsOf q8)), z4, z5], [], (cW nw kp im ol sn (sr.1, s.2.2.1, sr.2.2.1, upd s.2.2.2 s.2.1.toNatClampNeg s.1) tp (mW mk mg mt mc T)), 0, 0)))
      obtain ⟨q11, hq11, hf⟩ := bnd hf
      refine stp hm 8 (C_sign_ok hE hq11 ?_)
      show sxWP sc cl Q 59 (49, [some (.ref 43), some (.int s.1), some (.int s.2.1), some (.int (C_digitsOf q8)), z4, z5], [.int q11], (cW nw kp im ol sn (sr.1, s.2.1 + (1:Int32), sr.2.2.1, upd s.2.2.2 s.2.1.toNatClampNeg s.1) tp (mW mk mg mt mc T)), 0, 0)
      have m12 : ∀ (m12_0 : Int32), m12_0 = (if q11 = (119:Int32) then (1:Int32) else (0:Int32)) → sxWP sc cl Q 59 (59, [some (.ref 43), some (.int s.1), some (.int s.2.1), some (.int (C_digitsOf q8)), z4, z5], [.int m12_0], (cW nw kp im ol sn (sr.1, s.2.1 + (1:Int32), sr.2.2.1, upd s.2.2.2 s.2.1.toNatClampNeg s.1) tp (mW mk mg mt mc T)), 0, 0) := by
        intro m12_0 em12_0
        subst em12_0
        obtain ⟨w13, hw13, hf⟩ := bnd hf
        refine stp hm 4 (?_ : sxWP sc cl Q 59 (67, [some (.ref 43), some (.int (s.1 + (1:Int32))), some (.int s.2.1), some (.int (C_digitsOf q8)), some (.int (if q11 = (119:Int32) then (1:Int32) else (0:Int32))), some (.int (0:Int32))], [], (cW nw kp im ol sn (sr.1, s.2.1 + (1:Int32), sr.2.2.1, upd s.2.2.2 s.2.1.toNatClampNeg s.1) tp (mW mk mg mt mc T)), 0, 0))
        refine C_fault_l67 hE hm _ _ _ hw13 ?_
        refine ⟨fun w13_0a e0 => ?_, fun w13_0b e0 => ?_⟩
        · subst e0
          replace hf : (some (Sum.inr (Sum.inr (Sum.inl (w13_0a, s.2.1 + (1:Int32), upd s.2.2.2 s.2.1.toNatClampNeg s.1))))) = some x := hf
          intro w13_z0 w13_z2 w13_z3 w13_z4 w13_z5
          show sxWP sc cl Q 59 (81, [w13_z0, some (.int w13_0a), w13_z2, w13_z3, w13_z4, w13_z5], [], (cW nw kp im ol sn (sr.1, s.2.1 + (1:Int32), sr.2.2.1, upd s.2.2.2 s.2.1.toNatClampNeg s.1) tp (mW mk mg mt mc T)), 0, 0)
          obtain rfl := Option.some.inj hf
          exact ((hB _ rfl).2 _ rfl).1 _ rfl _ _ _ _ _
        · subst e0
          replace hf : (if (if q11 = (119:Int32) then (1:Int32) else (0:Int32)) = (0:Int32) then (C_fault_j107 w13_0b s.2.1 (if q11 = (119:Int32) then (1:Int32) else (0:Int32)) (s.2.1 + (1:Int32)) (upd s.2.2.2 s.2.1.toNatClampNeg s.1) sr.1 sr.2.2.1) else (Option.bind (C_letters w13_0b sr.1 sr.2.2.1) (fun q15 => if q15 = (0:Int32) then (some (Sum.inr (Sum.inr (Sum.inr (Sum.inl (w13_0b, s.2.1 + (1:Int32), upd s.2.2.2 s.2.1.toNatClampNeg s.1)))))) else (C_fault_j107 w13_0b s.2.1 (if q11 = (119:Int32) then (1:Int32) else (0:Int32)) (s.2.1 + (1:Int32)) (upd s.2.2.2 s.2.1.toNatClampNeg s.1) sr.1 sr.2.2.1)))) = some x := hf
          intro w13_z3 w13_z5
          show sxWP sc cl Q 59 (92, [some (.ref 43), some (.int w13_0b), some (.int s.2.1), w13_z3, some (.int (if q11 = (119:Int32) then (1:Int32) else (0:Int32))), w13_z5], [], (cW nw kp im ol sn (sr.1, s.2.1 + (1:Int32), sr.2.2.1, upd s.2.2.2 s.2.1.toNatClampNeg s.1) tp (mW mk mg mt mc T)), 0, 0)
          refine stp hm 2 (br hf (fun c14 hf => ?_) (fun c14 hf => ?_))
          · show sxWP sc cl Q 59 (107, [some (.ref 43), some (.int w13_0b), some (.int s.2.1), w13_z3, some (.int (if q11 = (119:Int32) then (1:Int32) else (0:Int32))), w13_z5], [], (cW nw kp im ol sn (sr.1, s.2.1 + (1:Int32), sr.2.2.1, upd s.2.2.2 s.2.1.toNatClampNeg s.1) tp (mW mk mg mt mc T)), 0, 0)
            exact J107 _ _ _ _ _ _ _ hf
          · show sxWP sc cl Q 59 (97, [some (.ref 43), some (.int w13_0b), some (.int s.2.1), w13_z3, some (.int (if q11 = (119:Int32) then (1:Int32) else (0:Int32))), w13_z5], [], (cW nw kp im ol sn (sr.1, s.2.1 + (1:Int32), sr.2.2.1, upd s.2.2.2 s.2.1.toNatClampNeg s.1) tp (mW mk mg mt mc T)), 0, 0)
            obtain ⟨q15, hq15, hf⟩ := bnd hf
            refine stp hm 3 (C_letters_ok hE hq15 ?_)
            show sxWP sc cl Q 59 (102, [some (.ref 43), some (.int w13_0b), some (.int s.2.1), w13_z3, some (.int (if q11 = (119:Int32) then (1:Int32) else (0:Int32))), w13_z5], [.int q15], (cW nw kp im ol sn (sr.1, s.2.1 + (1:Int32), sr.2.2.1, upd s.2.2.2 s.2.1.toNatClampNeg s.1) tp (mW mk mg mt mc T)), 0, 0)
            refine stp hm 1 (brn hf (fun c16 hf => ?_) (fun c16 hf => ?_))
            · show sxWP sc cl Q 59 (107, [some (.ref 43), some (.int w13_0b), some (.int s.2.1), w13_z3, some (.int (if q11 = (119:Int32) then (1:Int32) else (0:Int32))), w13_z5], [], (cW nw kp im ol sn (sr.1, s.2.1 + (1:Int32), sr.2.2.1, upd s.2.2.2 s.2.1.toNatClampNeg s.1) tp (mW mk mg mt mc T)), 0, 0)
              exact J107 _ _ _ _ _ _ _ hf
            · show sxWP sc cl Q 59 (105, [some (.ref 43), some (.int w13_0b), some (.int s.2.1), w13_z3, some (.int (if q11 = (119:Int32) then (1:Int32) else (0:Int32))), w13_z5], [], (cW nw kp im ol sn (sr.1, s.2.1 + (1:Int32), sr.2.2.1, upd s.2.2.2 s.2.1.toNatClampNeg s.1) tp (mW mk mg mt mc T)), 0, 0)
              obtain rfl := Option.some.inj hf
              exact (((hB _ rfl).2 _ rfl).2 _ rfl).1 _ rfl _ _ _ _ _
      refine stp hm 2 (bsn (c := q11 = (119:Int32)) (fun c17 => ?_) (fun c17 => ?_))
      · have c17 : ¬ q11 = (119:Int32) := c17
        refine stp hm 1 (?_ : sxWP sc cl Q 59 (59, [some (.ref 43), some (.int s.1), some (.int s.2.1), some (.int (C_digitsOf q8)), z4, z5], [.int (0:Int32)], (cW nw kp im ol sn (sr.1, s.2.1 + (1:Int32), sr.2.2.1, upd s.2.2.2 s.2.1.toNatClampNeg s.1) tp (mW mk mg mt mc T)), 0, 0))
        exact m12 _ (by rw [if_neg c17])
      · have c17 : q11 = (119:Int32) := c17
        refine stp hm 2 (?_ : sxWP sc cl Q 59 (59, [some (.ref 43), some (.int s.1), some (.int s.2.1), some (.int (C_digitsOf q8)), z4, z5], [.int (1:Int32)], (cW nw kp im ol sn (sr.1, s.2.1 + (1:Int32), sr.2.2.1, upd s.2.2.2 s.2.1.toNatClampNeg s.1) tp (mW mk mg mt mc T)), 0, 0))
        exact m12 _ (by rw [if_pos c17])
    · show sxWP sc cl Q 59 (28, [some (.ref 43), some (.int s.1), some (.int s.2.1), some (.int (C_digitsOf q8)), z4, z5], [], (cW nw kp im ol sn (sr.1, s.2.2.1, sr.2.2.1, s.2.2.2) tp (mW mk mg mt mc T)), 0, 0)
      obtain rfl := Option.some.inj hf
      exact (hB _ rfl).1 _ rfl _ _ _ _ _
set_option maxRecDepth 10000 in
theorem C_fault_ok  {q : (Int32 × Int32 × (Nat → Int32))} (hc : call = sxE sc (d + 4)) (hf : C_fault sr.1 sr.2.2.1 sr.2.2.2 = some q) (h : Q (some (.int q.1)) (cW nw kp im ol sn (sr.1, q.2.1, sr.2.2.1, q.2.2) tp (mW mk mg mt mc T))) : call 59 [.ref 43] (cW nw kp im ol sn sr tp (mW mk mg mt mc T)) Q := by
  refine ent hc rfl (fun cl hE hm => ?_)
  unfold C_fault at hf
  obtain ⟨w1, hw1, hf⟩ := bnd hf
  refine stp hm 7 (?_ : sxWP sc cl Q 59 (9, [some (.ref 43), some (.int (0:Int32)), some (.int (0:Int32)), none, none, none], [], (cW nw kp im ol sn (sr.1, (0:Int32), sr.2.2.1, sr.2.2.2) tp (mW mk mg mt mc T)), 0, 0))
  refine C_fault_l9 hE hm _ _ _ hw1 ?_ _ _ _
  refine ⟨fun w1_0a e0 => ?_, fun w1_0b e0 => ?_⟩
  · subst e0
    replace hf : (some (w1_0a.1, w1_0a.2.1, w1_0a.2.2)) = some q := hf
    intro w1_z0 w1_z2 w1_z3 w1_z4 w1_z5
    show sxWP sc cl Q 59 (28, [w1_z0, some (.int w1_0a.1), w1_z2, w1_z3, w1_z4, w1_z5], [], (cW nw kp im ol sn (sr.1, w1_0a.2.1, sr.2.2.1, w1_0a.2.2) tp (mW mk mg mt mc T)), 0, 0)
    obtain rfl := Option.some.inj hf
    refine stp hm 2 ?_
    exact h
  · subst e0
    refine ⟨fun w1_1a e1 => ?_, fun w1_1b e1 => ?_⟩
    · subst e1
      replace hf : (some (w1_1a.1, w1_1a.2.1, w1_1a.2.2)) = some q := hf
      intro w1_z0 w1_z2 w1_z3 w1_z4 w1_z5
      show sxWP sc cl Q 59 (81, [w1_z0, some (.int w1_1a.1), w1_z2, w1_z3, w1_z4, w1_z5], [], (cW nw kp im ol sn (sr.1, w1_1a.2.1, sr.2.2.1, w1_1a.2.2) tp (mW mk mg mt mc T)), 0, 0)
      obtain rfl := Option.some.inj hf
      refine stp hm 2 ?_
      exact h
    · subst e1
      refine ⟨fun w1_2a e2 => ?_, fun w1_2b e2 => ?_⟩
      · subst e2
        replace hf : (some (w1_2a.1, w1_2a.2.1, w1_2a.2.2)) = some q := hf
        intro w1_z0 w1_z2 w1_z3 w1_z4 w1_z5
        show sxWP sc cl Q 59 (105, [w1_z0, some (.int w1_2a.1), w1_z2, w1_z3, w1_z4, w1_z5], [], (cW nw kp im ol sn (sr.1, w1_2a.2.1, sr.2.2.1, w1_2a.2.2) tp (mW mk mg mt mc T)), 0, 0)
        obtain rfl := Option.some.inj hf
        refine stp hm 2 ?_
        exact h
      · subst e2
        refine ⟨fun w1_3a e3 => ?_, fun w1_3b e3 => ?_⟩
        · subst e3
          replace hf : (some ((-1:Int32), w1_3a.1, w1_3a.2)) = some q := hf
          intro w1_z0 w1_z1 w1_z2 w1_z3 w1_z4 w1_z5
          show sxWP sc cl Q 59 (132, [w1_z0, w1_z1, w1_z2, w1_z3, w1_z4, w1_z5], [], (cW nw kp im ol sn (sr.1, w1_3a.1, sr.2.2.1, w1_3a.2) tp (mW mk mg mt mc T)), 0, 0)
          obtain rfl := Option.some.inj hf
          refine stp hm 2 ?_
          exact h
        · subst e3
          refine ⟨fun w1_4a e4 => ?_, fun w1_4b e4 => ?_⟩
          · subst e4
            replace hf : (some (w1_4a.1, w1_4a.2.1, w1_4a.2.2)) = some q := hf
            intro w1_z0 w1_z2 w1_z3 w1_z4 w1_z5
            show sxWP sc cl Q 59 (153, [w1_z0, some (.int w1_4a.1), w1_z2, w1_z3, w1_z4, w1_z5], [], (cW nw kp im ol sn (sr.1, w1_4a.2.1, sr.2.2.1, w1_4a.2.2) tp (mW mk mg mt mc T)), 0, 0)
            obtain rfl := Option.some.inj hf
            refine stp hm 2 ?_
            exact h
          · subst e4
            replace hf : (some (w1_4b.1, w1_4b.2.1, w1_4b.2.2)) = some q := hf
            intro w1_z0 w1_z2 w1_z3 w1_z4 w1_z5
            show sxWP sc cl Q 59 (164, [w1_z0, some (.int w1_4b.1), w1_z2, w1_z3, w1_z4, w1_z5], [], (cW nw kp im ol sn (sr.1, w1_4b.2.1, sr.2.2.1, w1_4b.2.2) tp (mW mk mg mt mc T)), 0, 0)
            obtain rfl := Option.some.inj hf
            refine stp hm 2 ?_
            exact h

def C_start_j20  (k0 : Int32) : Option Int32 := some k0
def C_start_j19   : Option Int32 := C_start_j20 (0:Int32)
def C_start (v1 : Int32) (rst : (Nat → Int32)) : Option Int32 := if v1 < (0:Int32) then C_start_j19 else (if (12:Int32) ≤ v1 then C_start_j19 else (grd (gi v1 12) (C_start_j20 (rst v1.toNatClampNeg))))
set_option maxRecDepth 10000 in
theorem C_start_ok {v1 : Int32} {q : Int32} (hc : call = sxE sc (d + 1)) (hf : C_start v1 sr.2.2.2 = some q) (h : Q (some (.int q)) (cW nw kp im ol sn sr tp (mW mk mg mt mc T))) : call 58 [.ref 43, .int v1] (cW nw kp im ol sn sr tp (mW mk mg mt mc T)) Q := by
  refine ent hc rfl (fun cl hE hm => ?_)
  have J20 : ∀ (k0 : Int32) (z0 : Option Value) (z1 : Option Value), C_start_j20 k0 = some q → sxWP sc cl Q 58 (20, [z0, z1], [.int k0], (cW nw kp im ol sn sr tp (mW mk mg mt mc T)), 0, 0) := by
    intro k0 z0 z1 hf
    unfold C_start_j20 at hf
    obtain rfl := Option.some.inj hf
    refine stp hm 1 ?_
    exact h
  have J19 : ∀  (z0 : Option Value) (z1 : Option Value), C_start_j19 = some q → sxWP sc cl Q 58 (19, [z0, z1], [], (cW nw kp im ol sn sr tp (mW mk mg mt mc T)), 0, 0) := by
    intro z0 z1 hf
    unfold C_start_j19 at hf
    refine stp hm 1 (?_ : sxWP sc cl Q 58 (20, [z0, z1], [.int (0:Int32)], (cW nw kp im ol sn sr tp (mW mk mg mt mc T)), 0, 0))
    exact J20 _ _ _ hf
  unfold C_start at hf
  refine stp hm 2 (br hf (fun c1 hf => ?_) (fun c1 hf => ?_))
  · show sxWP sc cl Q 58 (19, [some (.ref 43), some (.int v1)], [], (cW nw kp im ol sn sr tp (mW mk mg mt mc T)), 0, 0)
    exact J19 _ _ hf
  · show sxWP sc cl Q 58 (4, [some (.ref 43), some (.int v1)], [], (cW nw kp im ol sn sr tp (mW mk mg mt mc T)), 0, 0)
    refine stp hm 3 (br hf (fun c2 hf => ?_) (fun c2 hf => ?_))
    · show sxWP sc cl Q 58 (19, [some (.ref 43), some (.int v1)], [], (cW nw kp im ol sn sr tp (mW mk mg mt mc T)), 0, 0)
      exact J19 _ _ hf
    · show sxWP sc cl Q 58 (10, [some (.ref 43), some (.int v1)], [], (cW nw kp im ol sn sr tp (mW mk mg mt mc T)), 0, 0)
      obtain ⟨g3, hf⟩ := grd_e hf
      refine stp hm 4 (And.intro (gi_in g3) (?_ : sxWP sc cl Q 58 (16, [some (.ref 43), some (.int v1)], [.int (sr.2.2.2 v1.toNatClampNeg)], (cW nw kp im ol sn sr tp (mW mk mg mt mc T)), 0, 0)))
      refine stp hm 1 (?_ : sxWP sc cl Q 58 (20, [some (.ref 43), some (.int v1)], [.int (sr.2.2.2 v1.toNatClampNeg)], (cW nw kp im ol sn sr tp (mW mk mg mt mc T)), 0, 0))
      exact J20 _ _ _ hf

def X_pathSet_s15  (v1 : Int32) (v4 : Int32) (rsz : Int32) (rsg : (Nat → Int32)) (s : (Int32 × Int32)) : Option ((Int32 × Int32) ⊕ Int32) := if v4 ≤ s.2 then (some (Sum.inr s.1)) else (if s.1 < (0:Int32) then (some (Sum.inr s.1)) else (Option.bind (C_way (v1 + s.2) rsz rsg) (fun q3 => some (Sum.inl (G_next s.1 q3, s.2 + (1:Int32))))))
def X_pathSet_s68  (v1 : Int32) (v4 : Int32) (rsz : Int32) (rsg : (Nat → Int32)) (s : (Int32 × Int32 × (Nat → Int32))) : Option ((Int32 × Int32 × (Nat → Int32)) ⊕ (Int32 × (Nat → Int32))) := if v4 ≤ s.1 then (some (Sum.inr (s.2.1, s.2.2))) else (Option.bind (C_way (v1 + s.1) rsz rsg) (fun q2 => Option.bind (P_append q2 s.2.1 s.2.2) (fun q3 => some (Sum.inl (s.1 + (1:Int32), q3.2.1, q3.2.2)))))
def X_pathSet (v1 : Int32) (v2 : Int32) (nps : Int32) (npl : Int32) (npw : (Nat → Int32)) (rsz : Int32) (rsg : (Nat → Int32)) : Option (Int32 × Int32 × Int32 × (Nat → Int32)) := Option.bind (C_letters v1 rsz rsg) (fun q1 => Option.bind (wh (X_pathSet_s15 v1 q1 rsz rsg) FU (v2, (0:Int32))) (fun w2 => if (0:Int32) ≤ w2 then (Option.bind (P_restart v2) (fun q4 => Option.bind (wh (X_pathSet_s68 v1 q1 rsz rsg) FU ((0:Int32), q4.2, npw)) (fun w5 => some ((1:Int32), q4.1, w5.1, w5.2)))) else (some ((0:Int32), nps, npl, npw))))
set_option maxRecDepth 10000 in
theorem X_pathSet_l15 {v1 : Int32} {v2 : Int32} {v4 : Int32}   (hE : cl = sxE sc (d + 3)) (hm : CallMono cl) : ∀ (n : Nat) (s : (Int32 × Int32)) (r : Int32), wh (X_pathSet_s15 v1 v4 sr.1 sr.2.2.1) n s = some r → (∀ (z5 : Option Value), sxWP sc cl Q 102 (48, [some (.ref 0), some (.int v1), some (.int v2), some (.int r), some (.int v4), z5], [], (cW nw kp im ol sn sr tp (mW mk mg mt mc T)), 0, 0)) → sxWP sc cl Q 102 (15, [some (.ref 0), some (.int v1), some (.int v2), some (.int s.1), some (.int v4), some (.int s.2)], [], (cW nw kp im ol sn sr tp (mW mk mg mt mc T)), 0, 0) := by
  refine wh_run (A := fun (s : (Int32 × Int32)) => sxWP sc cl Q 102 (15, [some (.ref 0), some (.int v1), some (.int v2), some (.int s.1), some (.int v4), some (.int s.2)], [], (cW nw kp im ol sn sr tp (mW mk mg mt mc T)), 0, 0)) (B := fun (r : Int32) => ∀ (z5 : Option Value), sxWP sc cl Q 102 (48, [some (.ref 0), some (.int v1), some (.int v2), some (.int r), some (.int v4), z5], [], (cW nw kp im ol sn sr tp (mW mk mg mt mc T)), 0, 0)) (fun s x hf hA hB => ?_)
  unfold X_pathSet_s15 at hf
  refine stp hm 3 (br hf (fun c1 hf => ?_) (fun c1 hf => ?_))
  · show sxWP sc cl Q 102 (48, [some (.ref 0), some (.int v1), some (.int v2), some (.int s.1), some (.int v4), some (.int s.2)], [], (cW nw kp im ol sn sr tp (mW mk mg mt mc T)), 0, 0)
    obtain rfl := Option.some.inj hf
    exact hB _ rfl _
  · show sxWP sc cl Q 102 (22, [some (.ref 0), some (.int v1), some (.int v2), some (.int s.1), some (.int v4), some (.int s.2)], [], (cW nw kp im ol sn sr tp (mW mk mg mt mc T)), 0, 0)
    refine stp hm 2 (br hf (fun c2 hf => ?_) (fun c2 hf => ?_))
    · show sxWP sc cl Q 102 (48, [some (.ref 0), some (.int v1), some (.int v2), some (.int s.1), some (.int v4), some (.int s.2)], [], (cW nw kp im ol sn sr tp (mW mk mg mt mc T)), 0, 0)
      obtain rfl := Option.some.inj hf
      exact hB _ rfl _
    · show sxWP sc cl Q 102 (26, [some (.ref 0), some (.int v1), some (.int v2), some (.int s.1), some (.int v4), some (.int s.2)], [], (cW nw kp im ol sn sr tp (mW mk mg mt mc T)), 0, 0)
      obtain ⟨q3, hq3, hf⟩ := bnd hf
      refine stp hm 7 (C_way_ok hE hq3 ?_)
      show sxWP sc cl Q 102 (38, [some (.ref 0), some (.int v1), some (.int v2), some (.int s.1), some (.int v4), some (.int s.2)], [.int q3, .int s.1], (cW nw kp im ol sn sr tp (mW mk mg mt mc T)), 0, 0)
      refine stp hm 1 (G_next_ok hE rfl ?_)
      show sxWP sc cl Q 102 (41, [some (.ref 0), some (.int v1), some (.int v2), some (.int s.1), some (.int v4), some (.int s.2)], [.int (G_next s.1 q3)], (cW nw kp im ol sn sr tp (mW mk mg mt mc T)), 0, 0)
      obtain rfl := Option.some.inj hf
      refine stp hm 3 (?_ : sxWP sc cl Q 102 (15, [some (.ref 0), some (.int v1), some (.int v2), some (.int (G_next s.1 q3)), some (.int v4), some (.int (s.2 + (1:Int32)))], [], (cW nw kp im ol sn sr tp (mW mk mg mt mc T)), 0, 0))
      exact hA _ rfl
set_option maxRecDepth 10000 in
theorem X_pathSet_l68 {v1 : Int32} {v4 : Int32}   (hE : cl = sxE sc (d + 3)) (hm : CallMono cl) : ∀ (n : Nat) (s : (Int32 × Int32 × (Nat → Int32))) (r : (Int32 × (Nat → Int32))), wh (X_pathSet_s68 v1 v4 sr.1 sr.2.2.1) n s = some r → (∀ (z0 z1 z2 z3 z4 z5 : Option Value), sxWP sc cl Q 102 (103, [z0, z1, z2, z3, z4, z5], [], (cW (nw.1, nw.2.1, nw.2.2.1, (nw.2.2.2.1.1, r.1, r.2, nw.2.2.2.1.2.2.2), nw.2.2.2.2.1, nw.2.2.2.2.2.1, nw.2.2.2.2.2.2) kp im ol sn sr tp (mW mk mg mt mc T)), 0, 0)) → ∀ (z2 z3 : Option Value), sxWP sc cl Q 102 (68, [some (.ref 0), some (.int v1), z2, z3, some (.int v4), some (.int s.1)], [], (cW (nw.1, nw.2.1, nw.2.2.1, (nw.2.2.2.1.1, s.2.1, s.2.2, nw.2.2.2.1.2.2.2), nw.2.2.2.2.1, nw.2.2.2.2.2.1, nw.2.2.2.2.2.2) kp im ol sn sr tp (mW mk mg mt mc T)), 0, 0) := by
  refine wh_run (A := fun (s : (Int32 × Int32 × (Nat → Int32))) => ∀ (z2 z3 : Option Value), sxWP sc cl Q 102 (68, [some (.ref 0), some (.int v1), z2, z3, some (.int v4), some (.int s.1)], [], (cW (nw.1, nw.2.1, nw.2.2.1, (nw.2.2.2.1.1, s.2.1, s.2.2, nw.2.2.2.1.2.2.2), nw.2.2.2.2.1, nw.2.2.2.2.2.1, nw.2.2.2.2.2.2) kp im ol sn sr tp (mW mk mg mt mc T)), 0, 0)) (B := fun (r : (Int32 × (Nat → Int32))) => ∀ (z0 z1 z2 z3 z4 z5 : Option Value), sxWP sc cl Q 102 (103, [z0, z1, z2, z3, z4, z5], [], (cW (nw.1, nw.2.1, nw.2.2.1, (nw.2.2.2.1.1, r.1, r.2, nw.2.2.2.1.2.2.2), nw.2.2.2.2.1, nw.2.2.2.2.2.1, nw.2.2.2.2.2.2) kp im ol sn sr tp (mW mk mg mt mc T)), 0, 0)) (fun s x hf hA hB => ?_)
  intro z2 z3
  unfold X_pathSet_s68 at hf
  refine stp hm 3 (br hf (fun c1 hf => ?_) (fun c1 hf => ?_))
  · show sxWP sc cl Q 102 (103, [some (.ref 0), some (.int v1), z2, z3, some (.int v4), some (.int s.1)], [], (cW (nw.1, nw.2.1, nw.2.2.1, (nw.2.2.2.1.1, s.2.1, s.2.2, nw.2.2.2.1.2.2.2), nw.2.2.2.2.1, nw.2.2.2.2.2.1, nw.2.2.2.2.2.2) kp im ol sn sr tp (mW mk mg mt mc T)), 0, 0)
    obtain rfl := Option.some.inj hf
    exact hB _ rfl _ _ _ _ _ _
  · show sxWP sc cl Q 102 (75, [some (.ref 0), some (.int v1), z2, z3, some (.int v4), some (.int s.1)], [], (cW (nw.1, nw.2.1, nw.2.2.1, (nw.2.2.2.1.1, s.2.1, s.2.2, nw.2.2.2.1.2.2.2), nw.2.2.2.2.1, nw.2.2.2.2.2.1, nw.2.2.2.2.2.2) kp im ol sn sr tp (mW mk mg mt mc T)), 0, 0)
    obtain ⟨q2, hq2, hf⟩ := bnd hf
    refine stp hm 9 (C_way_ok hE hq2 ?_)
    show sxWP sc cl Q 102 (93, [some (.ref 0), some (.int v1), z2, z3, some (.int v4), some (.int s.1)], [.int q2, .ref 3], (cW (nw.1, nw.2.1, nw.2.2.1, (nw.2.2.2.1.1, s.2.1, s.2.2, nw.2.2.2.1.2.2.2), nw.2.2.2.2.1, nw.2.2.2.2.2.1, nw.2.2.2.2.2.2) kp im ol sn sr tp (mW mk mg mt mc T)), 0, 0)
    obtain ⟨q3, hq3, hf⟩ := bnd hf
    refine stp hm 1 (P_append_ok hE hq3 ?_)
    show sxWP sc cl Q 102 (96, [some (.ref 0), some (.int v1), z2, z3, some (.int v4), some (.int s.1)], [.int q3.1], (cW (nw.1, nw.2.1, nw.2.2.1, (nw.2.2.2.1.1, q3.2.1, q3.2.2, nw.2.2.2.1.2.2.2), nw.2.2.2.2.1, nw.2.2.2.2.2.1, nw.2.2.2.2.2.2) kp im ol sn sr tp (mW mk mg mt mc T)), 0, 0)
    obtain rfl := Option.some.inj hf
    refine stp hm 3 (?_ : sxWP sc cl Q 102 (68, [some (.ref 0), some (.int v1), z2, z3, some (.int v4), some (.int (s.1 + (1:Int32)))], [], (cW (nw.1, nw.2.1, nw.2.2.1, (nw.2.2.2.1.1, q3.2.1, q3.2.2, nw.2.2.2.1.2.2.2), nw.2.2.2.2.1, nw.2.2.2.2.2.1, nw.2.2.2.2.2.2) kp im ol sn sr tp (mW mk mg mt mc T)), 0, 0))
    exact hA _ rfl _ _
set_option maxRecDepth 10000 in
theorem X_pathSet_ok {v1 : Int32} {v2 : Int32} {q : (Int32 × Int32 × Int32 × (Nat → Int32))} (hc : call = sxE sc (d + 4)) (hf : X_pathSet v1 v2 nw.2.2.2.1.1 nw.2.2.2.1.2.1 nw.2.2.2.1.2.2.1 sr.1 sr.2.2.1 = some q) (h : Q (some (.int q.1)) (cW (nw.1, nw.2.1, nw.2.2.1, (q.2.1, q.2.2.1, q.2.2.2, nw.2.2.2.1.2.2.2), nw.2.2.2.2.1, nw.2.2.2.2.2.1, nw.2.2.2.2.2.2) kp im ol sn sr tp (mW mk mg mt mc T))) : call 102 [.ref 0, .int v1, .int v2] (cW nw kp im ol sn sr tp (mW mk mg mt mc T)) Q := by
  refine ent hc rfl (fun cl hE hm => ?_)
  unfold X_pathSet at hf
  obtain ⟨q1, hq1, hf⟩ := bnd hf
  refine stp hm 6 (C_letters_ok hE hq1 ?_)
  show sxWP sc cl Q 102 (10, [some (.ref 0), some (.int v1), some (.int v2), some (.int v2), none, none], [.int q1], (cW nw kp im ol sn sr tp (mW mk mg mt mc T)), 0, 0)
  obtain ⟨w2, hw2, hf⟩ := bnd hf
  refine stp hm 3 (?_ : sxWP sc cl Q 102 (15, [some (.ref 0), some (.int v1), some (.int v2), some (.int v2), some (.int q1), some (.int (0:Int32))], [], (cW nw kp im ol sn sr tp (mW mk mg mt mc T)), 0, 0))
  refine X_pathSet_l15 hE hm _ _ _ hw2 ?_
  intro w2_z5
  show sxWP sc cl Q 102 (48, [some (.ref 0), some (.int v1), some (.int v2), some (.int w2), some (.int q1), w2_z5], [], (cW nw kp im ol sn sr tp (mW mk mg mt mc T)), 0, 0)
  refine stp hm 2 (br hf (fun c3 hf => ?_) (fun c3 hf => ?_))
  · show sxWP sc cl Q 102 (54, [some (.ref 0), some (.int v1), some (.int v2), some (.int w2), some (.int q1), w2_z5], [], (cW nw kp im ol sn sr tp (mW mk mg mt mc T)), 0, 0)
    obtain ⟨q4, hq4, hf⟩ := bnd hf
    refine stp hm 5 (P_restart_ok hE hq4 ?_)
    show sxWP sc cl Q 102 (65, [some (.ref 0), some (.int v1), some (.int v2), some (.int w2), some (.int q1), w2_z5], [], (cW (nw.1, nw.2.1, nw.2.2.1, (q4.1, q4.2, nw.2.2.2.1.2.2.1, nw.2.2.2.1.2.2.2), nw.2.2.2.2.1, nw.2.2.2.2.2.1, nw.2.2.2.2.2.2) kp im ol sn sr tp (mW mk mg mt mc T)), 0, 0)
    obtain ⟨w5, hw5, hf⟩ := bnd hf
    refine stp hm 2 (?_ : sxWP sc cl Q 102 (68, [some (.ref 0), some (.int v1), some (.int v2), some (.int w2), some (.int q1), some (.int (0:Int32))], [], (cW (nw.1, nw.2.1, nw.2.2.1, (q4.1, q4.2, nw.2.2.2.1.2.2.1, nw.2.2.2.1.2.2.2), nw.2.2.2.2.1, nw.2.2.2.2.2.1, nw.2.2.2.2.2.2) kp im ol sn sr tp (mW mk mg mt mc T)), 0, 0))
    refine X_pathSet_l68 hE hm _ _ _ hw5 ?_ _ _
    intro w5_z0 w5_z1 w5_z2 w5_z3 w5_z4 w5_z5
    show sxWP sc cl Q 102 (103, [w5_z0, w5_z1, w5_z2, w5_z3, w5_z4, w5_z5], [], (cW (nw.1, nw.2.1, nw.2.2.1, (q4.1, w5.1, w5.2, nw.2.2.2.1.2.2.2), nw.2.2.2.2.1, nw.2.2.2.2.2.1, nw.2.2.2.2.2.2) kp im ol sn sr tp (mW mk mg mt mc T)), 0, 0)
    obtain rfl := Option.some.inj hf
    refine stp hm 2 (And.intro (Or.inr rfl) ?_)
    exact h
  · show sxWP sc cl Q 102 (52, [some (.ref 0), some (.int v1), some (.int v2), some (.int w2), some (.int q1), w2_z5], [], (cW nw kp im ol sn sr tp (mW mk mg mt mc T)), 0, 0)
    obtain rfl := Option.some.inj hf
    refine stp hm 2 (And.intro (Or.inl rfl) ?_)
    exact h

def G_mirror_s5  (v0 : Int64) (s : (Int64 × Int32)) : Option ((Int64 × Int32) ⊕ Int64) := if (36:Int32) ≤ s.2 then (some (Sum.inr s.1)) else (some (Sum.inl (if (G_holds v0 s.2) = (0:Int32) then s.1 else (s.1 ||| ((1:Int64) <<< ((((((s.2 / (6:Int32)) * (6:Int32)) + (6:Int32)) - (1:Int32)) - (s.2 - s.2 / (6:Int32) * (6:Int32))).toInt64 &&& 63))), s.2 + (1:Int32))))
def G_mirror (v0 : Int64)  : Option Int64 := Option.bind (wh (G_mirror_s5 v0) FU ((0:Int64), (0:Int32))) (fun w1 => some w1)
set_option maxRecDepth 10000 in
theorem G_mirror_l5 {v0 : Int64}   (hE : cl = sxE sc (d + 2)) (hm : CallMono cl) : ∀ (n : Nat) (s : (Int64 × Int32)) (r : Int64), wh (G_mirror_s5 v0) n s = some r → (∀ (z0 z1 z4 : Option Value), sxWP sc cl Q 9 (51, [z0, z1, some (.long r), none, z4], [], (cW nw kp im ol sn sr tp (mW mk mg mt mc T)), 0, 0)) → sxWP sc cl Q 9 (5, [some (.long v0), none, some (.long s.1), none, some (.int s.2)], [], (cW nw kp im ol sn sr tp (mW mk mg mt mc T)), 0, 0) := by
  refine wh_run (A := fun (s : (Int64 × Int32)) => sxWP sc cl Q 9 (5, [some (.long v0), none, some (.long s.1), none, some (.int s.2)], [], (cW nw kp im ol sn sr tp (mW mk mg mt mc T)), 0, 0)) (B := fun (r : Int64) => ∀ (z0 z1 z4 : Option Value), sxWP sc cl Q 9 (51, [z0, z1, some (.long r), none, z4], [], (cW nw kp im ol sn sr tp (mW mk mg mt mc T)), 0, 0)) (fun s x hf hA hB => ?_)
  unfold G_mirror_s5 at hf
  refine stp hm 3 (br hf (fun c1 hf => ?_) (fun c1 hf => ?_))
  · show sxWP sc cl Q 9 (51, [some (.long v0), none, some (.long s.1), none, some (.int s.2)], [], (cW nw kp im ol sn sr tp (mW mk mg mt mc T)), 0, 0)
    obtain rfl := Option.some.inj hf
    exact hB _ rfl _ _ _
  · show sxWP sc cl Q 9 (12, [some (.long v0), none, some (.long s.1), none, some (.int s.2)], [], (cW nw kp im ol sn sr tp (mW mk mg mt mc T)), 0, 0)
    refine stp hm 3 (G_holds_ok hE rfl ?_)
    show sxWP sc cl Q 9 (18, [some (.long v0), none, some (.long s.1), none, some (.int s.2)], [.int (G_holds v0 s.2)], (cW nw kp im ol sn sr tp (mW mk mg mt mc T)), 0, 0)
    have m2 : ∀ (m2_0 : Int64), m2_0 = (if (G_holds v0 s.2) = (0:Int32) then s.1 else (s.1 ||| ((1:Int64) <<< ((((((s.2 / (6:Int32)) * (6:Int32)) + (6:Int32)) - (1:Int32)) - (s.2 - s.2 / (6:Int32) * (6:Int32))).toInt64 &&& 63)))) → sxWP sc cl Q 9 (45, [some (.long v0), none, some (.long m2_0), none, some (.int s.2)], [], (cW nw kp im ol sn sr tp (mW mk mg mt mc T)), 0, 0) := by
      intro m2_0 em2_0
      subst em2_0
      obtain rfl := Option.some.inj hf
      refine stp hm 2 (?_ : sxWP sc cl Q 9 (5, [some (.long v0), none, some (.long (if (G_holds v0 s.2) = (0:Int32) then s.1 else (s.1 ||| ((1:Int64) <<< ((((((s.2 / (6:Int32)) * (6:Int32)) + (6:Int32)) - (1:Int32)) - (s.2 - s.2 / (6:Int32) * (6:Int32))).toInt64 &&& 63))))), none, some (.int (s.2 + (1:Int32)))], [], (cW nw kp im ol sn sr tp (mW mk mg mt mc T)), 0, 0))
      exact hA _ rfl
    refine stp hm 1 (bs (c := (G_holds v0 s.2) = (0:Int32)) (fun c3 => ?_) (fun c3 => ?_))
    · have c3 : (G_holds v0 s.2) = (0:Int32) := c3
      exact m2 _ (by rw [if_pos c3])
    · have c3 : ¬ (G_holds v0 s.2) = (0:Int32) := c3
      refine stp hm 5 (And.intro (by decide) (?_ : sxWP sc cl Q 9 (28, [some (.long v0), none, some (.long s.1), none, some (.int s.2)], [.int (s.2 / (6:Int32)), .long (1:Int64), .long s.1], (cW nw kp im ol sn sr tp (mW mk mg mt mc T)), 0, 0)))
      refine stp hm 9 (And.intro (by decide) (?_ : sxWP sc cl Q 9 (41, [some (.long v0), none, some (.long s.1), none, some (.int s.2)], [.int (s.2 - s.2 / (6:Int32) * (6:Int32)), .int ((((s.2 / (6:Int32)) * (6:Int32)) + (6:Int32)) - (1:Int32)), .long (1:Int64), .long s.1], (cW nw kp im ol sn sr tp (mW mk mg mt mc T)), 0, 0)))
      refine stp hm 4 (?_ : sxWP sc cl Q 9 (45, [some (.long v0), none, some (.long (s.1 ||| ((1:Int64) <<< ((((((s.2 / (6:Int32)) * (6:Int32)) + (6:Int32)) - (1:Int32)) - (s.2 - s.2 / (6:Int32) * (6:Int32))).toInt64 &&& 63)))), none, some (.int s.2)], [], (cW nw kp im ol sn sr tp (mW mk mg mt mc T)), 0, 0))
      exact m2 _ (by rw [if_neg c3])
set_option maxRecDepth 10000 in
theorem G_mirror_ok {v0 : Int64} {q : Int64} (hc : call = sxE sc (d + 3)) (hf : G_mirror v0 = some q) (h : Q (some (.long q)) (cW nw kp im ol sn sr tp (mW mk mg mt mc T))) : call 9 [.long v0] (cW nw kp im ol sn sr tp (mW mk mg mt mc T)) Q := by
  refine ent hc rfl (fun cl hE hm => ?_)
  unfold G_mirror at hf
  obtain ⟨w1, hw1, hf⟩ := bnd hf
  refine stp hm 4 (?_ : sxWP sc cl Q 9 (5, [some (.long v0), none, some (.long (0:Int64)), none, some (.int (0:Int32))], [], (cW nw kp im ol sn sr tp (mW mk mg mt mc T)), 0, 0))
  refine G_mirror_l5 hE hm _ _ _ hw1 ?_
  intro w1_z0 w1_z1 w1_z4
  show sxWP sc cl Q 9 (51, [w1_z0, w1_z1, some (.long w1), none, w1_z4], [], (cW nw kp im ol sn sr tp (mW mk mg mt mc T)), 0, 0)
  obtain rfl := Option.some.inj hf
  refine stp hm 2 ?_
  exact h

def X_blockSet (v1 : Int32) (v2 : Int32) (nrg : Int64) (nld : Int32) (rsz : Int32) (rsg : (Nat → Int32)) : Option (Int32 × Int64 × Int32) := Option.bind (C_digit (v1 + (1:Int32)) rsz rsg) (fun q1 => Option.bind (C_digit (v1 + (2:Int32)) rsz rsg) (fun q2 => Option.bind (C_digit (v1 + (3:Int32)) rsz rsg) (fun q3 => Option.bind (C_digit (v1 + (4:Int32)) rsz rsg) (fun q4 => Option.bind (G_block (G_cellAt q1 q2) (G_cellAt q3 q4)) (fun q5 => if q5 = (0:Int64) then (some ((0:Int32), nrg, nld)) else (Option.bind (S_become (G_with nrg q5 v2) nrg nld) (fun q7 => some ((1:Int32), q7.1, q7.2))))))))
set_option maxRecDepth 10000 in
theorem X_blockSet_ok {v1 : Int32} {v2 : Int32} {q : (Int32 × Int64 × Int32)} (hc : call = sxE sc (d + 3)) (hf : X_blockSet v1 v2 nw.1 nw.2.1 sr.1 sr.2.2.1 = some q) (h : Q (some (.int q.1)) (cW (q.2.1, q.2.2, nw.2.2.1, nw.2.2.2.1, nw.2.2.2.2.1, nw.2.2.2.2.2.1, nw.2.2.2.2.2.2) kp im ol sn sr tp (mW mk mg mt mc T))) : call 101 [.ref 0, .int v1, .int v2] (cW nw kp im ol sn sr tp (mW mk mg mt mc T)) Q := by
  refine ent hc rfl (fun cl hE hm => ?_)
  unfold X_blockSet at hf
  obtain ⟨q1, hq1, hf⟩ := bnd hf
  refine stp hm 6 (C_digit_ok hE hq1 ?_)
  show sxWP sc cl Q 101 (10, [some (.ref 0), some (.int v1), some (.int v2), none, none, none, none], [.int q1], (cW nw kp im ol sn sr tp (mW mk mg mt mc T)), 0, 0)
  obtain ⟨q2, hq2, hf⟩ := bnd hf
  refine stp hm 6 (C_digit_ok hE hq2 ?_)
  show sxWP sc cl Q 101 (20, [some (.ref 0), some (.int v1), some (.int v2), none, none, none, none], [.int q2, .int q1], (cW nw kp im ol sn sr tp (mW mk mg mt mc T)), 0, 0)
  refine stp hm 1 (G_cellAt_ok hE rfl ?_)
  show sxWP sc cl Q 101 (23, [some (.ref 0), some (.int v1), some (.int v2), none, none, none, none], [.int (G_cellAt q1 q2)], (cW nw kp im ol sn sr tp (mW mk mg mt mc T)), 0, 0)
  obtain ⟨q3, hq3, hf⟩ := bnd hf
  refine stp hm 7 (C_digit_ok hE hq3 ?_)
  show sxWP sc cl Q 101 (34, [some (.ref 0), some (.int v1), some (.int v2), some (.int (G_cellAt q1 q2)), none, none, none], [.int q3], (cW nw kp im ol sn sr tp (mW mk mg mt mc T)), 0, 0)
  obtain ⟨q4, hq4, hf⟩ := bnd hf
  refine stp hm 6 (C_digit_ok hE hq4 ?_)
  show sxWP sc cl Q 101 (44, [some (.ref 0), some (.int v1), some (.int v2), some (.int (G_cellAt q1 q2)), none, none, none], [.int q4, .int q3], (cW nw kp im ol sn sr tp (mW mk mg mt mc T)), 0, 0)
  refine stp hm 1 (G_cellAt_ok hE rfl ?_)
  show sxWP sc cl Q 101 (47, [some (.ref 0), some (.int v1), some (.int v2), some (.int (G_cellAt q1 q2)), none, none, none], [.int (G_cellAt q3 q4)], (cW nw kp im ol sn sr tp (mW mk mg mt mc T)), 0, 0)
  obtain ⟨q5, hq5, hf⟩ := bnd hf
  refine stp hm 4 (G_block_ok hE hq5 ?_)
  show sxWP sc cl Q 101 (55, [some (.ref 0), some (.int v1), some (.int v2), some (.int (G_cellAt q1 q2)), some (.int (G_cellAt q3 q4)), none, none], [.long q5], (cW nw kp im ol sn sr tp (mW mk mg mt mc T)), 0, 0)
  refine stp hm 5 (brnI (lg_cmp_eq _ _) hf (fun c6 hf => ?_) (fun c6 hf => ?_))
  · show sxWP sc cl Q 101 (66, [some (.ref 0), some (.int v1), some (.int v2), some (.int (G_cellAt q1 q2)), some (.int (G_cellAt q3 q4)), some (.long q5), none], [], (cW nw kp im ol sn sr tp (mW mk mg mt mc T)), 0, 0)
    refine stp hm 8 (G_with_ok hE rfl ?_)
    show sxWP sc cl Q 101 (83, [some (.ref 0), some (.int v1), some (.int v2), some (.int (G_cellAt q1 q2)), some (.int (G_cellAt q3 q4)), some (.long q5), none], [.long (G_with nw.1 q5 v2), .ref 1], (cW nw kp im ol sn sr tp (mW mk mg mt mc T)), 0, 0)
    obtain ⟨q7, hq7, hf⟩ := bnd hf
    refine stp hm 1 (S_become_ok hE hq7 ?_)
    show sxWP sc cl Q 101 (86, [some (.ref 0), some (.int v1), some (.int v2), some (.int (G_cellAt q1 q2)), some (.int (G_cellAt q3 q4)), some (.long q5), none], [], (cW (q7.1, q7.2, nw.2.2.1, nw.2.2.2.1, nw.2.2.2.2.1, nw.2.2.2.2.2.1, nw.2.2.2.2.2.2) kp im ol sn sr tp (mW mk mg mt mc T)), 0, 0)
    obtain rfl := Option.some.inj hf
    refine stp hm 2 (And.intro (Or.inr rfl) ?_)
    exact h
  · show sxWP sc cl Q 101 (64, [some (.ref 0), some (.int v1), some (.int v2), some (.int (G_cellAt q1 q2)), some (.int (G_cellAt q3 q4)), some (.long q5), none], [], (cW nw kp im ol sn sr tp (mW mk mg mt mc T)), 0, 0)
    obtain rfl := Option.some.inj hf
    refine stp hm 2 (And.intro (Or.inl rfl) ?_)
    exact h

def X_toggled (v1 : Int32) (v2 : Int32) (nrg : Int64) (nld : Int32) : Option (Int32 × Int64 × Int32) := if (0:Int32) ≤ (G_cellAt v1 v2) then (Option.bind (S_become (nrg ^^^ ((1:Int64) <<< ((G_cellAt v1 v2).toInt64 &&& 63))) nrg nld) (fun q2 => some ((1:Int32), q2.1, q2.2))) else (some ((0:Int32), nrg, nld))
set_option maxRecDepth 10000 in
theorem X_toggled_ok {v1 : Int32} {v2 : Int32} {q : (Int32 × Int64 × Int32)} (hc : call = sxE sc (d + 2)) (hf : X_toggled v1 v2 nw.1 nw.2.1 = some q) (h : Q (some (.int q.1)) (cW (q.2.1, q.2.2, nw.2.2.1, nw.2.2.2.1, nw.2.2.2.2.1, nw.2.2.2.2.2.1, nw.2.2.2.2.2.2) kp im ol sn sr tp (mW mk mg mt mc T))) : call 100 [.ref 0, .int v1, .int v2] (cW nw kp im ol sn sr tp (mW mk mg mt mc T)) Q := by
  refine ent hc rfl (fun cl hE hm => ?_)
  unfold X_toggled at hf
  refine stp hm 3 (G_cellAt_ok hE rfl ?_)
  show sxWP sc cl Q 100 (5, [some (.ref 0), some (.int v1), some (.int v2), none], [.int (G_cellAt v1 v2)], (cW nw kp im ol sn sr tp (mW mk mg mt mc T)), 0, 0)
  refine stp hm 3 (br hf (fun c1 hf => ?_) (fun c1 hf => ?_))
  · show sxWP sc cl Q 100 (12, [some (.ref 0), some (.int v1), some (.int v2), some (.int (G_cellAt v1 v2))], [], (cW nw kp im ol sn sr tp (mW mk mg mt mc T)), 0, 0)
    obtain ⟨q2, hq2, hf⟩ := bnd hf
    refine stp hm 10 (S_become_ok hE hq2 ?_)
    show sxWP sc cl Q 100 (30, [some (.ref 0), some (.int v1), some (.int v2), some (.int (G_cellAt v1 v2))], [], (cW (q2.1, q2.2, nw.2.2.1, nw.2.2.2.1, nw.2.2.2.2.1, nw.2.2.2.2.2.1, nw.2.2.2.2.2.2) kp im ol sn sr tp (mW mk mg mt mc T)), 0, 0)
    obtain rfl := Option.some.inj hf
    refine stp hm 2 (And.intro (Or.inr rfl) ?_)
    exact h
  · show sxWP sc cl Q 100 (10, [some (.ref 0), some (.int v1), some (.int v2), some (.int (G_cellAt v1 v2))], [], (cW nw kp im ol sn sr tp (mW mk mg mt mc T)), 0, 0)
    obtain rfl := Option.some.inj hf
    refine stp hm 2 (And.intro (Or.inl rfl) ?_)
    exact h

def X_carriedOut_j195  (v1 : Int32) (v2 : Int32) (v3 : Int32) (nrg_j : Int64) (nld_j : Int32) (nmt_j : (Nat → Int32)) (nps_j : Int32) (npl_j : Int32) (npw_j : (Nat → Int32)) (okn_j : Int32) (org_j : Int64) (osi_j : Int32) (oti_j : Int32) (ole_j : Int32) (oto_j : Int32) (oow_j : Int64) (oco_j : Int64) (ost_j : (Nat → Int32)) (owa_j : (Nat → Int32)) (owv_j : (Nat → Int32)) (owh_j : (Nat → Int32)) (olo_j : (Nat → Int32)) (ohi_j : (Nat → Int32)) (odi_j : (Nat → Int32)) (oqu_j : (Nat → Int32)) (rsz : Int32) (rsg : (Nat → Int32)) : Option (Int32 × Int64 × Int32 × (Nat → Int32) × Int32 × Int32 × (Nat → Int32) × Int32 × Int64 × Int32 × Int32 × Int32 × Int32 × Int64 × Int64 × (Nat → Int32) × (Nat → Int32) × (Nat → Int32) × (Nat → Int32) × (Nat → Int32) × (Nat → Int32) × (Nat → Int32) × (Nat → Int32)) := Option.bind (X_pathSet (v1 + (3:Int32)) (G_vertexAt v2 v3) nps_j npl_j npw_j rsz rsg) (fun q1 => grd (zb q1.1) (some (q1.1, nrg_j, nld_j, nmt_j, q1.2.1, q1.2.2.1, q1.2.2.2, okn_j, org_j, osi_j, oti_j, ole_j, oto_j, oow_j, oco_j, ost_j, owa_j, owv_j, owh_j, olo_j, ohi_j, odi_j, oqu_j)))
def X_carriedOut (v1 : Int32) (nrg : Int64) (nld : Int32) (nmt : (Nat → Int32)) (nps : Int32) (npl : Int32) (npw : (Nat → Int32)) (okn : Int32) (org : Int64) (osi : Int32) (oti : Int32) (ole : Int32) (oto : Int32) (oow : Int64) (oco : Int64) (ost : (Nat → Int32)) (owa : (Nat → Int32)) (owv : (Nat → Int32)) (owh : (Nat → Int32)) (olo : (Nat → Int32)) (ohi : (Nat → Int32)) (ora : (Nat → Int32)) (odi : (Nat → Int32)) (oqu : (Nat → Int32)) (rsz : Int32) (rsg : (Nat → Int32)) : Option (Int32 × Int64 × Int32 × (Nat → Int32) × Int32 × Int32 × (Nat → Int32) × Int32 × Int64 × Int32 × Int32 × Int32 × Int32 × Int64 × Int64 × (Nat → Int32) × (Nat → Int32) × (Nat → Int32) × (Nat → Int32) × (Nat → Int32) × (Nat → Int32) × (Nat → Int32) × (Nat → Int32)) := Option.bind (C_digit (v1 + (1:Int32)) rsz rsg) (fun q2 => Option.bind (C_digit (v1 + (2:Int32)) rsz rsg) (fun q3 => Option.bind (C_sign v1 rsz rsg) (fun q4 => if q4 = (99:Int32) then (Option.bind (X_toggled q2 q3 nrg nld) (fun q6 => grd (zb q6.1) (some (q6.1, q6.2.1, q6.2.2, nmt, nps, npl, npw, okn, org, osi, oti, ole, oto, oow, oco, ost, owa, owv, owh, olo, ohi, odi, oqu)))) else (if q4 = (100:Int32) then (X_carriedOut_j195 v1 q2 q3 nrg nld nmt nps npl npw okn org osi oti ole oto oow oco ost owa owv owh olo ohi odi oqu rsz rsg) else (if q4 = (101:Int32) then (Option.bind (X_blockSet v1 (0:Int32) nrg nld rsz rsg) (fun q7 => grd (zb q7.1) (some (q7.1, q7.2.1, q7.2.2, nmt, nps, npl, npw, okn, org, osi, oti, ole, oto, oow, oco, ost, owa, owv, owh, olo, ohi, odi, oqu)))) else (if q4 = (102:Int32) then (Option.bind (X_blockSet v1 (1:Int32) nrg nld rsz rsg) (fun q8 => grd (zb q8.1) (some (q8.1, q8.2.1, q8.2.2, nmt, nps, npl, npw, okn, org, osi, oti, ole, oto, oow, oco, ost, owa, owv, owh, olo, ohi, odi, oqu)))) else (if q4 = (103:Int32) then (Option.bind (S_layDown (1:Int32) nrg nld nmt okn org osi oti ole oto oow oco ost owa owv owh olo ohi ora odi oqu) (fun q9 => grd (zb q9.1) (some (q9.1, nrg, q9.2.1, q9.2.2.1, nps, npl, npw, q9.2.2.2.1, q9.2.2.2.2.1, q9.2.2.2.2.2.1, q9.2.2.2.2.2.2.1, q9.2.2.2.2.2.2.2.1, q9.2.2.2.2.2.2.2.2.1, q9.2.2.2.2.2.2.2.2.2.1, q9.2.2.2.2.2.2.2.2.2.2.1, q9.2.2.2.2.2.2.2.2.2.2.2.1, q9.2.2.2.2.2.2.2.2.2.2.2.2.1, q9.2.2.2.2.2.2.2.2.2.2.2.2.2.1, q9.2.2.2.2.2.2.2.2.2.2.2.2.2.2.1, q9.2.2.2.2.2.2.2.2.2.2.2.2.2.2.2.1, q9.2.2.2.2.2.2.2.2.2.2.2.2.2.2.2.2.1, q9.2.2.2.2.2.2.2.2.2.2.2.2.2.2.2.2.2.1, q9.2.2.2.2.2.2.2.2.2.2.2.2.2.2.2.2.2.2)))) else (if q4 = (104:Int32) then (X_carriedOut_j195 v1 q2 q3 nrg nld nmt nps npl npw okn org osi oti ole oto oow oco ost owa owv owh olo ohi odi oqu rsz rsg) else (if q4 = (105:Int32) then (X_carriedOut_j195 v1 q2 q3 nrg nld nmt nps npl npw okn org osi oti ole oto oow oco ost owa owv owh olo ohi odi oqu rsz rsg) else (if q4 = (106:Int32) then (X_carriedOut_j195 v1 q2 q3 nrg nld nmt nps npl npw okn org osi oti ole oto oow oco ost owa owv owh olo ohi odi oqu rsz rsg) else (if q4 = (107:Int32) then (X_carriedOut_j195 v1 q2 q3 nrg nld nmt nps npl npw okn org osi oti ole oto oow oco ost owa owv owh olo ohi odi oqu rsz rsg) else (if q4 = (108:Int32) then (Option.bind (S_layDown (0:Int32) nrg nld nmt okn org osi oti ole oto oow oco ost owa owv owh olo ohi ora odi oqu) (fun q10 => grd (zb q10.1) (some (q10.1, nrg, q10.2.1, q10.2.2.1, nps, npl, npw, q10.2.2.2.1, q10.2.2.2.2.1, q10.2.2.2.2.2.1, q10.2.2.2.2.2.2.1, q10.2.2.2.2.2.2.2.1, q10.2.2.2.2.2.2.2.2.1, q10.2.2.2.2.2.2.2.2.2.1, q10.2.2.2.2.2.2.2.2.2.2.1, q10.2.2.2.2.2.2.2.2.2.2.2.1, q10.2.2.2.2.2.2.2.2.2.2.2.2.1, q10.2.2.2.2.2.2.2.2.2.2.2.2.2.1, q10.2.2.2.2.2.2.2.2.2.2.2.2.2.2.1, q10.2.2.2.2.2.2.2.2.2.2.2.2.2.2.2.1, q10.2.2.2.2.2.2.2.2.2.2.2.2.2.2.2.2.1, q10.2.2.2.2.2.2.2.2.2.2.2.2.2.2.2.2.2.1, q10.2.2.2.2.2.2.2.2.2.2.2.2.2.2.2.2.2.2)))) else (if q4 = (109:Int32) then (Option.bind (G_mirror nrg) (fun q11 => Option.bind (S_become q11 nrg nld) (fun q12 => some ((1:Int32), q12.1, q12.2, nmt, nps, npl, npw, okn, org, osi, oti, ole, oto, oow, oco, ost, owa, owv, owh, olo, ohi, odi, oqu)))) else (if q4 = (110:Int32) then (X_carriedOut_j195 v1 q2 q3 nrg nld nmt nps npl npw okn org osi oti ole oto oow oco ost owa owv owh olo ohi odi oqu rsz rsg) else (if q4 = (111:Int32) then (X_carriedOut_j195 v1 q2 q3 nrg nld nmt nps npl npw okn org osi oti ole oto oow oco ost owa owv owh olo ohi odi oqu rsz rsg) else (if q4 = (112:Int32) then (X_carriedOut_j195 v1 q2 q3 nrg nld nmt nps npl npw okn org osi oti ole oto oow oco ost owa owv owh olo ohi odi oqu rsz rsg) else (if q4 = (113:Int32) then (X_carriedOut_j195 v1 q2 q3 nrg nld nmt nps npl npw okn org osi oti ole oto oow oco ost owa owv owh olo ohi odi oqu rsz rsg) else (if q4 = (114:Int32) then (X_carriedOut_j195 v1 q2 q3 nrg nld nmt nps npl npw okn org osi oti ole oto oow oco ost owa owv owh olo ohi odi oqu rsz rsg) else (if q4 = (115:Int32) then (X_carriedOut_j195 v1 q2 q3 nrg nld nmt nps npl npw okn org osi oti ole oto oow oco ost owa owv owh olo ohi odi oqu rsz rsg) else (if q4 = (116:Int32) then (Option.bind (S_turnAt (G_vertexAt q2 q3) nld nmt) (fun q13 => grd (zb q13.1) (some (q13.1, nrg, nld, q13.2, nps, npl, npw, okn, org, osi, oti, ole, oto, oow, oco, ost, owa, owv, owh, olo, ohi, odi, oqu)))) else (X_carriedOut_j195 v1 q2 q3 nrg nld nmt nps npl npw okn org osi oti ole oto oow oco ost owa owv owh olo ohi odi oqu rsz rsg)))))))))))))))))))))
set_option maxRecDepth 10000 in
theorem X_carriedOut_ok {v1 : Int32} {q : (Int32 × Int64 × Int32 × (Nat → Int32) × Int32 × Int32 × (Nat → Int32) × Int32 × Int64 × Int32 × Int32 × Int32 × Int32 × Int64 × Int64 × (Nat → Int32) × (Nat → Int32) × (Nat → Int32) × (Nat → Int32) × (Nat → Int32) × (Nat → Int32) × (Nat → Int32) × (Nat → Int32))} (hc : call = sxE sc (d + 6)) (hf : X_carriedOut v1 nw.1 nw.2.1 nw.2.2.1 nw.2.2.2.1.1 nw.2.2.2.1.2.1 nw.2.2.2.1.2.2.1 ol.1 ol.2.1 ol.2.2.1 ol.2.2.2.1 ol.2.2.2.2.1 ol.2.2.2.2.2.1 ol.2.2.2.2.2.2.1 ol.2.2.2.2.2.2.2.1 ol.2.2.2.2.2.2.2.2.1 ol.2.2.2.2.2.2.2.2.2.1 ol.2.2.2.2.2.2.2.2.2.2.1 ol.2.2.2.2.2.2.2.2.2.2.2.1 ol.2.2.2.2.2.2.2.2.2.2.2.2.1 ol.2.2.2.2.2.2.2.2.2.2.2.2.2.1 ol.2.2.2.2.2.2.2.2.2.2.2.2.2.2.1 ol.2.2.2.2.2.2.2.2.2.2.2.2.2.2.2.1 ol.2.2.2.2.2.2.2.2.2.2.2.2.2.2.2.2 sr.1 sr.2.2.1 = some q) (h : Q (some (.int q.1)) (cW (q.2.1, q.2.2.1, q.2.2.2.1, (q.2.2.2.2.1, q.2.2.2.2.2.1, q.2.2.2.2.2.2.1, nw.2.2.2.1.2.2.2), nw.2.2.2.2.1, nw.2.2.2.2.2.1, nw.2.2.2.2.2.2) kp im (q.2.2.2.2.2.2.2.1, q.2.2.2.2.2.2.2.2.1, q.2.2.2.2.2.2.2.2.2.1, q.2.2.2.2.2.2.2.2.2.2.1, q.2.2.2.2.2.2.2.2.2.2.2.1, q.2.2.2.2.2.2.2.2.2.2.2.2.1, q.2.2.2.2.2.2.2.2.2.2.2.2.2.1, q.2.2.2.2.2.2.2.2.2.2.2.2.2.2.1, q.2.2.2.2.2.2.2.2.2.2.2.2.2.2.2.1, q.2.2.2.2.2.2.2.2.2.2.2.2.2.2.2.2.1, q.2.2.2.2.2.2.2.2.2.2.2.2.2.2.2.2.2.1, q.2.2.2.2.2.2.2.2.2.2.2.2.2.2.2.2.2.2.1, q.2.2.2.2.2.2.2.2.2.2.2.2.2.2.2.2.2.2.2.1, q.2.2.2.2.2.2.2.2.2.2.2.2.2.2.2.2.2.2.2.2.1, ol.2.2.2.2.2.2.2.2.2.2.2.2.2.2.1, q.2.2.2.2.2.2.2.2.2.2.2.2.2.2.2.2.2.2.2.2.2.1, q.2.2.2.2.2.2.2.2.2.2.2.2.2.2.2.2.2.2.2.2.2.2) sn sr tp (mW mk mg mt mc T))) : call 99 [.ref 0, .int v1] (cW nw kp im ol sn sr tp (mW mk mg mt mc T)) Q := by
  refine ent hc rfl (fun cl hE hm => ?_)
  have J195 : ∀ (v1 : Int32) (v2 : Int32) (v3 : Int32) (nrg_j : Int64) (nld_j : Int32) (nmt_j : (Nat → Int32)) (nps_j : Int32) (npl_j : Int32) (npw_j : (Nat → Int32)) (okn_j : Int32) (org_j : Int64) (osi_j : Int32) (oti_j : Int32) (ole_j : Int32) (oto_j : Int32) (oow_j : Int64) (oco_j : Int64) (ost_j : (Nat → Int32)) (owa_j : (Nat → Int32)) (owv_j : (Nat → Int32)) (owh_j : (Nat → Int32)) (olo_j : (Nat → Int32)) (ohi_j : (Nat → Int32)) (odi_j : (Nat → Int32)) (oqu_j : (Nat → Int32)), X_carriedOut_j195 v1 v2 v3 nrg_j nld_j nmt_j nps_j npl_j npw_j okn_j org_j osi_j oti_j ole_j oto_j oow_j oco_j ost_j owa_j owv_j owh_j olo_j ohi_j odi_j oqu_j sr.1 sr.2.2.1 = some q → sxWP sc cl Q 99 (195, [some (.ref 0), some (.int v1), some (.int v2), some (.int v3)], [], (cW (nrg_j, nld_j, nmt_j, (nps_j, npl_j, npw_j, nw.2.2.2.1.2.2.2), nw.2.2.2.2.1, nw.2.2.2.2.2.1, nw.2.2.2.2.2.2) kp im (okn_j, org_j, osi_j, oti_j, ole_j, oto_j, oow_j, oco_j, ost_j, owa_j, owv_j, owh_j, olo_j, ohi_j, ol.2.2.2.2.2.2.2.2.2.2.2.2.2.2.1, odi_j, oqu_j) sn sr tp (mW mk mg mt mc T)), 0, 0) := by
    intro v1 v2 v3 nrg_j nld_j nmt_j nps_j npl_j npw_j okn_j org_j osi_j oti_j ole_j oto_j oow_j oco_j ost_j owa_j owv_j owh_j olo_j ohi_j odi_j oqu_j hf
    unfold X_carriedOut_j195 at hf
    refine stp hm 7 (G_vertexAt_ok hE rfl ?_)
    show sxWP sc cl Q 99 (204, [some (.ref 0), some (.int v1), some (.int v2), some (.int v3)], [.int (G_vertexAt v2 v3), .int (v1 + (3:Int32)), .ref 0], (cW (nrg_j, nld_j, nmt_j, (nps_j, npl_j, npw_j, nw.2.2.2.1.2.2.2), nw.2.2.2.2.1, nw.2.2.2.2.2.1, nw.2.2.2.2.2.2) kp im (okn_j, org_j, osi_j, oti_j, ole_j, oto_j, oow_j, oco_j, ost_j, owa_j, owv_j, owh_j, olo_j, ohi_j, ol.2.2.2.2.2.2.2.2.2.2.2.2.2.2.1, odi_j, oqu_j) sn sr tp (mW mk mg mt mc T)), 0, 0)
    obtain ⟨q1, hq1, hf⟩ := bnd hf
    refine stp hm 1 (X_pathSet_ok hE hq1 ?_)
    show sxWP sc cl Q 99 (207, [some (.ref 0), some (.int v1), some (.int v2), some (.int v3)], [.int q1.1], (cW (nrg_j, nld_j, nmt_j, (q1.2.1, q1.2.2.1, q1.2.2.2, nw.2.2.2.1.2.2.2), nw.2.2.2.2.1, nw.2.2.2.2.2.1, nw.2.2.2.2.2.2) kp im (okn_j, org_j, osi_j, oti_j, ole_j, oto_j, oow_j, oco_j, ost_j, owa_j, owv_j, owh_j, olo_j, ohi_j, ol.2.2.2.2.2.2.2.2.2.2.2.2.2.2.1, odi_j, oqu_j) sn sr tp (mW mk mg mt mc T)), 0, 0)
    obtain ⟨g0, hf⟩ := grd_e hf
    obtain rfl := Option.some.inj hf
    refine stp hm 1 (And.intro (zb_e g0) ?_)
    exact h
  unfold X_carriedOut at hf
  obtain ⟨q2, hq2, hf⟩ := bnd hf
  refine stp hm 6 (C_digit_ok hE hq2 ?_)
  show sxWP sc cl Q 99 (10, [some (.ref 0), some (.int v1), none, none], [.int q2], (cW nw kp im ol sn sr tp (mW mk mg mt mc T)), 0, 0)
  obtain ⟨q3, hq3, hf⟩ := bnd hf
  refine stp hm 7 (C_digit_ok hE hq3 ?_)
  show sxWP sc cl Q 99 (21, [some (.ref 0), some (.int v1), some (.int q2), none], [.int q3], (cW nw kp im ol sn sr tp (mW mk mg mt mc T)), 0, 0)
  obtain ⟨q4, hq4, hf⟩ := bnd hf
  refine stp hm 5 (C_sign_ok hE hq4 ?_)
  show sxWP sc cl Q 99 (30, [some (.ref 0), some (.int v1), some (.int q2), some (.int q3)], [.int q4], (cW nw kp im ol sn sr tp (mW mk mg mt mc T)), 0, 0)
  refine stp hm 1 ?_
  show sxWP sc cl Q 99 ((swT (q4).toInt (99) [116, 195, 130, 123, 169, 195, 195, 195, 195, 156, 137, 195, 195, 195, 195, 195, 195, 182] 195), [some (.ref 0), some (.int v1), some (.int q2), some (.int q3)], [], (cW nw kp im ol sn sr tp (mW mk mg mt mc T)), 0, 0)
  rcases ite_or hf with ⟨c5_0, hf⟩ | ⟨c5_0, hf⟩
  · rw [show swT (q4).toInt (99) [116, 195, 130, 123, 169, 195, 195, 195, 195, 156, 137, 195, 195, 195, 195, 195, 195, 182] 195 = 116 by rw [c5_0]; rfl]
    obtain ⟨q6, hq6, hf⟩ := bnd hf
    refine stp hm 4 (X_toggled_ok hE hq6 ?_)
    show sxWP sc cl Q 99 (122, [some (.ref 0), some (.int v1), some (.int q2), some (.int q3)], [.int q6.1], (cW (q6.2.1, q6.2.2, nw.2.2.1, nw.2.2.2.1, nw.2.2.2.2.1, nw.2.2.2.2.2.1, nw.2.2.2.2.2.2) kp im ol sn sr tp (mW mk mg mt mc T)), 0, 0)
    obtain ⟨g0, hf⟩ := grd_e hf
    obtain rfl := Option.some.inj hf
    refine stp hm 1 (And.intro (zb_e g0) ?_)
    exact h
  rcases ite_or hf with ⟨c5_1, hf⟩ | ⟨c5_1, hf⟩
  · rw [show swT (q4).toInt (99) [116, 195, 130, 123, 169, 195, 195, 195, 195, 156, 137, 195, 195, 195, 195, 195, 195, 182] 195 = 195 by rw [c5_1]; rfl]
    exact J195 _ _ _ _ _ _ _ _ _ _ _ _ _ _ _ _ _ _ _ _ _ _ _ _ _ hf
  rcases ite_or hf with ⟨c5_2, hf⟩ | ⟨c5_2, hf⟩
  · rw [show swT (q4).toInt (99) [116, 195, 130, 123, 169, 195, 195, 195, 195, 156, 137, 195, 195, 195, 195, 195, 195, 182] 195 = 130 by rw [c5_2]; rfl]
    obtain ⟨q7, hq7, hf⟩ := bnd hf
    refine stp hm 4 (X_blockSet_ok hE hq7 ?_)
    show sxWP sc cl Q 99 (136, [some (.ref 0), some (.int v1), some (.int q2), some (.int q3)], [.int q7.1], (cW (q7.2.1, q7.2.2, nw.2.2.1, nw.2.2.2.1, nw.2.2.2.2.1, nw.2.2.2.2.2.1, nw.2.2.2.2.2.2) kp im ol sn sr tp (mW mk mg mt mc T)), 0, 0)
    obtain ⟨g0, hf⟩ := grd_e hf
    obtain rfl := Option.some.inj hf
    refine stp hm 1 (And.intro (zb_e g0) ?_)
    exact h
  rcases ite_or hf with ⟨c5_3, hf⟩ | ⟨c5_3, hf⟩
  · rw [show swT (q4).toInt (99) [116, 195, 130, 123, 169, 195, 195, 195, 195, 156, 137, 195, 195, 195, 195, 195, 195, 182] 195 = 123 by rw [c5_3]; rfl]
    obtain ⟨q8, hq8, hf⟩ := bnd hf
    refine stp hm 4 (X_blockSet_ok hE hq8 ?_)
    show sxWP sc cl Q 99 (129, [some (.ref 0), some (.int v1), some (.int q2), some (.int q3)], [.int q8.1], (cW (q8.2.1, q8.2.2, nw.2.2.1, nw.2.2.2.1, nw.2.2.2.2.1, nw.2.2.2.2.2.1, nw.2.2.2.2.2.2) kp im ol sn sr tp (mW mk mg mt mc T)), 0, 0)
    obtain ⟨g0, hf⟩ := grd_e hf
    obtain rfl := Option.some.inj hf
    refine stp hm 1 (And.intro (zb_e g0) ?_)
    exact h
  rcases ite_or hf with ⟨c5_4, hf⟩ | ⟨c5_4, hf⟩
  · rw [show swT (q4).toInt (99) [116, 195, 130, 123, 169, 195, 195, 195, 195, 156, 137, 195, 195, 195, 195, 195, 195, 182] 195 = 169 by rw [c5_4]; rfl]
    obtain ⟨q9, hq9, hf⟩ := bnd hf
    refine stp hm 6 (S_layDown_ok hE hq9 ?_)
    show sxWP sc cl Q 99 (181, [some (.ref 0), some (.int v1), some (.int q2), some (.int q3)], [.int q9.1], (cW (nw.1, q9.2.1, q9.2.2.1, nw.2.2.2.1, nw.2.2.2.2.1, nw.2.2.2.2.2.1, nw.2.2.2.2.2.2) kp im (q9.2.2.2.1, q9.2.2.2.2.1, q9.2.2.2.2.2.1, q9.2.2.2.2.2.2.1, q9.2.2.2.2.2.2.2.1, q9.2.2.2.2.2.2.2.2.1, q9.2.2.2.2.2.2.2.2.2.1, q9.2.2.2.2.2.2.2.2.2.2.1, q9.2.2.2.2.2.2.2.2.2.2.2.1, q9.2.2.2.2.2.2.2.2.2.2.2.2.1, q9.2.2.2.2.2.2.2.2.2.2.2.2.2.1, q9.2.2.2.2.2.2.2.2.2.2.2.2.2.2.1, q9.2.2.2.2.2.2.2.2.2.2.2.2.2.2.2.1, q9.2.2.2.2.2.2.2.2.2.2.2.2.2.2.2.2.1, ol.2.2.2.2.2.2.2.2.2.2.2.2.2.2.1, q9.2.2.2.2.2.2.2.2.2.2.2.2.2.2.2.2.2.1, q9.2.2.2.2.2.2.2.2.2.2.2.2.2.2.2.2.2.2) sn sr tp (mW mk mg mt mc T)), 0, 0)
    obtain ⟨g0, hf⟩ := grd_e hf
    obtain rfl := Option.some.inj hf
    refine stp hm 1 (And.intro (zb_e g0) ?_)
    exact h
  rcases ite_or hf with ⟨c5_5, hf⟩ | ⟨c5_5, hf⟩
  · rw [show swT (q4).toInt (99) [116, 195, 130, 123, 169, 195, 195, 195, 195, 156, 137, 195, 195, 195, 195, 195, 195, 182] 195 = 195 by rw [c5_5]; rfl]
    exact J195 _ _ _ _ _ _ _ _ _ _ _ _ _ _ _ _ _ _ _ _ _ _ _ _ _ hf
  rcases ite_or hf with ⟨c5_6, hf⟩ | ⟨c5_6, hf⟩
  · rw [show swT (q4).toInt (99) [116, 195, 130, 123, 169, 195, 195, 195, 195, 156, 137, 195, 195, 195, 195, 195, 195, 182] 195 = 195 by rw [c5_6]; rfl]
    exact J195 _ _ _ _ _ _ _ _ _ _ _ _ _ _ _ _ _ _ _ _ _ _ _ _ _ hf
  rcases ite_or hf with ⟨c5_7, hf⟩ | ⟨c5_7, hf⟩
  · rw [show swT (q4).toInt (99) [116, 195, 130, 123, 169, 195, 195, 195, 195, 156, 137, 195, 195, 195, 195, 195, 195, 182] 195 = 195 by rw [c5_7]; rfl]
    exact J195 _ _ _ _ _ _ _ _ _ _ _ _ _ _ _ _ _ _ _ _ _ _ _ _ _ hf
  rcases ite_or hf with ⟨c5_8, hf⟩ | ⟨c5_8, hf⟩
  · rw [show swT (q4).toInt (99) [116, 195, 130, 123, 169, 195, 195, 195, 195, 156, 137, 195, 195, 195, 195, 195, 195, 182] 195 = 195 by rw [c5_8]; rfl]
    exact J195 _ _ _ _ _ _ _ _ _ _ _ _ _ _ _ _ _ _ _ _ _ _ _ _ _ hf
  rcases ite_or hf with ⟨c5_9, hf⟩ | ⟨c5_9, hf⟩
  · rw [show swT (q4).toInt (99) [116, 195, 130, 123, 169, 195, 195, 195, 195, 156, 137, 195, 195, 195, 195, 195, 195, 182] 195 = 156 by rw [c5_9]; rfl]
    obtain ⟨q10, hq10, hf⟩ := bnd hf
    refine stp hm 6 (S_layDown_ok hE hq10 ?_)
    show sxWP sc cl Q 99 (168, [some (.ref 0), some (.int v1), some (.int q2), some (.int q3)], [.int q10.1], (cW (nw.1, q10.2.1, q10.2.2.1, nw.2.2.2.1, nw.2.2.2.2.1, nw.2.2.2.2.2.1, nw.2.2.2.2.2.2) kp im (q10.2.2.2.1, q10.2.2.2.2.1, q10.2.2.2.2.2.1, q10.2.2.2.2.2.2.1, q10.2.2.2.2.2.2.2.1, q10.2.2.2.2.2.2.2.2.1, q10.2.2.2.2.2.2.2.2.2.1, q10.2.2.2.2.2.2.2.2.2.2.1, q10.2.2.2.2.2.2.2.2.2.2.2.1, q10.2.2.2.2.2.2.2.2.2.2.2.2.1, q10.2.2.2.2.2.2.2.2.2.2.2.2.2.1, q10.2.2.2.2.2.2.2.2.2.2.2.2.2.2.1, q10.2.2.2.2.2.2.2.2.2.2.2.2.2.2.2.1, q10.2.2.2.2.2.2.2.2.2.2.2.2.2.2.2.2.1, ol.2.2.2.2.2.2.2.2.2.2.2.2.2.2.1, q10.2.2.2.2.2.2.2.2.2.2.2.2.2.2.2.2.2.1, q10.2.2.2.2.2.2.2.2.2.2.2.2.2.2.2.2.2.2) sn sr tp (mW mk mg mt mc T)), 0, 0)
    obtain ⟨g0, hf⟩ := grd_e hf
    obtain rfl := Option.some.inj hf
    refine stp hm 1 (And.intro (zb_e g0) ?_)
    exact h
  rcases ite_or hf with ⟨c5_10, hf⟩ | ⟨c5_10, hf⟩
  · rw [show swT (q4).toInt (99) [116, 195, 130, 123, 169, 195, 195, 195, 195, 156, 137, 195, 195, 195, 195, 195, 195, 182] 195 = 137 by rw [c5_10]; rfl]
    obtain ⟨q11, hq11, hf⟩ := bnd hf
    refine stp hm 6 (G_mirror_ok hE hq11 ?_)
    show sxWP sc cl Q 99 (151, [some (.ref 0), some (.int v1), some (.int q2), some (.int q3)], [.long q11, .ref 1], (cW nw kp im ol sn sr tp (mW mk mg mt mc T)), 0, 0)
    obtain ⟨q12, hq12, hf⟩ := bnd hf
    refine stp hm 1 (S_become_ok hE hq12 ?_)
    show sxWP sc cl Q 99 (154, [some (.ref 0), some (.int v1), some (.int q2), some (.int q3)], [], (cW (q12.1, q12.2, nw.2.2.1, nw.2.2.2.1, nw.2.2.2.2.1, nw.2.2.2.2.2.1, nw.2.2.2.2.2.2) kp im ol sn sr tp (mW mk mg mt mc T)), 0, 0)
    obtain rfl := Option.some.inj hf
    refine stp hm 2 (And.intro (Or.inr rfl) ?_)
    exact h
  rcases ite_or hf with ⟨c5_11, hf⟩ | ⟨c5_11, hf⟩
  · rw [show swT (q4).toInt (99) [116, 195, 130, 123, 169, 195, 195, 195, 195, 156, 137, 195, 195, 195, 195, 195, 195, 182] 195 = 195 by rw [c5_11]; rfl]
    exact J195 _ _ _ _ _ _ _ _ _ _ _ _ _ _ _ _ _ _ _ _ _ _ _ _ _ hf
  rcases ite_or hf with ⟨c5_12, hf⟩ | ⟨c5_12, hf⟩
  · rw [show swT (q4).toInt (99) [116, 195, 130, 123, 169, 195, 195, 195, 195, 156, 137, 195, 195, 195, 195, 195, 195, 182] 195 = 195 by rw [c5_12]; rfl]
    exact J195 _ _ _ _ _ _ _ _ _ _ _ _ _ _ _ _ _ _ _ _ _ _ _ _ _ hf
  rcases ite_or hf with ⟨c5_13, hf⟩ | ⟨c5_13, hf⟩
  · rw [show swT (q4).toInt (99) [116, 195, 130, 123, 169, 195, 195, 195, 195, 156, 137, 195, 195, 195, 195, 195, 195, 182] 195 = 195 by rw [c5_13]; rfl]
    exact J195 _ _ _ _ _ _ _ _ _ _ _ _ _ _ _ _ _ _ _ _ _ _ _ _ _ hf
  rcases ite_or hf with ⟨c5_14, hf⟩ | ⟨c5_14, hf⟩
  · rw [show swT (q4).toInt (99) [116, 195, 130, 123, 169, 195, 195, 195, 195, 156, 137, 195, 195, 195, 195, 195, 195, 182] 195 = 195 by rw [c5_14]; rfl]
    exact J195 _ _ _ _ _ _ _ _ _ _ _ _ _ _ _ _ _ _ _ _ _ _ _ _ _ hf
  rcases ite_or hf with ⟨c5_15, hf⟩ | ⟨c5_15, hf⟩
  · rw [show swT (q4).toInt (99) [116, 195, 130, 123, 169, 195, 195, 195, 195, 156, 137, 195, 195, 195, 195, 195, 195, 182] 195 = 195 by rw [c5_15]; rfl]
    exact J195 _ _ _ _ _ _ _ _ _ _ _ _ _ _ _ _ _ _ _ _ _ _ _ _ _ hf
  rcases ite_or hf with ⟨c5_16, hf⟩ | ⟨c5_16, hf⟩
  · rw [show swT (q4).toInt (99) [116, 195, 130, 123, 169, 195, 195, 195, 195, 156, 137, 195, 195, 195, 195, 195, 195, 182] 195 = 195 by rw [c5_16]; rfl]
    exact J195 _ _ _ _ _ _ _ _ _ _ _ _ _ _ _ _ _ _ _ _ _ _ _ _ _ hf
  rcases ite_or hf with ⟨c5_17, hf⟩ | ⟨c5_17, hf⟩
  · rw [show swT (q4).toInt (99) [116, 195, 130, 123, 169, 195, 195, 195, 195, 156, 137, 195, 195, 195, 195, 195, 195, 182] 195 = 182 by rw [c5_17]; rfl]
    refine stp hm 5 (G_vertexAt_ok hE rfl ?_)
    show sxWP sc cl Q 99 (191, [some (.ref 0), some (.int v1), some (.int q2), some (.int q3)], [.int (G_vertexAt q2 q3), .ref 1], (cW nw kp im ol sn sr tp (mW mk mg mt mc T)), 0, 0)
    obtain ⟨q13, hq13, hf⟩ := bnd hf
    refine stp hm 1 (S_turnAt_ok hE hq13 ?_)
    show sxWP sc cl Q 99 (194, [some (.ref 0), some (.int v1), some (.int q2), some (.int q3)], [.int q13.1], (cW (nw.1, nw.2.1, q13.2, nw.2.2.2.1, nw.2.2.2.2.1, nw.2.2.2.2.2.1, nw.2.2.2.2.2.2) kp im ol sn sr tp (mW mk mg mt mc T)), 0, 0)
    obtain ⟨g0, hf⟩ := grd_e hf
    obtain rfl := Option.some.inj hf
    refine stp hm 1 (And.intro (zb_e g0) ?_)
    exact h
  have tc5_0 : ¬ (q4).toInt = 99 := fun e => c5_0 (Int32.toInt_inj.mp e)
  have tc5_1 : ¬ (q4).toInt = 100 := fun e => c5_1 (Int32.toInt_inj.mp e)
  have tc5_2 : ¬ (q4).toInt = 101 := fun e => c5_2 (Int32.toInt_inj.mp e)
  have tc5_3 : ¬ (q4).toInt = 102 := fun e => c5_3 (Int32.toInt_inj.mp e)
  have tc5_4 : ¬ (q4).toInt = 103 := fun e => c5_4 (Int32.toInt_inj.mp e)
  have tc5_5 : ¬ (q4).toInt = 104 := fun e => c5_5 (Int32.toInt_inj.mp e)
  have tc5_6 : ¬ (q4).toInt = 105 := fun e => c5_6 (Int32.toInt_inj.mp e)
  have tc5_7 : ¬ (q4).toInt = 106 := fun e => c5_7 (Int32.toInt_inj.mp e)
  have tc5_8 : ¬ (q4).toInt = 107 := fun e => c5_8 (Int32.toInt_inj.mp e)
  have tc5_9 : ¬ (q4).toInt = 108 := fun e => c5_9 (Int32.toInt_inj.mp e)
  have tc5_10 : ¬ (q4).toInt = 109 := fun e => c5_10 (Int32.toInt_inj.mp e)
  have tc5_11 : ¬ (q4).toInt = 110 := fun e => c5_11 (Int32.toInt_inj.mp e)
  have tc5_12 : ¬ (q4).toInt = 111 := fun e => c5_12 (Int32.toInt_inj.mp e)
  have tc5_13 : ¬ (q4).toInt = 112 := fun e => c5_13 (Int32.toInt_inj.mp e)
  have tc5_14 : ¬ (q4).toInt = 113 := fun e => c5_14 (Int32.toInt_inj.mp e)
  have tc5_15 : ¬ (q4).toInt = 114 := fun e => c5_15 (Int32.toInt_inj.mp e)
  have tc5_16 : ¬ (q4).toInt = 115 := fun e => c5_16 (Int32.toInt_inj.mp e)
  have tc5_17 : ¬ (q4).toInt = 116 := fun e => c5_17 (Int32.toInt_inj.mp e)
  rw [show swT (q4).toInt (99) [116, 195, 130, 123, 169, 195, 195, 195, 195, 156, 137, 195, 195, 195, 195, 195, 195, 182] 195 = 195 by simp [swT, tc5_0, tc5_1, tc5_2, tc5_3, tc5_4, tc5_5, tc5_6, tc5_7, tc5_8, tc5_9, tc5_10, tc5_11, tc5_12, tc5_13, tc5_14, tc5_15, tc5_16, tc5_17]]
  exact J195 _ _ _ _ _ _ _ _ _ _ _ _ _ _ _ _ _ _ _ _ _ _ _ _ _ hf

def C_clear   : Option Int32 := some (0:Int32)
set_option maxRecDepth 10000 in
theorem C_clear_ok  {q : Int32} (hc : call = sxE sc (d + 1)) (hf : C_clear = some q) (h : Q none (cW nw kp im ol sn (q, sr.2.1, sr.2.2.1, sr.2.2.2) tp (mW mk mg mt mc T))) : call 53 [.ref 43] (cW nw kp im ol sn sr tp (mW mk mg mt mc T)) Q := by
  refine ent hc rfl (fun cl hE hm => ?_)
  unfold C_clear at hf
  obtain rfl := Option.some.inj hf
  refine stp hm 4 ?_
  exact h
end PT
