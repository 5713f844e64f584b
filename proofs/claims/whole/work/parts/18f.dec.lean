/-! methods as functions (printed by wip/whole/dec) -/
section PT
variable {sc : sxS} {d : Nat} {Q : sxR} {hp : sxH} {call cl : sxX} {nw kp : tSt} {im : Int32} {ol : tOl} {sn : tSn} {sr : tSc} {tp : Nat → tTp} {mk : tMk} {mg : tMg} {mt : tMt} {mc : tMc} {T : sxH}

def M_onBy (v0 : Int32) (v1 : Int32)  : Int32 := if (M_isIn ((v0 / (7:Int32)) + (if v1 = (1:Int32) then (1:Int32) else (if v1 = (3:Int32) then (-1:Int32) else (0:Int32)))) (0:Int32) (6:Int32)) = (0:Int32) then (-1:Int32) else (if (M_isIn ((v0 - v0 / (7:Int32) * (7:Int32)) + (if v1 = (0:Int32) then (1:Int32) else (if v1 = (2:Int32) then (-1:Int32) else (0:Int32)))) (0:Int32) (6:Int32)) = (0:Int32) then (-1:Int32) else (((7:Int32) * ((v0 / (7:Int32)) + (if v1 = (1:Int32) then (1:Int32) else (if v1 = (3:Int32) then (-1:Int32) else (0:Int32))))) + ((v0 - v0 / (7:Int32) * (7:Int32)) + (if v1 = (0:Int32) then (1:Int32) else (if v1 = (2:Int32) then (-1:Int32) else (0:Int32))))))
set_option maxRecDepth 10000 in
theorem M_onBy_ok {v0 : Int32} {v1 : Int32} {r : Int32} (hc : call = sxE sc (d + 2)) (hf : M_onBy v0 v1 = r) (h : Q (some (.int r)) hp) : call 157 [.int v0, .int v1] hp Q := by
  refine ent hc rfl (fun cl hE hm => ?_)
  unfold M_onBy at hf
  refine stp hm 3 (And.intro (by decide) (?_ : sxWP sc cl Q 157 (4, [some (.int v0), some (.int v1), none, none], [.int (v0 / (7:Int32))], hp, 0, 0)))
  have m1 : ∀ (m1_0 : Int32), m1_0 = (if v1 = (1:Int32) then (1:Int32) else (if v1 = (3:Int32) then (-1:Int32) else (0:Int32))) → sxWP sc cl Q 157 (23, [some (.int v0), some (.int v1), none, none], [.int m1_0, .int (v0 / (7:Int32))], hp, 0, 0) := by
    intro m1_0 em1_0
    subst em1_0
    refine stp hm 5 (And.intro (by decide) (?_ : sxWP sc cl Q 157 (29, [some (.int v0), some (.int v1), some (.int ((v0 / (7:Int32)) + (if v1 = (1:Int32) then (1:Int32) else (if v1 = (3:Int32) then (-1:Int32) else (0:Int32))))), none], [.int (v0 - v0 / (7:Int32) * (7:Int32))], hp, 0, 0)))
    have m2 : ∀ (m2_0 : Int32), m2_0 = (if v1 = (0:Int32) then (1:Int32) else (if v1 = (2:Int32) then (-1:Int32) else (0:Int32))) → sxWP sc cl Q 157 (47, [some (.int v0), some (.int v1), some (.int ((v0 / (7:Int32)) + (if v1 = (1:Int32) then (1:Int32) else (if v1 = (3:Int32) then (-1:Int32) else (0:Int32))))), none], [.int m2_0, .int (v0 - v0 / (7:Int32) * (7:Int32))], hp, 0, 0) := by
      intro m2_0 em2_0
      subst em2_0
      refine stp hm 6 (M_isIn_ok hE rfl ?_)
      show sxWP sc cl Q 157 (56, [some (.int v0), some (.int v1), some (.int ((v0 / (7:Int32)) + (if v1 = (1:Int32) then (1:Int32) else (if v1 = (3:Int32) then (-1:Int32) else (0:Int32))))), some (.int ((v0 - v0 / (7:Int32) * (7:Int32)) + (if v1 = (0:Int32) then (1:Int32) else (if v1 = (2:Int32) then (-1:Int32) else (0:Int32)))))], [.int (M_isIn ((v0 / (7:Int32)) + (if v1 = (1:Int32) then (1:Int32) else (if v1 = (3:Int32) then (-1:Int32) else (0:Int32)))) (0:Int32) (6:Int32))], hp, 0, 0)
      have m3 : ∀ (m3_0 : Int32), m3_0 = (if (M_isIn ((v0 / (7:Int32)) + (if v1 = (1:Int32) then (1:Int32) else (if v1 = (3:Int32) then (-1:Int32) else (0:Int32)))) (0:Int32) (6:Int32)) = (0:Int32) then (-1:Int32) else (if (M_isIn ((v0 - v0 / (7:Int32) * (7:Int32)) + (if v1 = (0:Int32) then (1:Int32) else (if v1 = (2:Int32) then (-1:Int32) else (0:Int32)))) (0:Int32) (6:Int32)) = (0:Int32) then (-1:Int32) else (((7:Int32) * ((v0 / (7:Int32)) + (if v1 = (1:Int32) then (1:Int32) else (if v1 = (3:Int32) then (-1:Int32) else (0:Int32))))) + ((v0 - v0 / (7:Int32) * (7:Int32)) + (if v1 = (0:Int32) then (1:Int32) else (if v1 = (2:Int32) then (-1:Int32) else (0:Int32))))))) → sxWP sc cl Q 157 (79, [some (.int v0), some (.int v1), some (.int ((v0 / (7:Int32)) + (if v1 = (1:Int32) then (1:Int32) else (if v1 = (3:Int32) then (-1:Int32) else (0:Int32))))), some (.int ((v0 - v0 / (7:Int32) * (7:Int32)) + (if v1 = (0:Int32) then (1:Int32) else (if v1 = (2:Int32) then (-1:Int32) else (0:Int32)))))], [.int m3_0], hp, 0, 0) := by
        intro m3_0 em3_0
        subst em3_0
        subst hf
        refine stp hm 1 ?_
        exact h
      refine stp hm 1 (bs (c := (M_isIn ((v0 / (7:Int32)) + (if v1 = (1:Int32) then (1:Int32) else (if v1 = (3:Int32) then (-1:Int32) else (0:Int32)))) (0:Int32) (6:Int32)) = (0:Int32)) (fun c4 => ?_) (fun c4 => ?_))
      · have c4 : (M_isIn ((v0 / (7:Int32)) + (if v1 = (1:Int32) then (1:Int32) else (if v1 = (3:Int32) then (-1:Int32) else (0:Int32)))) (0:Int32) (6:Int32)) = (0:Int32) := c4
        refine stp hm 1 (?_ : sxWP sc cl Q 157 (79, [some (.int v0), some (.int v1), some (.int ((v0 / (7:Int32)) + (if v1 = (1:Int32) then (1:Int32) else (if v1 = (3:Int32) then (-1:Int32) else (0:Int32))))), some (.int ((v0 - v0 / (7:Int32) * (7:Int32)) + (if v1 = (0:Int32) then (1:Int32) else (if v1 = (2:Int32) then (-1:Int32) else (0:Int32)))))], [.int (-1:Int32)], hp, 0, 0))
        exact m3 _ (by rw [if_pos c4])
      · have c4 : ¬ (M_isIn ((v0 / (7:Int32)) + (if v1 = (1:Int32) then (1:Int32) else (if v1 = (3:Int32) then (-1:Int32) else (0:Int32)))) (0:Int32) (6:Int32)) = (0:Int32) := c4
        refine stp hm 4 (M_isIn_ok hE rfl ?_)
        show sxWP sc cl Q 157 (66, [some (.int v0), some (.int v1), some (.int ((v0 / (7:Int32)) + (if v1 = (1:Int32) then (1:Int32) else (if v1 = (3:Int32) then (-1:Int32) else (0:Int32))))), some (.int ((v0 - v0 / (7:Int32) * (7:Int32)) + (if v1 = (0:Int32) then (1:Int32) else (if v1 = (2:Int32) then (-1:Int32) else (0:Int32)))))], [.int (M_isIn ((v0 - v0 / (7:Int32) * (7:Int32)) + (if v1 = (0:Int32) then (1:Int32) else (if v1 = (2:Int32) then (-1:Int32) else (0:Int32)))) (0:Int32) (6:Int32))], hp, 0, 0)
        refine stp hm 1 (bs (c := (M_isIn ((v0 - v0 / (7:Int32) * (7:Int32)) + (if v1 = (0:Int32) then (1:Int32) else (if v1 = (2:Int32) then (-1:Int32) else (0:Int32)))) (0:Int32) (6:Int32)) = (0:Int32)) (fun c5 => ?_) (fun c5 => ?_))
        · have c5 : (M_isIn ((v0 - v0 / (7:Int32) * (7:Int32)) + (if v1 = (0:Int32) then (1:Int32) else (if v1 = (2:Int32) then (-1:Int32) else (0:Int32)))) (0:Int32) (6:Int32)) = (0:Int32) := c5
          refine stp hm 1 (?_ : sxWP sc cl Q 157 (79, [some (.int v0), some (.int v1), some (.int ((v0 / (7:Int32)) + (if v1 = (1:Int32) then (1:Int32) else (if v1 = (3:Int32) then (-1:Int32) else (0:Int32))))), some (.int ((v0 - v0 / (7:Int32) * (7:Int32)) + (if v1 = (0:Int32) then (1:Int32) else (if v1 = (2:Int32) then (-1:Int32) else (0:Int32)))))], [.int (-1:Int32)], hp, 0, 0))
          exact m3 _ (by rw [if_neg c4, if_pos c5])
        · have c5 : ¬ (M_isIn ((v0 - v0 / (7:Int32) * (7:Int32)) + (if v1 = (0:Int32) then (1:Int32) else (if v1 = (2:Int32) then (-1:Int32) else (0:Int32)))) (0:Int32) (6:Int32)) = (0:Int32) := c5
          refine stp hm 6 (?_ : sxWP sc cl Q 157 (79, [some (.int v0), some (.int v1), some (.int ((v0 / (7:Int32)) + (if v1 = (1:Int32) then (1:Int32) else (if v1 = (3:Int32) then (-1:Int32) else (0:Int32))))), some (.int ((v0 - v0 / (7:Int32) * (7:Int32)) + (if v1 = (0:Int32) then (1:Int32) else (if v1 = (2:Int32) then (-1:Int32) else (0:Int32)))))], [.int (((7:Int32) * ((v0 / (7:Int32)) + (if v1 = (1:Int32) then (1:Int32) else (if v1 = (3:Int32) then (-1:Int32) else (0:Int32))))) + ((v0 - v0 / (7:Int32) * (7:Int32)) + (if v1 = (0:Int32) then (1:Int32) else (if v1 = (2:Int32) then (-1:Int32) else (0:Int32)))))], hp, 0, 0))
          exact m3 _ (by rw [if_neg c4, if_neg c5])
    refine stp hm 2 (bsn (c := v1 = (0:Int32)) (fun c6 => ?_) (fun c6 => ?_))
    · have c6 : ¬ v1 = (0:Int32) := c6
      refine stp hm 3 (bsn (c := v1 = (2:Int32)) (fun c7 => ?_) (fun c7 => ?_))
      · have c7 : ¬ v1 = (2:Int32) := c7
        refine stp hm 1 (?_ : sxWP sc cl Q 157 (47, [some (.int v0), some (.int v1), some (.int ((v0 / (7:Int32)) + (if v1 = (1:Int32) then (1:Int32) else (if v1 = (3:Int32) then (-1:Int32) else (0:Int32))))), none], [.int (0:Int32), .int (v0 - v0 / (7:Int32) * (7:Int32))], hp, 0, 0))
        exact m2 _ (by rw [if_neg c6, if_neg c7])
      · have c7 : v1 = (2:Int32) := c7
        refine stp hm 2 (?_ : sxWP sc cl Q 157 (47, [some (.int v0), some (.int v1), some (.int ((v0 / (7:Int32)) + (if v1 = (1:Int32) then (1:Int32) else (if v1 = (3:Int32) then (-1:Int32) else (0:Int32))))), none], [.int (-1:Int32), .int (v0 - v0 / (7:Int32) * (7:Int32))], hp, 0, 0))
        exact m2 _ (by rw [if_neg c6, if_pos c7])
    · have c6 : v1 = (0:Int32) := c6
      refine stp hm 2 (?_ : sxWP sc cl Q 157 (47, [some (.int v0), some (.int v1), some (.int ((v0 / (7:Int32)) + (if v1 = (1:Int32) then (1:Int32) else (if v1 = (3:Int32) then (-1:Int32) else (0:Int32))))), none], [.int (1:Int32), .int (v0 - v0 / (7:Int32) * (7:Int32))], hp, 0, 0))
      exact m2 _ (by rw [if_pos c6])
  refine stp hm 3 (bsn (c := v1 = (1:Int32)) (fun c8 => ?_) (fun c8 => ?_))
  · have c8 : ¬ v1 = (1:Int32) := c8
    refine stp hm 3 (bsn (c := v1 = (3:Int32)) (fun c9 => ?_) (fun c9 => ?_))
    · have c9 : ¬ v1 = (3:Int32) := c9
      refine stp hm 1 (?_ : sxWP sc cl Q 157 (23, [some (.int v0), some (.int v1), none, none], [.int (0:Int32), .int (v0 / (7:Int32))], hp, 0, 0))
      exact m1 _ (by rw [if_neg c8, if_neg c9])
    · have c9 : v1 = (3:Int32) := c9
      refine stp hm 2 (?_ : sxWP sc cl Q 157 (23, [some (.int v0), some (.int v1), none, none], [.int (-1:Int32), .int (v0 / (7:Int32))], hp, 0, 0))
      exact m1 _ (by rw [if_neg c8, if_pos c9])
  · have c8 : v1 = (1:Int32) := c8
    refine stp hm 2 (?_ : sxWP sc cl Q 157 (23, [some (.int v0), some (.int v1), none, none], [.int (1:Int32), .int (v0 / (7:Int32))], hp, 0, 0))
    exact m1 _ (by rw [if_pos c8])

def M_leftRow (v0 : Int32) (v1 : Int32)  : Int32 := (v0 / (7:Int32)) - (if v1 = (0:Int32) then (1:Int32) else (if v1 = (3:Int32) then (1:Int32) else (0:Int32)))
set_option maxRecDepth 10000 in
theorem M_leftRow_ok {v0 : Int32} {v1 : Int32} {r : Int32} (hc : call = sxE sc (d + 1)) (hf : M_leftRow v0 v1 = r) (h : Q (some (.int r)) hp) : call 158 [.int v0, .int v1] hp Q := by
  refine ent hc rfl (fun cl hE hm => ?_)
  unfold M_leftRow at hf
  refine stp hm 3 (And.intro (by decide) (?_ : sxWP sc cl Q 158 (4, [some (.int v0), some (.int v1)], [.int (v0 / (7:Int32))], hp, 0, 0)))
  have m1 : ∀ (m1_0 : Int32), m1_0 = (if v1 = (0:Int32) then (1:Int32) else (if v1 = (3:Int32) then (1:Int32) else (0:Int32))) → sxWP sc cl Q 158 (18, [some (.int v0), some (.int v1)], [.int m1_0, .int (v0 / (7:Int32))], hp, 0, 0) := by
    intro m1_0 em1_0
    subst em1_0
    subst hf
    refine stp hm 2 ?_
    exact h
  refine stp hm 2 (bs (c := v1 = (0:Int32)) (fun c2 => ?_) (fun c2 => ?_))
  · have c2 : v1 = (0:Int32) := c2
    refine stp hm 2 (?_ : sxWP sc cl Q 158 (18, [some (.int v0), some (.int v1)], [.int (1:Int32), .int (v0 / (7:Int32))], hp, 0, 0))
    exact m1 _ (by rw [if_pos c2])
  · have c2 : ¬ v1 = (0:Int32) := c2
    refine stp hm 3 (bsn (c := v1 = (3:Int32)) (fun c3 => ?_) (fun c3 => ?_))
    · have c3 : ¬ v1 = (3:Int32) := c3
      refine stp hm 1 (?_ : sxWP sc cl Q 158 (18, [some (.int v0), some (.int v1)], [.int (0:Int32), .int (v0 / (7:Int32))], hp, 0, 0))
      exact m1 _ (by rw [if_neg c2, if_neg c3])
    · have c3 : v1 = (3:Int32) := c3
      refine stp hm 2 (?_ : sxWP sc cl Q 158 (18, [some (.int v0), some (.int v1)], [.int (1:Int32), .int (v0 / (7:Int32))], hp, 0, 0))
      exact m1 _ (by rw [if_neg c2, if_pos c3])

def M_leftColumn (v0 : Int32) (v1 : Int32)  : Int32 := (v0 - v0 / (7:Int32) * (7:Int32)) - (if v1 = (2:Int32) then (1:Int32) else (if v1 = (3:Int32) then (1:Int32) else (0:Int32)))
set_option maxRecDepth 10000 in
theorem M_leftColumn_ok {v0 : Int32} {v1 : Int32} {r : Int32} (hc : call = sxE sc (d + 1)) (hf : M_leftColumn v0 v1 = r) (h : Q (some (.int r)) hp) : call 159 [.int v0, .int v1] hp Q := by
  refine ent hc rfl (fun cl hE hm => ?_)
  unfold M_leftColumn at hf
  refine stp hm 3 (And.intro (by decide) (?_ : sxWP sc cl Q 159 (4, [some (.int v0), some (.int v1)], [.int (v0 - v0 / (7:Int32) * (7:Int32))], hp, 0, 0)))
  have m1 : ∀ (m1_0 : Int32), m1_0 = (if v1 = (2:Int32) then (1:Int32) else (if v1 = (3:Int32) then (1:Int32) else (0:Int32))) → sxWP sc cl Q 159 (19, [some (.int v0), some (.int v1)], [.int m1_0, .int (v0 - v0 / (7:Int32) * (7:Int32))], hp, 0, 0) := by
    intro m1_0 em1_0
    subst em1_0
    subst hf
    refine stp hm 2 ?_
    exact h
  refine stp hm 3 (bs (c := v1 = (2:Int32)) (fun c2 => ?_) (fun c2 => ?_))
  · have c2 : v1 = (2:Int32) := c2
    refine stp hm 2 (?_ : sxWP sc cl Q 159 (19, [some (.int v0), some (.int v1)], [.int (1:Int32), .int (v0 - v0 / (7:Int32) * (7:Int32))], hp, 0, 0))
    exact m1 _ (by rw [if_pos c2])
  · have c2 : ¬ v1 = (2:Int32) := c2
    refine stp hm 3 (bsn (c := v1 = (3:Int32)) (fun c3 => ?_) (fun c3 => ?_))
    · have c3 : ¬ v1 = (3:Int32) := c3
      refine stp hm 1 (?_ : sxWP sc cl Q 159 (19, [some (.int v0), some (.int v1)], [.int (0:Int32), .int (v0 - v0 / (7:Int32) * (7:Int32))], hp, 0, 0))
      exact m1 _ (by rw [if_neg c2, if_neg c3])
    · have c3 : v1 = (3:Int32) := c3
      refine stp hm 2 (?_ : sxWP sc cl Q 159 (19, [some (.int v0), some (.int v1)], [.int (1:Int32), .int (v0 - v0 / (7:Int32) * (7:Int32))], hp, 0, 0))
      exact m1 _ (by rw [if_neg c2, if_pos c3])

def M_hasLeft (v1 : Int32) (v2 : Int32) (mrg : Int64) : Int32 := M_hasAt (M_leftRow v1 v2) (M_leftColumn v1 v2) mrg
set_option maxRecDepth 10000 in
theorem M_hasLeft_ok {v1 : Int32} {v2 : Int32} {r : Int32} (hc : call = sxE sc (d + 3)) (hf : M_hasLeft v1 v2 mk.1 = r) (h : Q (some (.int r)) (cW nw kp im ol sn sr tp (mW mk mg mt mc T))) : call 162 [.ref 59, .int v1, .int v2] (cW nw kp im ol sn sr tp (mW mk mg mt mc T)) Q := by
  refine ent hc rfl (fun cl hE hm => ?_)
  unfold M_hasLeft at hf
  refine stp hm 4 (M_leftRow_ok hE rfl ?_)
  show sxWP sc cl Q 162 (6, [some (.ref 59), some (.int v1), some (.int v2)], [.int (M_leftRow v1 v2), .ref 59], (cW nw kp im ol sn sr tp (mW mk mg mt mc T)), 0, 0)
  refine stp hm 3 (M_leftColumn_ok hE rfl ?_)
  show sxWP sc cl Q 162 (11, [some (.ref 59), some (.int v1), some (.int v2)], [.int (M_leftColumn v1 v2), .int (M_leftRow v1 v2), .ref 59], (cW nw kp im ol sn sr tp (mW mk mg mt mc T)), 0, 0)
  refine stp hm 1 (M_hasAt_ok hE rfl ?_)
  show sxWP sc cl Q 162 (14, [some (.ref 59), some (.int v1), some (.int v2)], [.int (M_hasAt (M_leftRow v1 v2) (M_leftColumn v1 v2) mk.1)], (cW nw kp im ol sn sr tp (mW mk mg mt mc T)), 0, 0)
  subst hf
  refine stp hm 1 (And.intro (M_hasAt_z) ?_)
  exact h
theorem M_hasLeft_z {v1 : Int32} {v2 : Int32} {mrg : Int64} : M_hasLeft v1 v2 mrg = 0 ∨ M_hasLeft v1 v2 mrg = 1 := by
  unfold M_hasLeft
  (repeat' split) <;> first | exact Or.inl rfl | exact Or.inr rfl | exact M_hasAt_z

def M_rightRow (v0 : Int32) (v1 : Int32)  : Int32 := (v0 / (7:Int32)) - (if v1 = (2:Int32) then (1:Int32) else (if v1 = (3:Int32) then (1:Int32) else (0:Int32)))
set_option maxRecDepth 10000 in
theorem M_rightRow_ok {v0 : Int32} {v1 : Int32} {r : Int32} (hc : call = sxE sc (d + 1)) (hf : M_rightRow v0 v1 = r) (h : Q (some (.int r)) hp) : call 160 [.int v0, .int v1] hp Q := by
  refine ent hc rfl (fun cl hE hm => ?_)
  unfold M_rightRow at hf
  refine stp hm 3 (And.intro (by decide) (?_ : sxWP sc cl Q 160 (4, [some (.int v0), some (.int v1)], [.int (v0 / (7:Int32))], hp, 0, 0)))
  have m1 : ∀ (m1_0 : Int32), m1_0 = (if v1 = (2:Int32) then (1:Int32) else (if v1 = (3:Int32) then (1:Int32) else (0:Int32))) → sxWP sc cl Q 160 (19, [some (.int v0), some (.int v1)], [.int m1_0, .int (v0 / (7:Int32))], hp, 0, 0) := by
    intro m1_0 em1_0
    subst em1_0
    subst hf
    refine stp hm 2 ?_
    exact h
  refine stp hm 3 (bs (c := v1 = (2:Int32)) (fun c2 => ?_) (fun c2 => ?_))
  · have c2 : v1 = (2:Int32) := c2
    refine stp hm 2 (?_ : sxWP sc cl Q 160 (19, [some (.int v0), some (.int v1)], [.int (1:Int32), .int (v0 / (7:Int32))], hp, 0, 0))
    exact m1 _ (by rw [if_pos c2])
  · have c2 : ¬ v1 = (2:Int32) := c2
    refine stp hm 3 (bsn (c := v1 = (3:Int32)) (fun c3 => ?_) (fun c3 => ?_))
    · have c3 : ¬ v1 = (3:Int32) := c3
      refine stp hm 1 (?_ : sxWP sc cl Q 160 (19, [some (.int v0), some (.int v1)], [.int (0:Int32), .int (v0 / (7:Int32))], hp, 0, 0))
      exact m1 _ (by rw [if_neg c2, if_neg c3])
    · have c3 : v1 = (3:Int32) := c3
      refine stp hm 2 (?_ : sxWP sc cl Q 160 (19, [some (.int v0), some (.int v1)], [.int (1:Int32), .int (v0 / (7:Int32))], hp, 0, 0))
      exact m1 _ (by rw [if_neg c2, if_pos c3])

def M_rightColumn (v0 : Int32) (v1 : Int32)  : Int32 := (v0 - v0 / (7:Int32) * (7:Int32)) - (if v1 = (1:Int32) then (1:Int32) else (if v1 = (2:Int32) then (1:Int32) else (0:Int32)))
set_option maxRecDepth 10000 in
theorem M_rightColumn_ok {v0 : Int32} {v1 : Int32} {r : Int32} (hc : call = sxE sc (d + 1)) (hf : M_rightColumn v0 v1 = r) (h : Q (some (.int r)) hp) : call 161 [.int v0, .int v1] hp Q := by
  refine ent hc rfl (fun cl hE hm => ?_)
  unfold M_rightColumn at hf
  refine stp hm 3 (And.intro (by decide) (?_ : sxWP sc cl Q 161 (4, [some (.int v0), some (.int v1)], [.int (v0 - v0 / (7:Int32) * (7:Int32))], hp, 0, 0)))
  have m1 : ∀ (m1_0 : Int32), m1_0 = (if v1 = (1:Int32) then (1:Int32) else (if v1 = (2:Int32) then (1:Int32) else (0:Int32))) → sxWP sc cl Q 161 (19, [some (.int v0), some (.int v1)], [.int m1_0, .int (v0 - v0 / (7:Int32) * (7:Int32))], hp, 0, 0) := by
    intro m1_0 em1_0
    subst em1_0
    subst hf
    refine stp hm 2 ?_
    exact h
  refine stp hm 3 (bs (c := v1 = (1:Int32)) (fun c2 => ?_) (fun c2 => ?_))
  · have c2 : v1 = (1:Int32) := c2
    refine stp hm 2 (?_ : sxWP sc cl Q 161 (19, [some (.int v0), some (.int v1)], [.int (1:Int32), .int (v0 - v0 / (7:Int32) * (7:Int32))], hp, 0, 0))
    exact m1 _ (by rw [if_pos c2])
  · have c2 : ¬ v1 = (1:Int32) := c2
    refine stp hm 3 (bsn (c := v1 = (2:Int32)) (fun c3 => ?_) (fun c3 => ?_))
    · have c3 : ¬ v1 = (2:Int32) := c3
      refine stp hm 1 (?_ : sxWP sc cl Q 161 (19, [some (.int v0), some (.int v1)], [.int (0:Int32), .int (v0 - v0 / (7:Int32) * (7:Int32))], hp, 0, 0))
      exact m1 _ (by rw [if_neg c2, if_neg c3])
    · have c3 : v1 = (2:Int32) := c3
      refine stp hm 2 (?_ : sxWP sc cl Q 161 (19, [some (.int v0), some (.int v1)], [.int (1:Int32), .int (v0 - v0 / (7:Int32) * (7:Int32))], hp, 0, 0))
      exact m1 _ (by rw [if_neg c2, if_pos c3])

def M_hasRight (v1 : Int32) (v2 : Int32) (mrg : Int64) : Int32 := M_hasAt (M_rightRow v1 v2) (M_rightColumn v1 v2) mrg
set_option maxRecDepth 10000 in
theorem M_hasRight_ok {v1 : Int32} {v2 : Int32} {r : Int32} (hc : call = sxE sc (d + 3)) (hf : M_hasRight v1 v2 mk.1 = r) (h : Q (some (.int r)) (cW nw kp im ol sn sr tp (mW mk mg mt mc T))) : call 163 [.ref 59, .int v1, .int v2] (cW nw kp im ol sn sr tp (mW mk mg mt mc T)) Q := by
  refine ent hc rfl (fun cl hE hm => ?_)
  unfold M_hasRight at hf
  refine stp hm 4 (M_rightRow_ok hE rfl ?_)
  show sxWP sc cl Q 163 (6, [some (.ref 59), some (.int v1), some (.int v2)], [.int (M_rightRow v1 v2), .ref 59], (cW nw kp im ol sn sr tp (mW mk mg mt mc T)), 0, 0)
  refine stp hm 3 (M_rightColumn_ok hE rfl ?_)
  show sxWP sc cl Q 163 (11, [some (.ref 59), some (.int v1), some (.int v2)], [.int (M_rightColumn v1 v2), .int (M_rightRow v1 v2), .ref 59], (cW nw kp im ol sn sr tp (mW mk mg mt mc T)), 0, 0)
  refine stp hm 1 (M_hasAt_ok hE rfl ?_)
  show sxWP sc cl Q 163 (14, [some (.ref 59), some (.int v1), some (.int v2)], [.int (M_hasAt (M_rightRow v1 v2) (M_rightColumn v1 v2) mk.1)], (cW nw kp im ol sn sr tp (mW mk mg mt mc T)), 0, 0)
  subst hf
  refine stp hm 1 (And.intro (M_hasAt_z) ?_)
  exact h
theorem M_hasRight_z {v1 : Int32} {v2 : Int32} {mrg : Int64} : M_hasRight v1 v2 mrg = 0 ∨ M_hasRight v1 v2 mrg = 1 := by
  unfold M_hasRight
  (repeat' split) <;> first | exact Or.inl rfl | exact Or.inr rfl | exact M_hasAt_z

def M_isBlackAt (v0 : Int32) (v1 : Int32)  : Int32 := if ((v0 + v1) &&& (1:Int32)) = (0:Int32) then (1:Int32) else (0:Int32)
set_option maxRecDepth 10000 in
theorem M_isBlackAt_ok {v0 : Int32} {v1 : Int32} {r : Int32} (hc : call = sxE sc (d + 1)) (hf : M_isBlackAt v0 v1 = r) (h : Q (some (.int r)) hp) : call 144 [.int v0, .int v1] hp Q := by
  refine ent hc rfl (fun cl hE hm => ?_)
  unfold M_isBlackAt at hf
  have m1 : ∀ (m1_0 : Int32), m1_0 = (if ((v0 + v1) &&& (1:Int32)) = (0:Int32) then (1:Int32) else (0:Int32)) → sxWP sc cl Q 144 (13, [some (.int v0), some (.int v1)], [.int m1_0], hp, 0, 0) := by
    intro m1_0 em1_0
    subst em1_0
    subst hf
    refine stp hm 1 (And.intro (by (repeat' split) <;> first | exact Or.inl rfl | exact Or.inr rfl) ?_)
    exact h
  refine stp hm 6 (bsn (c := ((v0 + v1) &&& (1:Int32)) = (0:Int32)) (fun c2 => ?_) (fun c2 => ?_))
  · have c2 : ¬ ((v0 + v1) &&& (1:Int32)) = (0:Int32) := c2
    refine stp hm 1 (?_ : sxWP sc cl Q 144 (13, [some (.int v0), some (.int v1)], [.int (0:Int32)], hp, 0, 0))
    exact m1 _ (by rw [if_neg c2])
  · have c2 : ((v0 + v1) &&& (1:Int32)) = (0:Int32) := c2
    refine stp hm 2 (?_ : sxWP sc cl Q 144 (13, [some (.int v0), some (.int v1)], [.int (1:Int32)], hp, 0, 0))
    exact m1 _ (by rw [if_pos c2])
theorem M_isBlackAt_z {v0 : Int32} {v1 : Int32}  : M_isBlackAt v0 v1 = 0 ∨ M_isBlackAt v0 v1 = 1 := by
  unfold M_isBlackAt
  (repeat' split) <;> first | exact Or.inl rfl | exact Or.inr rfl

def M_heightOf (v0 : Int32) (v1 : Int32)  : Int32 := if (M_isBlackAt (M_leftRow v0 v1) (M_leftColumn v0 v1)) = (0:Int32) then (-1:Int32) else (1:Int32)
set_option maxRecDepth 10000 in
theorem M_heightOf_ok {v0 : Int32} {v1 : Int32} {r : Int32} (hc : call = sxE sc (d + 2)) (hf : M_heightOf v0 v1 = r) (h : Q (some (.int r)) hp) : call 164 [.int v0, .int v1] hp Q := by
  refine ent hc rfl (fun cl hE hm => ?_)
  unfold M_heightOf at hf
  refine stp hm 3 (M_leftRow_ok hE rfl ?_)
  show sxWP sc cl Q 164 (5, [some (.int v0), some (.int v1)], [.int (M_leftRow v0 v1)], hp, 0, 0)
  refine stp hm 3 (M_leftColumn_ok hE rfl ?_)
  show sxWP sc cl Q 164 (10, [some (.int v0), some (.int v1)], [.int (M_leftColumn v0 v1), .int (M_leftRow v0 v1)], hp, 0, 0)
  refine stp hm 1 (M_isBlackAt_ok hE rfl ?_)
  show sxWP sc cl Q 164 (13, [some (.int v0), some (.int v1)], [.int (M_isBlackAt (M_leftRow v0 v1) (M_leftColumn v0 v1))], hp, 0, 0)
  have m1 : ∀ (m1_0 : Int32), m1_0 = (if (M_isBlackAt (M_leftRow v0 v1) (M_leftColumn v0 v1)) = (0:Int32) then (-1:Int32) else (1:Int32)) → sxWP sc cl Q 164 (21, [some (.int v0), some (.int v1)], [.int m1_0], hp, 0, 0) := by
    intro m1_0 em1_0
    subst em1_0
    subst hf
    refine stp hm 1 ?_
    exact h
  refine stp hm 1 (bs (c := (M_isBlackAt (M_leftRow v0 v1) (M_leftColumn v0 v1)) = (0:Int32)) (fun c2 => ?_) (fun c2 => ?_))
  · have c2 : (M_isBlackAt (M_leftRow v0 v1) (M_leftColumn v0 v1)) = (0:Int32) := c2
    refine stp hm 1 (?_ : sxWP sc cl Q 164 (21, [some (.int v0), some (.int v1)], [.int (-1:Int32)], hp, 0, 0))
    exact m1 _ (by rw [if_pos c2])
  · have c2 : ¬ (M_isBlackAt (M_leftRow v0 v1) (M_leftColumn v0 v1)) = (0:Int32) := c2
    refine stp hm 2 (?_ : sxWP sc cl Q 164 (21, [some (.int v0), some (.int v1)], [.int (1:Int32)], hp, 0, 0))
    exact m1 _ (by rw [if_neg c2])

def M_writesWord_s33   (mrg : Int64) (s : Int32) : Option (Int32 ⊕ Int32) := if (M_has s mrg) = (0:Int32) then (some (Sum.inl (s + (1:Int32)))) else (some (Sum.inr s))
def M_writesWord_s12   (s : (Int32 × (Nat → Int32))) : Option ((Int32 × (Nat → Int32)) ⊕ (Nat → Int32)) := if (49:Int32) ≤ s.1 then (some (Sum.inr s.2)) else (grd (gi s.1 49) (some (Sum.inl (s.1 + (1:Int32), upd s.2 s.1.toNatClampNeg (0:Int32)))))
def M_writesWord_j124  (v4 : Int32) : Option (Int32 ⊕ Int32) := some (Sum.inl (v4 + (1:Int32)))
def M_writesWord_s94  (v3 : Int32) (mrg : Int64) (s : Int32) : Option (Int32 ⊕ Int32) := if (M_onBy v3 s) = (-1:Int32) then (M_writesWord_j124 s) else (if (M_hasLeft v3 s mrg) = (0:Int32) then (if (M_hasRight v3 s mrg) = (0:Int32) then (M_writesWord_j124 s) else (some (Sum.inr s))) else (M_writesWord_j124 s))
def M_writesWord_j74  (v3 : Int32) (gle_j : Int32) (gsu_j : Int32) (gst_j : (Nat → Int32)) (ghe_j : (Nat → Int32)) (gow_j : (Nat → Int32)) (mrg : Int64) : Option ((Int32 × Int32 × Int32 × (Nat → Int32) × (Nat → Int32) × (Nat → Int32)) ⊕ (Int32 × Int32 × (Nat → Int32) × (Nat → Int32) × (Nat → Int32))) := grd (gi v3 49) (grd (gi v3 49) (Option.bind (wh (M_writesWord_s94 v3 mrg) FU (0:Int32)) (fun w3 => grd (gi gle_j 160) (some (Sum.inl (M_onBy v3 w3, gle_j + (1:Int32), gsu_j + (M_heightOf v3 w3), upd gst_j gle_j.toNatClampNeg w3, upd ghe_j v3.toNatClampNeg gsu_j, upd gow_j v3.toNatClampNeg (1:Int32)))))))
def M_writesWord_s62  (v2 : Int32) (mrg : Int64) (s : (Int32 × Int32 × Int32 × (Nat → Int32) × (Nat → Int32) × (Nat → Int32))) : Option ((Int32 × Int32 × Int32 × (Nat → Int32) × (Nat → Int32) × (Nat → Int32)) ⊕ (Int32 × Int32 × (Nat → Int32) × (Nat → Int32) × (Nat → Int32))) := if s.2.1 = (0:Int32) then (M_writesWord_j74 s.1 s.2.1 s.2.2.1 s.2.2.2.1 s.2.2.2.2.1 s.2.2.2.2.2 mrg) else (if s.1 = v2 then (some (Sum.inr (s.2.1, s.2.2.1, s.2.2.2.1, s.2.2.2.2.1, s.2.2.2.2.2))) else (M_writesWord_j74 s.1 s.2.1 s.2.2.1 s.2.2.2.1 s.2.2.2.2.1 s.2.2.2.2.2 mrg))
def M_writesWord  (mrg : Int64) (gst : (Nat → Int32)) (ghe : (Nat → Int32)) (gow : (Nat → Int32)) : Option (Int32 × Int32 × (Nat → Int32) × (Nat → Int32) × (Nat → Int32)) := Option.bind (wh (M_writesWord_s12) FU ((0:Int32), gow)) (fun w1 => Option.bind (wh (M_writesWord_s33 mrg) FU (0:Int32)) (fun w2 => Option.bind (wh (M_writesWord_s62 (((7:Int32) * (w2 / (6:Int32))) + (w2 - w2 / (6:Int32) * (6:Int32))) mrg) FU (((7:Int32) * (w2 / (6:Int32))) + (w2 - w2 / (6:Int32) * (6:Int32)), (0:Int32), (0:Int32), gst, ghe, w1)) (fun w3 => some (w3.1, w3.2.1, w3.2.2.1, w3.2.2.2.1, w3.2.2.2.2))))
set_option maxRecDepth 10000 in
theorem M_writesWord_l33    (hE : cl = sxE sc (d + 3)) (hm : CallMono cl) : ∀ (n : Nat) (s : Int32) (r : Int32), wh (M_writesWord_s33 mk.1) n s = some r → (∀ (z2 z3 z4 : Option Value), sxWP sc cl Q 167 (47, [some (.ref 59), some (.int r), z2, z3, z4], [], (cW nw kp im ol sn sr tp (mW mk mg mt mc T)), 0, 0)) → ∀ (z2 z3 z4 : Option Value), sxWP sc cl Q 167 (33, [some (.ref 59), some (.int s), z2, z3, z4], [], (cW nw kp im ol sn sr tp (mW mk mg mt mc T)), 0, 0) := by
  refine wh_run (A := fun (s : Int32) => ∀ (z2 z3 z4 : Option Value), sxWP sc cl Q 167 (33, [some (.ref 59), some (.int s), z2, z3, z4], [], (cW nw kp im ol sn sr tp (mW mk mg mt mc T)), 0, 0)) (B := fun (r : Int32) => ∀ (z2 z3 z4 : Option Value), sxWP sc cl Q 167 (47, [some (.ref 59), some (.int r), z2, z3, z4], [], (cW nw kp im ol sn sr tp (mW mk mg mt mc T)), 0, 0)) (fun s x hf hA hB => ?_)
  intro z2 z3 z4
  unfold M_writesWord_s33 at hf
  refine stp hm 3 (M_has_ok hE rfl ?_)
  show sxWP sc cl Q 167 (38, [some (.ref 59), some (.int s), z2, z3, z4], [.int (M_has s mk.1)], (cW nw kp im ol sn sr tp (mW mk mg mt mc T)), 0, 0)
  refine stp hm 1 (brn hf (fun c1 hf => ?_) (fun c1 hf => ?_))
  · show sxWP sc cl Q 167 (47, [some (.ref 59), some (.int s), z2, z3, z4], [], (cW nw kp im ol sn sr tp (mW mk mg mt mc T)), 0, 0)
    obtain rfl := Option.some.inj hf
    exact hB _ rfl _ _ _
  · show sxWP sc cl Q 167 (41, [some (.ref 59), some (.int s), z2, z3, z4], [], (cW nw kp im ol sn sr tp (mW mk mg mt mc T)), 0, 0)
    obtain rfl := Option.some.inj hf
    refine stp hm 2 (?_ : sxWP sc cl Q 167 (33, [some (.ref 59), some (.int (s + (1:Int32))), z2, z3, z4], [], (cW nw kp im ol sn sr tp (mW mk mg mt mc T)), 0, 0))
    exact hA _ rfl _ _ _
set_option maxRecDepth 10000 in
theorem M_writesWord_l12    (hE : cl = sxE sc (d + 3)) (hm : CallMono cl) : ∀ (n : Nat) (s : (Int32 × (Nat → Int32))) (r : (Nat → Int32)), wh (M_writesWord_s12) n s = some r → (∀ (z1 z2 z3 z4 : Option Value), sxWP sc cl Q 167 (31, [some (.ref 59), z1, z2, z3, z4], [], (cW nw kp im ol sn sr tp (mW mk (mg.1, mg.2.1, mg.2.2.1, mg.2.2.2.1, mg.2.2.2.2.1, mg.2.2.2.2.2.1, r, mg.2.2.2.2.2.2.2.1, mg.2.2.2.2.2.2.2.2.1, mg.2.2.2.2.2.2.2.2.2.1, mg.2.2.2.2.2.2.2.2.2.2.1, mg.2.2.2.2.2.2.2.2.2.2.2.1, mg.2.2.2.2.2.2.2.2.2.2.2.2) mt mc T)), 0, 0)) → ∀ (z2 z3 z4 : Option Value), sxWP sc cl Q 167 (12, [some (.ref 59), some (.int s.1), z2, z3, z4], [], (cW nw kp im ol sn sr tp (mW mk (mg.1, mg.2.1, mg.2.2.1, mg.2.2.2.1, mg.2.2.2.2.1, mg.2.2.2.2.2.1, s.2, mg.2.2.2.2.2.2.2.1, mg.2.2.2.2.2.2.2.2.1, mg.2.2.2.2.2.2.2.2.2.1, mg.2.2.2.2.2.2.2.2.2.2.1, mg.2.2.2.2.2.2.2.2.2.2.2.1, mg.2.2.2.2.2.2.2.2.2.2.2.2) mt mc T)), 0, 0) := by
  refine wh_run (A := fun (s : (Int32 × (Nat → Int32))) => ∀ (z2 z3 z4 : Option Value), sxWP sc cl Q 167 (12, [some (.ref 59), some (.int s.1), z2, z3, z4], [], (cW nw kp im ol sn sr tp (mW mk (mg.1, mg.2.1, mg.2.2.1, mg.2.2.2.1, mg.2.2.2.2.1, mg.2.2.2.2.2.1, s.2, mg.2.2.2.2.2.2.2.1, mg.2.2.2.2.2.2.2.2.1, mg.2.2.2.2.2.2.2.2.2.1, mg.2.2.2.2.2.2.2.2.2.2.1, mg.2.2.2.2.2.2.2.2.2.2.2.1, mg.2.2.2.2.2.2.2.2.2.2.2.2) mt mc T)), 0, 0)) (B := fun (r : (Nat → Int32)) => ∀ (z1 z2 z3 z4 : Option Value), sxWP sc cl Q 167 (31, [some (.ref 59), z1, z2, z3, z4], [], (cW nw kp im ol sn sr tp (mW mk (mg.1, mg.2.1, mg.2.2.1, mg.2.2.2.1, mg.2.2.2.2.1, mg.2.2.2.2.2.1, r, mg.2.2.2.2.2.2.2.1, mg.2.2.2.2.2.2.2.2.1, mg.2.2.2.2.2.2.2.2.2.1, mg.2.2.2.2.2.2.2.2.2.2.1, mg.2.2.2.2.2.2.2.2.2.2.2.1, mg.2.2.2.2.2.2.2.2.2.2.2.2) mt mc T)), 0, 0)) (fun s x hf hA hB => ?_)
  intro z2 z3 z4
  unfold M_writesWord_s12 at hf
  refine stp hm 3 (br hf (fun c1 hf => ?_) (fun c1 hf => ?_))
  · show sxWP sc cl Q 167 (31, [some (.ref 59), some (.int s.1), z2, z3, z4], [], (cW nw kp im ol sn sr tp (mW mk (mg.1, mg.2.1, mg.2.2.1, mg.2.2.2.1, mg.2.2.2.2.1, mg.2.2.2.2.2.1, s.2, mg.2.2.2.2.2.2.2.1, mg.2.2.2.2.2.2.2.2.1, mg.2.2.2.2.2.2.2.2.2.1, mg.2.2.2.2.2.2.2.2.2.2.1, mg.2.2.2.2.2.2.2.2.2.2.2.1, mg.2.2.2.2.2.2.2.2.2.2.2.2) mt mc T)), 0, 0)
    obtain rfl := Option.some.inj hf
    exact hB _ rfl _ _ _ _
  · show sxWP sc cl Q 167 (18, [some (.ref 59), some (.int s.1), z2, z3, z4], [], (cW nw kp im ol sn sr tp (mW mk (mg.1, mg.2.1, mg.2.2.1, mg.2.2.2.1, mg.2.2.2.2.1, mg.2.2.2.2.2.1, s.2, mg.2.2.2.2.2.2.2.1, mg.2.2.2.2.2.2.2.2.1, mg.2.2.2.2.2.2.2.2.2.1, mg.2.2.2.2.2.2.2.2.2.2.1, mg.2.2.2.2.2.2.2.2.2.2.2.1, mg.2.2.2.2.2.2.2.2.2.2.2.2) mt mc T)), 0, 0)
    obtain ⟨g2, hf⟩ := grd_e hf
    refine stp hm 5 (And.intro (gi_in g2) (And.intro (Or.inl rfl) (?_ : sxWP sc cl Q 167 (25, [some (.ref 59), some (.int s.1), z2, z3, z4], [], (cW nw kp im ol sn sr tp (mW mk (mg.1, mg.2.1, mg.2.2.1, mg.2.2.2.1, mg.2.2.2.2.1, mg.2.2.2.2.2.1, upd s.2 s.1.toNatClampNeg (0:Int32), mg.2.2.2.2.2.2.2.1, mg.2.2.2.2.2.2.2.2.1, mg.2.2.2.2.2.2.2.2.2.1, mg.2.2.2.2.2.2.2.2.2.2.1, mg.2.2.2.2.2.2.2.2.2.2.2.1, mg.2.2.2.2.2.2.2.2.2.2.2.2) mt mc T)), 0, 0))))
    obtain rfl := Option.some.inj hf
    refine stp hm 2 (?_ : sxWP sc cl Q 167 (12, [some (.ref 59), some (.int (s.1 + (1:Int32))), z2, z3, z4], [], (cW nw kp im ol sn sr tp (mW mk (mg.1, mg.2.1, mg.2.2.1, mg.2.2.2.1, mg.2.2.2.2.1, mg.2.2.2.2.2.1, upd s.2 s.1.toNatClampNeg (0:Int32), mg.2.2.2.2.2.2.2.1, mg.2.2.2.2.2.2.2.2.1, mg.2.2.2.2.2.2.2.2.2.1, mg.2.2.2.2.2.2.2.2.2.2.1, mg.2.2.2.2.2.2.2.2.2.2.2.1, mg.2.2.2.2.2.2.2.2.2.2.2.2) mt mc T)), 0, 0))
    exact hA _ rfl _ _ _
set_option maxRecDepth 10000 in
theorem M_writesWord_l94 {v2 : Int32} {v3 : Int32}   (hE : cl = sxE sc (d + 3)) (hm : CallMono cl) : ∀ (n : Nat) (s : Int32) (r : Int32), wh (M_writesWord_s94 v3 mk.1) n s = some r → (∀ (z1 : Option Value), sxWP sc cl Q 167 (130, [some (.ref 59), z1, some (.int v2), some (.int v3), some (.int r)], [], (cW nw kp im ol sn sr tp (mW mk mg mt mc T)), 0, 0)) → ∀ (z1 : Option Value), sxWP sc cl Q 167 (94, [some (.ref 59), z1, some (.int v2), some (.int v3), some (.int s)], [], (cW nw kp im ol sn sr tp (mW mk mg mt mc T)), 0, 0) := by
  refine wh_run (A := fun (s : Int32) => ∀ (z1 : Option Value), sxWP sc cl Q 167 (94, [some (.ref 59), z1, some (.int v2), some (.int v3), some (.int s)], [], (cW nw kp im ol sn sr tp (mW mk mg mt mc T)), 0, 0)) (B := fun (r : Int32) => ∀ (z1 : Option Value), sxWP sc cl Q 167 (130, [some (.ref 59), z1, some (.int v2), some (.int v3), some (.int r)], [], (cW nw kp im ol sn sr tp (mW mk mg mt mc T)), 0, 0)) (fun s x hf hA hB => ?_)
  intro z1
  have J124 : ∀ (v4 : Int32) (z1 : Option Value), M_writesWord_j124 v4 = some x → sxWP sc cl Q 167 (124, [some (.ref 59), z1, some (.int v2), some (.int v3), some (.int v4)], [], (cW nw kp im ol sn sr tp (mW mk mg mt mc T)), 0, 0) := by
    intro v4 z1 hf
    unfold M_writesWord_j124 at hf
    obtain rfl := Option.some.inj hf
    refine stp hm 2 (?_ : sxWP sc cl Q 167 (94, [some (.ref 59), z1, some (.int v2), some (.int v3), some (.int (v4 + (1:Int32)))], [], (cW nw kp im ol sn sr tp (mW mk mg mt mc T)), 0, 0))
    exact hA _ rfl _
  unfold M_writesWord_s94 at hf
  refine stp hm 3 (M_onBy_ok hE rfl ?_)
  show sxWP sc cl Q 167 (100, [some (.ref 59), z1, some (.int v2), some (.int v3), some (.int s)], [.int (M_onBy v3 s)], (cW nw kp im ol sn sr tp (mW mk mg mt mc T)), 0, 0)
  refine stp hm 2 (br hf (fun c1 hf => ?_) (fun c1 hf => ?_))
  · show sxWP sc cl Q 167 (124, [some (.ref 59), z1, some (.int v2), some (.int v3), some (.int s)], [], (cW nw kp im ol sn sr tp (mW mk mg mt mc T)), 0, 0)
    exact J124 _ _ hf
  · show sxWP sc cl Q 167 (104, [some (.ref 59), z1, some (.int v2), some (.int v3), some (.int s)], [], (cW nw kp im ol sn sr tp (mW mk mg mt mc T)), 0, 0)
    refine stp hm 4 (M_hasLeft_ok hE rfl ?_)
    show sxWP sc cl Q 167 (111, [some (.ref 59), z1, some (.int v2), some (.int v3), some (.int s)], [.int (M_hasLeft v3 s mk.1)], (cW nw kp im ol sn sr tp (mW mk mg mt mc T)), 0, 0)
    refine stp hm 1 (brn hf (fun c2 hf => ?_) (fun c2 hf => ?_))
    · show sxWP sc cl Q 167 (124, [some (.ref 59), z1, some (.int v2), some (.int v3), some (.int s)], [], (cW nw kp im ol sn sr tp (mW mk mg mt mc T)), 0, 0)
      exact J124 _ _ hf
    · show sxWP sc cl Q 167 (114, [some (.ref 59), z1, some (.int v2), some (.int v3), some (.int s)], [], (cW nw kp im ol sn sr tp (mW mk mg mt mc T)), 0, 0)
      refine stp hm 4 (M_hasRight_ok hE rfl ?_)
      show sxWP sc cl Q 167 (121, [some (.ref 59), z1, some (.int v2), some (.int v3), some (.int s)], [.int (M_hasRight v3 s mk.1)], (cW nw kp im ol sn sr tp (mW mk mg mt mc T)), 0, 0)
      refine stp hm 1 (brn hf (fun c3 hf => ?_) (fun c3 hf => ?_))
      · show sxWP sc cl Q 167 (130, [some (.ref 59), z1, some (.int v2), some (.int v3), some (.int s)], [], (cW nw kp im ol sn sr tp (mW mk mg mt mc T)), 0, 0)
        obtain rfl := Option.some.inj hf
        exact hB _ rfl _
      · show sxWP sc cl Q 167 (124, [some (.ref 59), z1, some (.int v2), some (.int v3), some (.int s)], [], (cW nw kp im ol sn sr tp (mW mk mg mt mc T)), 0, 0)
        exact J124 _ _ hf
set_option maxRecDepth 10000 in
theorem M_writesWord_l62 {v2 : Int32}   (hE : cl = sxE sc (d + 3)) (hm : CallMono cl) : ∀ (n : Nat) (s : (Int32 × Int32 × Int32 × (Nat → Int32) × (Nat → Int32) × (Nat → Int32))) (r : (Int32 × Int32 × (Nat → Int32) × (Nat → Int32) × (Nat → Int32))), wh (M_writesWord_s62 v2 mk.1) n s = some r → (∀ (z0 z1 z2 z3 z4 : Option Value), sxWP sc cl Q 167 (176, [z0, z1, z2, z3, z4], [], (cW nw kp im ol sn sr tp (mW mk (mg.1, mg.2.1, r.1, r.2.1, r.2.2.1, r.2.2.2.1, r.2.2.2.2, mg.2.2.2.2.2.2.2.1, mg.2.2.2.2.2.2.2.2.1, mg.2.2.2.2.2.2.2.2.2.1, mg.2.2.2.2.2.2.2.2.2.2.1, mg.2.2.2.2.2.2.2.2.2.2.2.1, mg.2.2.2.2.2.2.2.2.2.2.2.2) mt mc T)), 0, 0)) → ∀ (z1 z4 : Option Value), sxWP sc cl Q 167 (62, [some (.ref 59), z1, some (.int v2), some (.int s.1), z4], [], (cW nw kp im ol sn sr tp (mW mk (mg.1, mg.2.1, s.2.1, s.2.2.1, s.2.2.2.1, s.2.2.2.2.1, s.2.2.2.2.2, mg.2.2.2.2.2.2.2.1, mg.2.2.2.2.2.2.2.2.1, mg.2.2.2.2.2.2.2.2.2.1, mg.2.2.2.2.2.2.2.2.2.2.1, mg.2.2.2.2.2.2.2.2.2.2.2.1, mg.2.2.2.2.2.2.2.2.2.2.2.2) mt mc T)), 0, 0) := by
  refine wh_run (A := fun (s : (Int32 × Int32 × Int32 × (Nat → Int32) × (Nat → Int32) × (Nat → Int32))) => ∀ (z1 z4 : Option Value), sxWP sc cl Q 167 (62, [some (.ref 59), z1, some (.int v2), some (.int s.1), z4], [], (cW nw kp im ol sn sr tp (mW mk (mg.1, mg.2.1, s.2.1, s.2.2.1, s.2.2.2.1, s.2.2.2.2.1, s.2.2.2.2.2, mg.2.2.2.2.2.2.2.1, mg.2.2.2.2.2.2.2.2.1, mg.2.2.2.2.2.2.2.2.2.1, mg.2.2.2.2.2.2.2.2.2.2.1, mg.2.2.2.2.2.2.2.2.2.2.2.1, mg.2.2.2.2.2.2.2.2.2.2.2.2) mt mc T)), 0, 0)) (B := fun (r : (Int32 × Int32 × (Nat → Int32) × (Nat → Int32) × (Nat → Int32))) => ∀ (z0 z1 z2 z3 z4 : Option Value), sxWP sc cl Q 167 (176, [z0, z1, z2, z3, z4], [], (cW nw kp im ol sn sr tp (mW mk (mg.1, mg.2.1, r.1, r.2.1, r.2.2.1, r.2.2.2.1, r.2.2.2.2, mg.2.2.2.2.2.2.2.1, mg.2.2.2.2.2.2.2.2.1, mg.2.2.2.2.2.2.2.2.2.1, mg.2.2.2.2.2.2.2.2.2.2.1, mg.2.2.2.2.2.2.2.2.2.2.2.1, mg.2.2.2.2.2.2.2.2.2.2.2.2) mt mc T)), 0, 0)) (fun s x hf hA hB => ?_)
  intro z1 z4
  have J74 : ∀ (v3 : Int32) (gle_j : Int32) (gsu_j : Int32) (gst_j : (Nat → Int32)) (ghe_j : (Nat → Int32)) (gow_j : (Nat → Int32)) (z1 : Option Value) (z4 : Option Value), M_writesWord_j74 v3 gle_j gsu_j gst_j ghe_j gow_j mk.1 = some x → sxWP sc cl Q 167 (74, [some (.ref 59), z1, some (.int v2), some (.int v3), z4], [], (cW nw kp im ol sn sr tp (mW mk (mg.1, mg.2.1, gle_j, gsu_j, gst_j, ghe_j, gow_j, mg.2.2.2.2.2.2.2.1, mg.2.2.2.2.2.2.2.2.1, mg.2.2.2.2.2.2.2.2.2.1, mg.2.2.2.2.2.2.2.2.2.2.1, mg.2.2.2.2.2.2.2.2.2.2.2.1, mg.2.2.2.2.2.2.2.2.2.2.2.2) mt mc T)), 0, 0) := by
    intro v3 gle_j gsu_j gst_j ghe_j gow_j z1 z4 hf
    unfold M_writesWord_j74 at hf
    obtain ⟨g1, hf⟩ := grd_e hf
    refine stp hm 5 (And.intro (gi_in g1) (And.intro (Or.inr rfl) (?_ : sxWP sc cl Q 167 (81, [some (.ref 59), z1, some (.int v2), some (.int v3), z4], [], (cW nw kp im ol sn sr tp (mW mk (mg.1, mg.2.1, gle_j, gsu_j, gst_j, ghe_j, upd gow_j v3.toNatClampNeg (1:Int32), mg.2.2.2.2.2.2.2.1, mg.2.2.2.2.2.2.2.2.1, mg.2.2.2.2.2.2.2.2.2.1, mg.2.2.2.2.2.2.2.2.2.2.1, mg.2.2.2.2.2.2.2.2.2.2.2.1, mg.2.2.2.2.2.2.2.2.2.2.2.2) mt mc T)), 0, 0))))
    obtain ⟨g2, hf⟩ := grd_e hf
    refine stp hm 6 (And.intro (gi_in g2) (?_ : sxWP sc cl Q 167 (91, [some (.ref 59), z1, some (.int v2), some (.int v3), z4], [], (cW nw kp im ol sn sr tp (mW mk (mg.1, mg.2.1, gle_j, gsu_j, gst_j, upd ghe_j v3.toNatClampNeg gsu_j, upd gow_j v3.toNatClampNeg (1:Int32), mg.2.2.2.2.2.2.2.1, mg.2.2.2.2.2.2.2.2.1, mg.2.2.2.2.2.2.2.2.2.1, mg.2.2.2.2.2.2.2.2.2.2.1, mg.2.2.2.2.2.2.2.2.2.2.2.1, mg.2.2.2.2.2.2.2.2.2.2.2.2) mt mc T)), 0, 0)))
    obtain ⟨w3, hw3, hf⟩ := bnd hf
    refine stp hm 2 (?_ : sxWP sc cl Q 167 (94, [some (.ref 59), z1, some (.int v2), some (.int v3), some (.int (0:Int32))], [], (cW nw kp im ol sn sr tp (mW mk (mg.1, mg.2.1, gle_j, gsu_j, gst_j, upd ghe_j v3.toNatClampNeg gsu_j, upd gow_j v3.toNatClampNeg (1:Int32), mg.2.2.2.2.2.2.2.1, mg.2.2.2.2.2.2.2.2.1, mg.2.2.2.2.2.2.2.2.2.1, mg.2.2.2.2.2.2.2.2.2.2.1, mg.2.2.2.2.2.2.2.2.2.2.2.1, mg.2.2.2.2.2.2.2.2.2.2.2.2) mt mc T)), 0, 0))
    refine M_writesWord_l94 hE hm _ _ _ hw3 ?_ _
    intro w3_z1
    show sxWP sc cl Q 167 (130, [some (.ref 59), w3_z1, some (.int v2), some (.int v3), some (.int w3)], [], (cW nw kp im ol sn sr tp (mW mk (mg.1, mg.2.1, gle_j, gsu_j, gst_j, upd ghe_j v3.toNatClampNeg gsu_j, upd gow_j v3.toNatClampNeg (1:Int32), mg.2.2.2.2.2.2.2.1, mg.2.2.2.2.2.2.2.2.1, mg.2.2.2.2.2.2.2.2.2.1, mg.2.2.2.2.2.2.2.2.2.2.1, mg.2.2.2.2.2.2.2.2.2.2.2.1, mg.2.2.2.2.2.2.2.2.2.2.2.2) mt mc T)), 0, 0)
    obtain ⟨g4, hf⟩ := grd_e hf
    refine stp hm 6 (And.intro (gi_in g4) (?_ : sxWP sc cl Q 167 (141, [some (.ref 59), w3_z1, some (.int v2), some (.int v3), some (.int w3)], [], (cW nw kp im ol sn sr tp (mW mk (mg.1, mg.2.1, gle_j, gsu_j, upd gst_j gle_j.toNatClampNeg w3, upd ghe_j v3.toNatClampNeg gsu_j, upd gow_j v3.toNatClampNeg (1:Int32), mg.2.2.2.2.2.2.2.1, mg.2.2.2.2.2.2.2.2.1, mg.2.2.2.2.2.2.2.2.2.1, mg.2.2.2.2.2.2.2.2.2.2.1, mg.2.2.2.2.2.2.2.2.2.2.2.1, mg.2.2.2.2.2.2.2.2.2.2.2.2) mt mc T)), 0, 0)))
    refine stp hm 12 (M_heightOf_ok hE rfl ?_)
    show sxWP sc cl Q 167 (162, [some (.ref 59), w3_z1, some (.int v2), some (.int v3), some (.int w3)], [.int (M_heightOf v3 w3), .int gsu_j, .ref 59], (cW nw kp im ol sn sr tp (mW mk (mg.1, mg.2.1, gle_j + (1:Int32), gsu_j, upd gst_j gle_j.toNatClampNeg w3, upd ghe_j v3.toNatClampNeg gsu_j, upd gow_j v3.toNatClampNeg (1:Int32), mg.2.2.2.2.2.2.2.1, mg.2.2.2.2.2.2.2.2.1, mg.2.2.2.2.2.2.2.2.2.1, mg.2.2.2.2.2.2.2.2.2.2.1, mg.2.2.2.2.2.2.2.2.2.2.2.1, mg.2.2.2.2.2.2.2.2.2.2.2.2) mt mc T)), 0, 0)
    refine stp hm 5 (M_onBy_ok hE rfl ?_)
    show sxWP sc cl Q 167 (172, [some (.ref 59), w3_z1, some (.int v2), some (.int v3), some (.int w3)], [.int (M_onBy v3 w3)], (cW nw kp im ol sn sr tp (mW mk (mg.1, mg.2.1, gle_j + (1:Int32), gsu_j + (M_heightOf v3 w3), upd gst_j gle_j.toNatClampNeg w3, upd ghe_j v3.toNatClampNeg gsu_j, upd gow_j v3.toNatClampNeg (1:Int32), mg.2.2.2.2.2.2.2.1, mg.2.2.2.2.2.2.2.2.1, mg.2.2.2.2.2.2.2.2.2.1, mg.2.2.2.2.2.2.2.2.2.2.1, mg.2.2.2.2.2.2.2.2.2.2.2.1, mg.2.2.2.2.2.2.2.2.2.2.2.2) mt mc T)), 0, 0)
    obtain rfl := Option.some.inj hf
    refine stp hm 2 (?_ : sxWP sc cl Q 167 (62, [some (.ref 59), w3_z1, some (.int v2), some (.int (M_onBy v3 w3)), some (.int w3)], [], (cW nw kp im ol sn sr tp (mW mk (mg.1, mg.2.1, gle_j + (1:Int32), gsu_j + (M_heightOf v3 w3), upd gst_j gle_j.toNatClampNeg w3, upd ghe_j v3.toNatClampNeg gsu_j, upd gow_j v3.toNatClampNeg (1:Int32), mg.2.2.2.2.2.2.2.1, mg.2.2.2.2.2.2.2.2.1, mg.2.2.2.2.2.2.2.2.2.1, mg.2.2.2.2.2.2.2.2.2.2.1, mg.2.2.2.2.2.2.2.2.2.2.2.1, mg.2.2.2.2.2.2.2.2.2.2.2.2) mt mc T)), 0, 0))
    exact hA _ rfl _ _
  unfold M_writesWord_s62 at hf
  refine stp hm 3 (br hf (fun c5 hf => ?_) (fun c5 hf => ?_))
  · show sxWP sc cl Q 167 (74, [some (.ref 59), z1, some (.int v2), some (.int s.1), z4], [], (cW nw kp im ol sn sr tp (mW mk (mg.1, mg.2.1, s.2.1, s.2.2.1, s.2.2.2.1, s.2.2.2.2.1, s.2.2.2.2.2, mg.2.2.2.2.2.2.2.1, mg.2.2.2.2.2.2.2.2.1, mg.2.2.2.2.2.2.2.2.2.1, mg.2.2.2.2.2.2.2.2.2.2.1, mg.2.2.2.2.2.2.2.2.2.2.2.1, mg.2.2.2.2.2.2.2.2.2.2.2.2) mt mc T)), 0, 0)
    exact J74 _ _ _ _ _ _ _ _ hf
  · show sxWP sc cl Q 167 (69, [some (.ref 59), z1, some (.int v2), some (.int s.1), z4], [], (cW nw kp im ol sn sr tp (mW mk (mg.1, mg.2.1, s.2.1, s.2.2.1, s.2.2.2.1, s.2.2.2.2.1, s.2.2.2.2.2, mg.2.2.2.2.2.2.2.1, mg.2.2.2.2.2.2.2.2.1, mg.2.2.2.2.2.2.2.2.2.1, mg.2.2.2.2.2.2.2.2.2.2.1, mg.2.2.2.2.2.2.2.2.2.2.2.1, mg.2.2.2.2.2.2.2.2.2.2.2.2) mt mc T)), 0, 0)
    refine stp hm 3 (br hf (fun c6 hf => ?_) (fun c6 hf => ?_))
    · show sxWP sc cl Q 167 (176, [some (.ref 59), z1, some (.int v2), some (.int s.1), z4], [], (cW nw kp im ol sn sr tp (mW mk (mg.1, mg.2.1, s.2.1, s.2.2.1, s.2.2.2.1, s.2.2.2.2.1, s.2.2.2.2.2, mg.2.2.2.2.2.2.2.1, mg.2.2.2.2.2.2.2.2.1, mg.2.2.2.2.2.2.2.2.2.1, mg.2.2.2.2.2.2.2.2.2.2.1, mg.2.2.2.2.2.2.2.2.2.2.2.1, mg.2.2.2.2.2.2.2.2.2.2.2.2) mt mc T)), 0, 0)
      obtain rfl := Option.some.inj hf
      exact hB _ rfl _ _ _ _ _
    · show sxWP sc cl Q 167 (74, [some (.ref 59), z1, some (.int v2), some (.int s.1), z4], [], (cW nw kp im ol sn sr tp (mW mk (mg.1, mg.2.1, s.2.1, s.2.2.1, s.2.2.2.1, s.2.2.2.2.1, s.2.2.2.2.2, mg.2.2.2.2.2.2.2.1, mg.2.2.2.2.2.2.2.2.1, mg.2.2.2.2.2.2.2.2.2.1, mg.2.2.2.2.2.2.2.2.2.2.1, mg.2.2.2.2.2.2.2.2.2.2.2.1, mg.2.2.2.2.2.2.2.2.2.2.2.2) mt mc T)), 0, 0)
      exact J74 _ _ _ _ _ _ _ _ hf
set_option maxRecDepth 10000 in
theorem M_writesWord_ok  {q : (Int32 × Int32 × (Nat → Int32) × (Nat → Int32) × (Nat → Int32))} (hc : call = sxE sc (d + 4)) (hf : M_writesWord mk.1 mg.2.2.2.2.1 mg.2.2.2.2.2.1 mg.2.2.2.2.2.2.1 = some q) (h : Q none (cW nw kp im ol sn sr tp (mW mk (mg.1, mg.2.1, q.1, q.2.1, q.2.2.1, q.2.2.2.1, q.2.2.2.2, mg.2.2.2.2.2.2.2.1, mg.2.2.2.2.2.2.2.2.1, mg.2.2.2.2.2.2.2.2.2.1, mg.2.2.2.2.2.2.2.2.2.2.1, mg.2.2.2.2.2.2.2.2.2.2.2.1, mg.2.2.2.2.2.2.2.2.2.2.2.2) mt mc T))) : call 167 [.ref 59] (cW nw kp im ol sn sr tp (mW mk mg mt mc T)) Q := by
  refine ent hc rfl (fun cl hE hm => ?_)
  unfold M_writesWord at hf
  obtain ⟨w1, hw1, hf⟩ := bnd hf
  refine stp hm 8 (?_ : sxWP sc cl Q 167 (12, [some (.ref 59), some (.int (0:Int32)), none, none, none], [], (cW nw kp im ol sn sr tp (mW mk (mg.1, mg.2.1, (0:Int32), (0:Int32), mg.2.2.2.2.1, mg.2.2.2.2.2.1, mg.2.2.2.2.2.2.1, mg.2.2.2.2.2.2.2.1, mg.2.2.2.2.2.2.2.2.1, mg.2.2.2.2.2.2.2.2.2.1, mg.2.2.2.2.2.2.2.2.2.2.1, mg.2.2.2.2.2.2.2.2.2.2.2.1, mg.2.2.2.2.2.2.2.2.2.2.2.2) mt mc T)), 0, 0))
  refine M_writesWord_l12 hE hm _ _ _ hw1 ?_ _ _ _
  intro w1_z1 w1_z2 w1_z3 w1_z4
  show sxWP sc cl Q 167 (31, [some (.ref 59), w1_z1, w1_z2, w1_z3, w1_z4], [], (cW nw kp im ol sn sr tp (mW mk (mg.1, mg.2.1, (0:Int32), (0:Int32), mg.2.2.2.2.1, mg.2.2.2.2.2.1, w1, mg.2.2.2.2.2.2.2.1, mg.2.2.2.2.2.2.2.2.1, mg.2.2.2.2.2.2.2.2.2.1, mg.2.2.2.2.2.2.2.2.2.2.1, mg.2.2.2.2.2.2.2.2.2.2.2.1, mg.2.2.2.2.2.2.2.2.2.2.2.2) mt mc T)), 0, 0)
  obtain ⟨w2, hw2, hf⟩ := bnd hf
  refine stp hm 2 (?_ : sxWP sc cl Q 167 (33, [some (.ref 59), some (.int (0:Int32)), w1_z2, w1_z3, w1_z4], [], (cW nw kp im ol sn sr tp (mW mk (mg.1, mg.2.1, (0:Int32), (0:Int32), mg.2.2.2.2.1, mg.2.2.2.2.2.1, w1, mg.2.2.2.2.2.2.2.1, mg.2.2.2.2.2.2.2.2.1, mg.2.2.2.2.2.2.2.2.2.1, mg.2.2.2.2.2.2.2.2.2.2.1, mg.2.2.2.2.2.2.2.2.2.2.2.1, mg.2.2.2.2.2.2.2.2.2.2.2.2) mt mc T)), 0, 0))
  refine M_writesWord_l33 hE hm _ _ _ hw2 ?_ _ _ _
  intro w2_z2 w2_z3 w2_z4
  show sxWP sc cl Q 167 (47, [some (.ref 59), some (.int w2), w2_z2, w2_z3, w2_z4], [], (cW nw kp im ol sn sr tp (mW mk (mg.1, mg.2.1, (0:Int32), (0:Int32), mg.2.2.2.2.1, mg.2.2.2.2.2.1, w1, mg.2.2.2.2.2.2.2.1, mg.2.2.2.2.2.2.2.2.1, mg.2.2.2.2.2.2.2.2.2.1, mg.2.2.2.2.2.2.2.2.2.2.1, mg.2.2.2.2.2.2.2.2.2.2.2.1, mg.2.2.2.2.2.2.2.2.2.2.2.2) mt mc T)), 0, 0)
  refine stp hm 4 (And.intro (by decide) (?_ : sxWP sc cl Q 167 (53, [some (.ref 59), some (.int w2), w2_z2, w2_z3, w2_z4], [.int (w2 / (6:Int32)), .int (7:Int32)], (cW nw kp im ol sn sr tp (mW mk (mg.1, mg.2.1, (0:Int32), (0:Int32), mg.2.2.2.2.1, mg.2.2.2.2.2.1, w1, mg.2.2.2.2.2.2.2.1, mg.2.2.2.2.2.2.2.2.1, mg.2.2.2.2.2.2.2.2.2.1, mg.2.2.2.2.2.2.2.2.2.2.1, mg.2.2.2.2.2.2.2.2.2.2.2.1, mg.2.2.2.2.2.2.2.2.2.2.2.2) mt mc T)), 0, 0)))
  refine stp hm 4 (And.intro (by decide) (?_ : sxWP sc cl Q 167 (58, [some (.ref 59), some (.int w2), w2_z2, w2_z3, w2_z4], [.int (w2 - w2 / (6:Int32) * (6:Int32)), .int ((7:Int32) * (w2 / (6:Int32)))], (cW nw kp im ol sn sr tp (mW mk (mg.1, mg.2.1, (0:Int32), (0:Int32), mg.2.2.2.2.1, mg.2.2.2.2.2.1, w1, mg.2.2.2.2.2.2.2.1, mg.2.2.2.2.2.2.2.2.1, mg.2.2.2.2.2.2.2.2.2.1, mg.2.2.2.2.2.2.2.2.2.2.1, mg.2.2.2.2.2.2.2.2.2.2.2.1, mg.2.2.2.2.2.2.2.2.2.2.2.2) mt mc T)), 0, 0)))
  obtain ⟨w3, hw3, hf⟩ := bnd hf
  refine stp hm 4 (?_ : sxWP sc cl Q 167 (62, [some (.ref 59), some (.int w2), some (.int (((7:Int32) * (w2 / (6:Int32))) + (w2 - w2 / (6:Int32) * (6:Int32)))), some (.int (((7:Int32) * (w2 / (6:Int32))) + (w2 - w2 / (6:Int32) * (6:Int32)))), w2_z4], [], (cW nw kp im ol sn sr tp (mW mk (mg.1, mg.2.1, (0:Int32), (0:Int32), mg.2.2.2.2.1, mg.2.2.2.2.2.1, w1, mg.2.2.2.2.2.2.2.1, mg.2.2.2.2.2.2.2.2.1, mg.2.2.2.2.2.2.2.2.2.1, mg.2.2.2.2.2.2.2.2.2.2.1, mg.2.2.2.2.2.2.2.2.2.2.2.1, mg.2.2.2.2.2.2.2.2.2.2.2.2) mt mc T)), 0, 0))
  refine M_writesWord_l62 hE hm _ _ _ hw3 ?_ _ _
  intro w3_z0 w3_z1 w3_z2 w3_z3 w3_z4
  show sxWP sc cl Q 167 (176, [w3_z0, w3_z1, w3_z2, w3_z3, w3_z4], [], (cW nw kp im ol sn sr tp (mW mk (mg.1, mg.2.1, w3.1, w3.2.1, w3.2.2.1, w3.2.2.2.1, w3.2.2.2.2, mg.2.2.2.2.2.2.2.1, mg.2.2.2.2.2.2.2.2.1, mg.2.2.2.2.2.2.2.2.2.1, mg.2.2.2.2.2.2.2.2.2.2.1, mg.2.2.2.2.2.2.2.2.2.2.2.1, mg.2.2.2.2.2.2.2.2.2.2.2.2) mt mc T)), 0, 0)
  obtain rfl := Option.some.inj hf
  refine stp hm 1 ?_
  exact h

def M_isOf (v1 : Int32) (mrg : Int64) : Int32 := if (M_hasAt ((v1 / (7:Int32)) - (1:Int32)) ((v1 - v1 / (7:Int32) * (7:Int32)) - (1:Int32)) mrg) = (0:Int32) then (if (M_hasAt ((v1 / (7:Int32)) - (1:Int32)) (v1 - v1 / (7:Int32) * (7:Int32)) mrg) = (0:Int32) then (if (M_hasAt (v1 / (7:Int32)) ((v1 - v1 / (7:Int32) * (7:Int32)) - (1:Int32)) mrg) = (0:Int32) then (if (M_hasAt (v1 / (7:Int32)) (v1 - v1 / (7:Int32) * (7:Int32)) mrg) = (0:Int32) then (0:Int32) else (1:Int32)) else (1:Int32)) else (1:Int32)) else (1:Int32)
set_option maxRecDepth 10000 in
theorem M_isOf_ok {v1 : Int32} {r : Int32} (hc : call = sxE sc (d + 3)) (hf : M_isOf v1 mk.1 = r) (h : Q (some (.int r)) (cW nw kp im ol sn sr tp (mW mk mg mt mc T))) : call 166 [.ref 59, .int v1] (cW nw kp im ol sn sr tp (mW mk mg mt mc T)) Q := by
  refine ent hc rfl (fun cl hE hm => ?_)
  unfold M_isOf at hf
  refine stp hm 3 (And.intro (by decide) (?_ : sxWP sc cl Q 166 (4, [some (.ref 59), some (.int v1), none, none], [.int (v1 / (7:Int32))], (cW nw kp im ol sn sr tp (mW mk mg mt mc T)), 0, 0)))
  refine stp hm 4 (And.intro (by decide) (?_ : sxWP sc cl Q 166 (9, [some (.ref 59), some (.int v1), some (.int (v1 / (7:Int32))), none], [.int (v1 - v1 / (7:Int32) * (7:Int32))], (cW nw kp im ol sn sr tp (mW mk mg mt mc T)), 0, 0)))
  refine stp hm 9 (M_hasAt_ok hE rfl ?_)
  show sxWP sc cl Q 166 (20, [some (.ref 59), some (.int v1), some (.int (v1 / (7:Int32))), some (.int (v1 - v1 / (7:Int32) * (7:Int32)))], [.int (M_hasAt ((v1 / (7:Int32)) - (1:Int32)) ((v1 - v1 / (7:Int32) * (7:Int32)) - (1:Int32)) mk.1)], (cW nw kp im ol sn sr tp (mW mk mg mt mc T)), 0, 0)
  have m1 : ∀ (m1_0 : Int32), m1_0 = (if (M_hasAt ((v1 / (7:Int32)) - (1:Int32)) ((v1 - v1 / (7:Int32) * (7:Int32)) - (1:Int32)) mk.1) = (0:Int32) then (if (M_hasAt ((v1 / (7:Int32)) - (1:Int32)) (v1 - v1 / (7:Int32) * (7:Int32)) mk.1) = (0:Int32) then (if (M_hasAt (v1 / (7:Int32)) ((v1 - v1 / (7:Int32) * (7:Int32)) - (1:Int32)) mk.1) = (0:Int32) then (if (M_hasAt (v1 / (7:Int32)) (v1 - v1 / (7:Int32) * (7:Int32)) mk.1) = (0:Int32) then (0:Int32) else (1:Int32)) else (1:Int32)) else (1:Int32)) else (1:Int32)) → sxWP sc cl Q 166 (59, [some (.ref 59), some (.int v1), some (.int (v1 / (7:Int32))), some (.int (v1 - v1 / (7:Int32) * (7:Int32)))], [.int m1_0], (cW nw kp im ol sn sr tp (mW mk mg mt mc T)), 0, 0) := by
    intro m1_0 em1_0
    subst em1_0
    subst hf
    refine stp hm 1 (And.intro (by (repeat' split) <;> first | exact Or.inl rfl | exact Or.inr rfl) ?_)
    exact h
  refine stp hm 1 (bsn (c := (M_hasAt ((v1 / (7:Int32)) - (1:Int32)) ((v1 - v1 / (7:Int32) * (7:Int32)) - (1:Int32)) mk.1) = (0:Int32)) (fun c2 => ?_) (fun c2 => ?_))
  · have c2 : ¬ (M_hasAt ((v1 / (7:Int32)) - (1:Int32)) ((v1 - v1 / (7:Int32) * (7:Int32)) - (1:Int32)) mk.1) = (0:Int32) := c2
    refine stp hm 2 (?_ : sxWP sc cl Q 166 (59, [some (.ref 59), some (.int v1), some (.int (v1 / (7:Int32))), some (.int (v1 - v1 / (7:Int32) * (7:Int32)))], [.int (1:Int32)], (cW nw kp im ol sn sr tp (mW mk mg mt mc T)), 0, 0))
    exact m1 _ (by rw [if_neg c2])
  · have c2 : (M_hasAt ((v1 / (7:Int32)) - (1:Int32)) ((v1 - v1 / (7:Int32) * (7:Int32)) - (1:Int32)) mk.1) = (0:Int32) := c2
    refine stp hm 6 (M_hasAt_ok hE rfl ?_)
    show sxWP sc cl Q 166 (31, [some (.ref 59), some (.int v1), some (.int (v1 / (7:Int32))), some (.int (v1 - v1 / (7:Int32) * (7:Int32)))], [.int (M_hasAt ((v1 / (7:Int32)) - (1:Int32)) (v1 - v1 / (7:Int32) * (7:Int32)) mk.1)], (cW nw kp im ol sn sr tp (mW mk mg mt mc T)), 0, 0)
    refine stp hm 1 (bsn (c := (M_hasAt ((v1 / (7:Int32)) - (1:Int32)) (v1 - v1 / (7:Int32) * (7:Int32)) mk.1) = (0:Int32)) (fun c3 => ?_) (fun c3 => ?_))
    · have c3 : ¬ (M_hasAt ((v1 / (7:Int32)) - (1:Int32)) (v1 - v1 / (7:Int32) * (7:Int32)) mk.1) = (0:Int32) := c3
      refine stp hm 2 (?_ : sxWP sc cl Q 166 (59, [some (.ref 59), some (.int v1), some (.int (v1 / (7:Int32))), some (.int (v1 - v1 / (7:Int32) * (7:Int32)))], [.int (1:Int32)], (cW nw kp im ol sn sr tp (mW mk mg mt mc T)), 0, 0))
      exact m1 _ (by rw [if_pos c2, if_neg c3])
    · have c3 : (M_hasAt ((v1 / (7:Int32)) - (1:Int32)) (v1 - v1 / (7:Int32) * (7:Int32)) mk.1) = (0:Int32) := c3
      refine stp hm 6 (M_hasAt_ok hE rfl ?_)
      show sxWP sc cl Q 166 (42, [some (.ref 59), some (.int v1), some (.int (v1 / (7:Int32))), some (.int (v1 - v1 / (7:Int32) * (7:Int32)))], [.int (M_hasAt (v1 / (7:Int32)) ((v1 - v1 / (7:Int32) * (7:Int32)) - (1:Int32)) mk.1)], (cW nw kp im ol sn sr tp (mW mk mg mt mc T)), 0, 0)
      refine stp hm 1 (bsn (c := (M_hasAt (v1 / (7:Int32)) ((v1 - v1 / (7:Int32) * (7:Int32)) - (1:Int32)) mk.1) = (0:Int32)) (fun c4 => ?_) (fun c4 => ?_))
      · have c4 : ¬ (M_hasAt (v1 / (7:Int32)) ((v1 - v1 / (7:Int32) * (7:Int32)) - (1:Int32)) mk.1) = (0:Int32) := c4
        refine stp hm 2 (?_ : sxWP sc cl Q 166 (59, [some (.ref 59), some (.int v1), some (.int (v1 / (7:Int32))), some (.int (v1 - v1 / (7:Int32) * (7:Int32)))], [.int (1:Int32)], (cW nw kp im ol sn sr tp (mW mk mg mt mc T)), 0, 0))
        exact m1 _ (by rw [if_pos c2, if_pos c3, if_neg c4])
      · have c4 : (M_hasAt (v1 / (7:Int32)) ((v1 - v1 / (7:Int32) * (7:Int32)) - (1:Int32)) mk.1) = (0:Int32) := c4
        refine stp hm 4 (M_hasAt_ok hE rfl ?_)
        show sxWP sc cl Q 166 (51, [some (.ref 59), some (.int v1), some (.int (v1 / (7:Int32))), some (.int (v1 - v1 / (7:Int32) * (7:Int32)))], [.int (M_hasAt (v1 / (7:Int32)) (v1 - v1 / (7:Int32) * (7:Int32)) mk.1)], (cW nw kp im ol sn sr tp (mW mk mg mt mc T)), 0, 0)
        refine stp hm 1 (bs (c := (M_hasAt (v1 / (7:Int32)) (v1 - v1 / (7:Int32) * (7:Int32)) mk.1) = (0:Int32)) (fun c5 => ?_) (fun c5 => ?_))
        · have c5 : (M_hasAt (v1 / (7:Int32)) (v1 - v1 / (7:Int32) * (7:Int32)) mk.1) = (0:Int32) := c5
          refine stp hm 1 (?_ : sxWP sc cl Q 166 (59, [some (.ref 59), some (.int v1), some (.int (v1 / (7:Int32))), some (.int (v1 - v1 / (7:Int32) * (7:Int32)))], [.int (0:Int32)], (cW nw kp im ol sn sr tp (mW mk mg mt mc T)), 0, 0))
          exact m1 _ (by rw [if_pos c2, if_pos c3, if_pos c4, if_pos c5])
        · have c5 : ¬ (M_hasAt (v1 / (7:Int32)) (v1 - v1 / (7:Int32) * (7:Int32)) mk.1) = (0:Int32) := c5
          refine stp hm 2 (?_ : sxWP sc cl Q 166 (59, [some (.ref 59), some (.int v1), some (.int (v1 / (7:Int32))), some (.int (v1 - v1 / (7:Int32) * (7:Int32)))], [.int (1:Int32)], (cW nw kp im ol sn sr tp (mW mk mg mt mc T)), 0, 0))
          exact m1 _ (by rw [if_pos c2, if_pos c3, if_pos c4, if_neg c5])
theorem M_isOf_z {v1 : Int32} {mrg : Int64} : M_isOf v1 mrg = 0 ∨ M_isOf v1 mrg = 1 := by
  unfold M_isOf
  (repeat' split) <;> first | exact Or.inl rfl | exact Or.inr rfl | exact M_hasAt_z

def M_isUp (v1 : Int32) (v2 : Int32) (mrg : Int64) : Int32 := if (M_onBy v1 v2) = (-1:Int32) then (0:Int32) else (if (M_heightOf v1 v2) = (1:Int32) then (if (M_hasLeft v1 v2 mrg) = (0:Int32) then (if (M_hasRight v1 v2 mrg) = (0:Int32) then (0:Int32) else (1:Int32)) else (1:Int32)) else (0:Int32))
set_option maxRecDepth 10000 in
theorem M_isUp_ok {v1 : Int32} {v2 : Int32} {r : Int32} (hc : call = sxE sc (d + 4)) (hf : M_isUp v1 v2 mk.1 = r) (h : Q (some (.int r)) (cW nw kp im ol sn sr tp (mW mk mg mt mc T))) : call 165 [.ref 59, .int v1, .int v2] (cW nw kp im ol sn sr tp (mW mk mg mt mc T)) Q := by
  refine ent hc rfl (fun cl hE hm => ?_)
  unfold M_isUp at hf
  refine stp hm 3 (M_onBy_ok hE rfl ?_)
  show sxWP sc cl Q 165 (5, [some (.ref 59), some (.int v1), some (.int v2)], [.int (M_onBy v1 v2)], (cW nw kp im ol sn sr tp (mW mk mg mt mc T)), 0, 0)
  have m1 : ∀ (m1_0 : Int32), m1_0 = (if (M_onBy v1 v2) = (-1:Int32) then (0:Int32) else (if (M_heightOf v1 v2) = (1:Int32) then (if (M_hasLeft v1 v2 mk.1) = (0:Int32) then (if (M_hasRight v1 v2 mk.1) = (0:Int32) then (0:Int32) else (1:Int32)) else (1:Int32)) else (0:Int32))) → sxWP sc cl Q 165 (41, [some (.ref 59), some (.int v1), some (.int v2)], [.int m1_0], (cW nw kp im ol sn sr tp (mW mk mg mt mc T)), 0, 0) := by
    intro m1_0 em1_0
    subst em1_0
    subst hf
    refine stp hm 1 (And.intro (by (repeat' split) <;> first | exact Or.inl rfl | exact Or.inr rfl) ?_)
    exact h
  refine stp hm 2 (bs (c := (M_onBy v1 v2) = (-1:Int32)) (fun c2 => ?_) (fun c2 => ?_))
  · have c2 : (M_onBy v1 v2) = (-1:Int32) := c2
    refine stp hm 1 (?_ : sxWP sc cl Q 165 (41, [some (.ref 59), some (.int v1), some (.int v2)], [.int (0:Int32)], (cW nw kp im ol sn sr tp (mW mk mg mt mc T)), 0, 0))
    exact m1 _ (by rw [if_pos c2])
  · have c2 : ¬ (M_onBy v1 v2) = (-1:Int32) := c2
    refine stp hm 3 (M_heightOf_ok hE rfl ?_)
    show sxWP sc cl Q 165 (14, [some (.ref 59), some (.int v1), some (.int v2)], [.int (M_heightOf v1 v2)], (cW nw kp im ol sn sr tp (mW mk mg mt mc T)), 0, 0)
    refine stp hm 2 (bsn (c := (M_heightOf v1 v2) = (1:Int32)) (fun c3 => ?_) (fun c3 => ?_))
    · have c3 : ¬ (M_heightOf v1 v2) = (1:Int32) := c3
      refine stp hm 1 (?_ : sxWP sc cl Q 165 (41, [some (.ref 59), some (.int v1), some (.int v2)], [.int (0:Int32)], (cW nw kp im ol sn sr tp (mW mk mg mt mc T)), 0, 0))
      exact m1 _ (by rw [if_neg c2, if_neg c3])
    · have c3 : (M_heightOf v1 v2) = (1:Int32) := c3
      refine stp hm 4 (M_hasLeft_ok hE rfl ?_)
      show sxWP sc cl Q 165 (24, [some (.ref 59), some (.int v1), some (.int v2)], [.int (M_hasLeft v1 v2 mk.1)], (cW nw kp im ol sn sr tp (mW mk mg mt mc T)), 0, 0)
      refine stp hm 1 (bsn (c := (M_hasLeft v1 v2 mk.1) = (0:Int32)) (fun c4 => ?_) (fun c4 => ?_))
      · have c4 : ¬ (M_hasLeft v1 v2 mk.1) = (0:Int32) := c4
        refine stp hm 2 (?_ : sxWP sc cl Q 165 (41, [some (.ref 59), some (.int v1), some (.int v2)], [.int (1:Int32)], (cW nw kp im ol sn sr tp (mW mk mg mt mc T)), 0, 0))
        exact m1 _ (by rw [if_neg c2, if_pos c3, if_neg c4])
      · have c4 : (M_hasLeft v1 v2 mk.1) = (0:Int32) := c4
        refine stp hm 4 (M_hasRight_ok hE rfl ?_)
        show sxWP sc cl Q 165 (33, [some (.ref 59), some (.int v1), some (.int v2)], [.int (M_hasRight v1 v2 mk.1)], (cW nw kp im ol sn sr tp (mW mk mg mt mc T)), 0, 0)
        refine stp hm 1 (bs (c := (M_hasRight v1 v2 mk.1) = (0:Int32)) (fun c5 => ?_) (fun c5 => ?_))
        · have c5 : (M_hasRight v1 v2 mk.1) = (0:Int32) := c5
          refine stp hm 1 (?_ : sxWP sc cl Q 165 (41, [some (.ref 59), some (.int v1), some (.int v2)], [.int (0:Int32)], (cW nw kp im ol sn sr tp (mW mk mg mt mc T)), 0, 0))
          exact m1 _ (by rw [if_neg c2, if_pos c3, if_pos c4, if_pos c5])
        · have c5 : ¬ (M_hasRight v1 v2 mk.1) = (0:Int32) := c5
          refine stp hm 2 (?_ : sxWP sc cl Q 165 (41, [some (.ref 59), some (.int v1), some (.int v2)], [.int (1:Int32)], (cW nw kp im ol sn sr tp (mW mk mg mt mc T)), 0, 0))
          exact m1 _ (by rw [if_neg c2, if_pos c3, if_pos c4, if_neg c5])
theorem M_isUp_z {v1 : Int32} {v2 : Int32} {mrg : Int64} : M_isUp v1 v2 mrg = 0 ∨ M_isUp v1 v2 mrg = 1 := by
  unfold M_isUp
  (repeat' split) <;> first | exact Or.inl rfl | exact Or.inr rfl | exact M_hasLeft_z | exact M_hasRight_z

def M_goesFrom_s7  (v2 : Int32) (s : (Int32 × (Nat → Int32))) : Option ((Int32 × (Nat → Int32)) ⊕ (Nat → Int32)) := if (49:Int32) ≤ s.1 then (some (Sum.inr s.2)) else (grd (gi (v2 + s.1) 2401) (some (Sum.inl (s.1 + (1:Int32), upd s.2 (v2 + s.1).toNatClampNeg (-1:Int32)))))
def M_goesFrom_j152  (v3 : Int32) (v6 : Int32) (gfa_j : (Nat → Int32)) (gqu_j : (Nat → Int32)) : Option ((Int32 × Int32 × (Nat → Int32) × (Nat → Int32)) ⊕ (Int32 × (Nat → Int32) × (Nat → Int32))) := some (Sum.inl (v3, v6 + (1:Int32), gfa_j, gqu_j))
def M_goesFrom_s76  (v2 : Int32) (v5 : Int32) (mrg : Int64) (s : (Int32 × Int32 × (Nat → Int32) × (Nat → Int32))) : Option ((Int32 × Int32 × (Nat → Int32) × (Nat → Int32)) ⊕ (Int32 × (Nat → Int32) × (Nat → Int32))) := if (4:Int32) ≤ s.2.1 then (some (Sum.inr (s.1, s.2.2.1, s.2.2.2))) else (if (M_isUp v5 s.2.1 mrg) = (0:Int32) then (M_goesFrom_j152 s.1 s.2.1 s.2.2.1 s.2.2.2) else (grd (gi (v2 + (M_onBy v5 s.2.1)) 2401) (if (s.2.2.1 (v2 + (M_onBy v5 s.2.1)).toNatClampNeg) = (-1:Int32) then (grd (gi (v2 + v5) 2401) (grd (gi (v2 + (M_onBy v5 s.2.1)) 2401) (grd (gi s.1 49) (M_goesFrom_j152 (s.1 + (1:Int32)) s.2.1 (upd s.2.2.1 (v2 + (M_onBy v5 s.2.1)).toNatClampNeg ((s.2.2.1 (v2 + v5).toNatClampNeg) + (1:Int32))) (upd s.2.2.2 s.1.toNatClampNeg (M_onBy v5 s.2.1)))))) else (M_goesFrom_j152 s.1 s.2.1 s.2.2.1 s.2.2.2))))
def M_goesFrom_s58  (v2 : Int32) (mrg : Int64) (s : (Int32 × Int32 × (Nat → Int32) × (Nat → Int32))) : Option ((Int32 × Int32 × (Nat → Int32) × (Nat → Int32)) ⊕ ((Nat → Int32) × (Nat → Int32))) := if s.1 ≤ s.2.1 then (some (Sum.inr (s.2.2.1, s.2.2.2))) else (grd (gi s.2.1 49) (Option.bind (wh (M_goesFrom_s76 v2 (s.2.2.2 s.2.1.toNatClampNeg) mrg) FU (s.1, (0:Int32), s.2.2.1, s.2.2.2)) (fun w3 => some (Sum.inl (w3.1, s.2.1 + (1:Int32), w3.2.1, w3.2.2)))))
def M_goesFrom (v1 : Int32) (mrg : Int64) (gfa : (Nat → Int32)) (gqu : (Nat → Int32)) : Option ((Nat → Int32) × (Nat → Int32)) := Option.bind (wh (M_goesFrom_s7 ((49:Int32) * v1)) FU ((0:Int32), gfa)) (fun w1 => if (M_isOf v1 mrg) = (0:Int32) then (some (w1, gqu)) else (grd (gi (((49:Int32) * v1) + v1) 2401) (grd (gi (0:Int32) 49) (Option.bind (wh (M_goesFrom_s58 ((49:Int32) * v1) mrg) FU ((1:Int32), (0:Int32), upd w1 (((49:Int32) * v1) + v1).toNatClampNeg (0:Int32), upd gqu (0:Int32).toNatClampNeg v1)) (fun w5 => some (w5.1, w5.2))))))
set_option maxRecDepth 10000 in
theorem M_goesFrom_l7 {v1 : Int32} {v2 : Int32}   (hE : cl = sxE sc (d + 4)) (hm : CallMono cl) : ∀ (n : Nat) (s : (Int32 × (Nat → Int32))) (r : (Nat → Int32)), wh (M_goesFrom_s7 v2) n s = some r → (∀ (z3 z4 z5 z6 z7 : Option Value), sxWP sc cl Q 168 (28, [some (.ref 59), some (.int v1), some (.int v2), z3, z4, z5, z6, z7], [], (cW nw kp im ol sn sr tp (mW mk (mg.1, mg.2.1, mg.2.2.1, mg.2.2.2.1, mg.2.2.2.2.1, mg.2.2.2.2.2.1, mg.2.2.2.2.2.2.1, r, mg.2.2.2.2.2.2.2.2.1, mg.2.2.2.2.2.2.2.2.2.1, mg.2.2.2.2.2.2.2.2.2.2.1, mg.2.2.2.2.2.2.2.2.2.2.2.1, mg.2.2.2.2.2.2.2.2.2.2.2.2) mt mc T)), 0, 0)) → ∀ (z4 z5 z6 z7 : Option Value), sxWP sc cl Q 168 (7, [some (.ref 59), some (.int v1), some (.int v2), some (.int s.1), z4, z5, z6, z7], [], (cW nw kp im ol sn sr tp (mW mk (mg.1, mg.2.1, mg.2.2.1, mg.2.2.2.1, mg.2.2.2.2.1, mg.2.2.2.2.2.1, mg.2.2.2.2.2.2.1, s.2, mg.2.2.2.2.2.2.2.2.1, mg.2.2.2.2.2.2.2.2.2.1, mg.2.2.2.2.2.2.2.2.2.2.1, mg.2.2.2.2.2.2.2.2.2.2.2.1, mg.2.2.2.2.2.2.2.2.2.2.2.2) mt mc T)), 0, 0) := by
  refine wh_run (A := fun (s : (Int32 × (Nat → Int32))) => ∀ (z4 z5 z6 z7 : Option Value), sxWP sc cl Q 168 (7, [some (.ref 59), some (.int v1), some (.int v2), some (.int s.1), z4, z5, z6, z7], [], (cW nw kp im ol sn sr tp (mW mk (mg.1, mg.2.1, mg.2.2.1, mg.2.2.2.1, mg.2.2.2.2.1, mg.2.2.2.2.2.1, mg.2.2.2.2.2.2.1, s.2, mg.2.2.2.2.2.2.2.2.1, mg.2.2.2.2.2.2.2.2.2.1, mg.2.2.2.2.2.2.2.2.2.2.1, mg.2.2.2.2.2.2.2.2.2.2.2.1, mg.2.2.2.2.2.2.2.2.2.2.2.2) mt mc T)), 0, 0)) (B := fun (r : (Nat → Int32)) => ∀ (z3 z4 z5 z6 z7 : Option Value), sxWP sc cl Q 168 (28, [some (.ref 59), some (.int v1), some (.int v2), z3, z4, z5, z6, z7], [], (cW nw kp im ol sn sr tp (mW mk (mg.1, mg.2.1, mg.2.2.1, mg.2.2.2.1, mg.2.2.2.2.1, mg.2.2.2.2.2.1, mg.2.2.2.2.2.2.1, r, mg.2.2.2.2.2.2.2.2.1, mg.2.2.2.2.2.2.2.2.2.1, mg.2.2.2.2.2.2.2.2.2.2.1, mg.2.2.2.2.2.2.2.2.2.2.2.1, mg.2.2.2.2.2.2.2.2.2.2.2.2) mt mc T)), 0, 0)) (fun s x hf hA hB => ?_)
  intro z4 z5 z6 z7
  unfold M_goesFrom_s7 at hf
  refine stp hm 3 (br hf (fun c1 hf => ?_) (fun c1 hf => ?_))
  · show sxWP sc cl Q 168 (28, [some (.ref 59), some (.int v1), some (.int v2), some (.int s.1), z4, z5, z6, z7], [], (cW nw kp im ol sn sr tp (mW mk (mg.1, mg.2.1, mg.2.2.1, mg.2.2.2.1, mg.2.2.2.2.1, mg.2.2.2.2.2.1, mg.2.2.2.2.2.2.1, s.2, mg.2.2.2.2.2.2.2.2.1, mg.2.2.2.2.2.2.2.2.2.1, mg.2.2.2.2.2.2.2.2.2.2.1, mg.2.2.2.2.2.2.2.2.2.2.2.1, mg.2.2.2.2.2.2.2.2.2.2.2.2) mt mc T)), 0, 0)
    obtain rfl := Option.some.inj hf
    exact hB _ rfl _ _ _ _ _
  · show sxWP sc cl Q 168 (13, [some (.ref 59), some (.int v1), some (.int v2), some (.int s.1), z4, z5, z6, z7], [], (cW nw kp im ol sn sr tp (mW mk (mg.1, mg.2.1, mg.2.2.1, mg.2.2.2.1, mg.2.2.2.2.1, mg.2.2.2.2.2.1, mg.2.2.2.2.2.2.1, s.2, mg.2.2.2.2.2.2.2.2.1, mg.2.2.2.2.2.2.2.2.2.1, mg.2.2.2.2.2.2.2.2.2.2.1, mg.2.2.2.2.2.2.2.2.2.2.2.1, mg.2.2.2.2.2.2.2.2.2.2.2.2) mt mc T)), 0, 0)
    obtain ⟨g2, hf⟩ := grd_e hf
    refine stp hm 7 (And.intro (gi_in g2) (?_ : sxWP sc cl Q 168 (22, [some (.ref 59), some (.int v1), some (.int v2), some (.int s.1), z4, z5, z6, z7], [], (cW nw kp im ol sn sr tp (mW mk (mg.1, mg.2.1, mg.2.2.1, mg.2.2.2.1, mg.2.2.2.2.1, mg.2.2.2.2.2.1, mg.2.2.2.2.2.2.1, upd s.2 (v2 + s.1).toNatClampNeg (-1:Int32), mg.2.2.2.2.2.2.2.2.1, mg.2.2.2.2.2.2.2.2.2.1, mg.2.2.2.2.2.2.2.2.2.2.1, mg.2.2.2.2.2.2.2.2.2.2.2.1, mg.2.2.2.2.2.2.2.2.2.2.2.2) mt mc T)), 0, 0)))
    obtain rfl := Option.some.inj hf
    refine stp hm 2 (?_ : sxWP sc cl Q 168 (7, [some (.ref 59), some (.int v1), some (.int v2), some (.int (s.1 + (1:Int32))), z4, z5, z6, z7], [], (cW nw kp im ol sn sr tp (mW mk (mg.1, mg.2.1, mg.2.2.1, mg.2.2.2.1, mg.2.2.2.2.1, mg.2.2.2.2.2.1, mg.2.2.2.2.2.2.1, upd s.2 (v2 + s.1).toNatClampNeg (-1:Int32), mg.2.2.2.2.2.2.2.2.1, mg.2.2.2.2.2.2.2.2.2.1, mg.2.2.2.2.2.2.2.2.2.2.1, mg.2.2.2.2.2.2.2.2.2.2.2.1, mg.2.2.2.2.2.2.2.2.2.2.2.2) mt mc T)), 0, 0))
    exact hA _ rfl _ _ _ _
set_option maxRecDepth 10000 in
theorem M_goesFrom_l76 {v2 : Int32} {v4 : Int32} {v5 : Int32}   (hE : cl = sxE sc (d + 4)) (hm : CallMono cl) : ∀ (n : Nat) (s : (Int32 × Int32 × (Nat → Int32) × (Nat → Int32))) (r : (Int32 × (Nat → Int32) × (Nat → Int32))), wh (M_goesFrom_s76 v2 v5 mk.1) n s = some r → (∀ (z1 z5 z6 z7 : Option Value), sxWP sc cl Q 168 (158, [some (.ref 59), z1, some (.int v2), some (.int r.1), some (.int v4), z5, z6, z7], [], (cW nw kp im ol sn sr tp (mW mk (mg.1, mg.2.1, mg.2.2.1, mg.2.2.2.1, mg.2.2.2.2.1, mg.2.2.2.2.2.1, mg.2.2.2.2.2.2.1, r.2.1, r.2.2, mg.2.2.2.2.2.2.2.2.2.1, mg.2.2.2.2.2.2.2.2.2.2.1, mg.2.2.2.2.2.2.2.2.2.2.2.1, mg.2.2.2.2.2.2.2.2.2.2.2.2) mt mc T)), 0, 0)) → ∀ (z1 z7 : Option Value), sxWP sc cl Q 168 (76, [some (.ref 59), z1, some (.int v2), some (.int s.1), some (.int v4), some (.int v5), some (.int s.2.1), z7], [], (cW nw kp im ol sn sr tp (mW mk (mg.1, mg.2.1, mg.2.2.1, mg.2.2.2.1, mg.2.2.2.2.1, mg.2.2.2.2.2.1, mg.2.2.2.2.2.2.1, s.2.2.1, s.2.2.2, mg.2.2.2.2.2.2.2.2.2.1, mg.2.2.2.2.2.2.2.2.2.2.1, mg.2.2.2.2.2.2.2.2.2.2.2.1, mg.2.2.2.2.2.2.2.2.2.2.2.2) mt mc T)), 0, 0) := by
  refine wh_run (A := fun (s : (Int32 × Int32 × (Nat → Int32) × (Nat → Int32))) => ∀ (z1 z7 : Option Value), sxWP sc cl Q 168 (76, [some (.ref 59), z1, some (.int v2), some (.int s.1), some (.int v4), some (.int v5), some (.int s.2.1), z7], [], (cW nw kp im ol sn sr tp (mW mk (mg.1, mg.2.1, mg.2.2.1, mg.2.2.2.1, mg.2.2.2.2.1, mg.2.2.2.2.2.1, mg.2.2.2.2.2.2.1, s.2.2.1, s.2.2.2, mg.2.2.2.2.2.2.2.2.2.1, mg.2.2.2.2.2.2.2.2.2.2.1, mg.2.2.2.2.2.2.2.2.2.2.2.1, mg.2.2.2.2.2.2.2.2.2.2.2.2) mt mc T)), 0, 0)) (B := fun (r : (Int32 × (Nat → Int32) × (Nat → Int32))) => ∀ (z1 z5 z6 z7 : Option Value), sxWP sc cl Q 168 (158, [some (.ref 59), z1, some (.int v2), some (.int r.1), some (.int v4), z5, z6, z7], [], (cW nw kp im ol sn sr tp (mW mk (mg.1, mg.2.1, mg.2.2.1, mg.2.2.2.1, mg.2.2.2.2.1, mg.2.2.2.2.2.1, mg.2.2.2.2.2.2.1, r.2.1, r.2.2, mg.2.2.2.2.2.2.2.2.2.1, mg.2.2.2.2.2.2.2.2.2.2.1, mg.2.2.2.2.2.2.2.2.2.2.2.1, mg.2.2.2.2.2.2.2.2.2.2.2.2) mt mc T)), 0, 0)) (fun s x hf hA hB => ?_)
  intro z1 z7
  have J152 : ∀ (v3 : Int32) (v6 : Int32) (gfa_j : (Nat → Int32)) (gqu_j : (Nat → Int32)) (z1 : Option Value) (z7 : Option Value), M_goesFrom_j152 v3 v6 gfa_j gqu_j = some x → sxWP sc cl Q 168 (152, [some (.ref 59), z1, some (.int v2), some (.int v3), some (.int v4), some (.int v5), some (.int v6), z7], [], (cW nw kp im ol sn sr tp (mW mk (mg.1, mg.2.1, mg.2.2.1, mg.2.2.2.1, mg.2.2.2.2.1, mg.2.2.2.2.2.1, mg.2.2.2.2.2.2.1, gfa_j, gqu_j, mg.2.2.2.2.2.2.2.2.2.1, mg.2.2.2.2.2.2.2.2.2.2.1, mg.2.2.2.2.2.2.2.2.2.2.2.1, mg.2.2.2.2.2.2.2.2.2.2.2.2) mt mc T)), 0, 0) := by
    intro v3 v6 gfa_j gqu_j z1 z7 hf
    unfold M_goesFrom_j152 at hf
    obtain rfl := Option.some.inj hf
    refine stp hm 2 (?_ : sxWP sc cl Q 168 (76, [some (.ref 59), z1, some (.int v2), some (.int v3), some (.int v4), some (.int v5), some (.int (v6 + (1:Int32))), z7], [], (cW nw kp im ol sn sr tp (mW mk (mg.1, mg.2.1, mg.2.2.1, mg.2.2.2.1, mg.2.2.2.2.1, mg.2.2.2.2.2.1, mg.2.2.2.2.2.2.1, gfa_j, gqu_j, mg.2.2.2.2.2.2.2.2.2.1, mg.2.2.2.2.2.2.2.2.2.2.1, mg.2.2.2.2.2.2.2.2.2.2.2.1, mg.2.2.2.2.2.2.2.2.2.2.2.2) mt mc T)), 0, 0))
    exact hA _ rfl _ _
  unfold M_goesFrom_s76 at hf
  refine stp hm 3 (br hf (fun c1 hf => ?_) (fun c1 hf => ?_))
  · show sxWP sc cl Q 168 (158, [some (.ref 59), z1, some (.int v2), some (.int s.1), some (.int v4), some (.int v5), some (.int s.2.1), z7], [], (cW nw kp im ol sn sr tp (mW mk (mg.1, mg.2.1, mg.2.2.1, mg.2.2.2.1, mg.2.2.2.2.1, mg.2.2.2.2.2.1, mg.2.2.2.2.2.2.1, s.2.2.1, s.2.2.2, mg.2.2.2.2.2.2.2.2.2.1, mg.2.2.2.2.2.2.2.2.2.2.1, mg.2.2.2.2.2.2.2.2.2.2.2.1, mg.2.2.2.2.2.2.2.2.2.2.2.2) mt mc T)), 0, 0)
    obtain rfl := Option.some.inj hf
    exact hB _ rfl _ _ _ _
  · show sxWP sc cl Q 168 (82, [some (.ref 59), z1, some (.int v2), some (.int s.1), some (.int v4), some (.int v5), some (.int s.2.1), z7], [], (cW nw kp im ol sn sr tp (mW mk (mg.1, mg.2.1, mg.2.2.1, mg.2.2.2.1, mg.2.2.2.2.1, mg.2.2.2.2.2.1, mg.2.2.2.2.2.2.1, s.2.2.1, s.2.2.2, mg.2.2.2.2.2.2.2.2.2.1, mg.2.2.2.2.2.2.2.2.2.2.1, mg.2.2.2.2.2.2.2.2.2.2.2.1, mg.2.2.2.2.2.2.2.2.2.2.2.2) mt mc T)), 0, 0)
    refine stp hm 4 (M_isUp_ok hE rfl ?_)
    show sxWP sc cl Q 168 (90, [some (.ref 59), z1, some (.int v2), some (.int s.1), some (.int v4), some (.int v5), some (.int s.2.1), z7], [.int (M_isUp v5 s.2.1 mk.1)], (cW nw kp im ol sn sr tp (mW mk (mg.1, mg.2.1, mg.2.2.1, mg.2.2.2.1, mg.2.2.2.2.1, mg.2.2.2.2.2.1, mg.2.2.2.2.2.2.1, s.2.2.1, s.2.2.2, mg.2.2.2.2.2.2.2.2.2.1, mg.2.2.2.2.2.2.2.2.2.2.1, mg.2.2.2.2.2.2.2.2.2.2.2.1, mg.2.2.2.2.2.2.2.2.2.2.2.2) mt mc T)), 0, 0)
    refine stp hm 1 (brn hf (fun c2 hf => ?_) (fun c2 hf => ?_))
    · show sxWP sc cl Q 168 (96, [some (.ref 59), z1, some (.int v2), some (.int s.1), some (.int v4), some (.int v5), some (.int s.2.1), z7], [], (cW nw kp im ol sn sr tp (mW mk (mg.1, mg.2.1, mg.2.2.1, mg.2.2.2.1, mg.2.2.2.2.1, mg.2.2.2.2.2.1, mg.2.2.2.2.2.2.1, s.2.2.1, s.2.2.2, mg.2.2.2.2.2.2.2.2.2.1, mg.2.2.2.2.2.2.2.2.2.2.1, mg.2.2.2.2.2.2.2.2.2.2.2.1, mg.2.2.2.2.2.2.2.2.2.2.2.2) mt mc T)), 0, 0)
      refine stp hm 3 (M_onBy_ok hE rfl ?_)
      show sxWP sc cl Q 168 (103, [some (.ref 59), z1, some (.int v2), some (.int s.1), some (.int v4), some (.int v5), some (.int s.2.1), z7], [.int (M_onBy v5 s.2.1)], (cW nw kp im ol sn sr tp (mW mk (mg.1, mg.2.1, mg.2.2.1, mg.2.2.2.1, mg.2.2.2.2.1, mg.2.2.2.2.2.1, mg.2.2.2.2.2.2.1, s.2.2.1, s.2.2.2, mg.2.2.2.2.2.2.2.2.2.1, mg.2.2.2.2.2.2.2.2.2.2.1, mg.2.2.2.2.2.2.2.2.2.2.2.1, mg.2.2.2.2.2.2.2.2.2.2.2.2) mt mc T)), 0, 0)
      obtain ⟨g3, hf⟩ := grd_e hf
      refine stp hm 7 (And.intro (gi_in g3) (?_ : sxWP sc cl Q 168 (114, [some (.ref 59), z1, some (.int v2), some (.int s.1), some (.int v4), some (.int v5), some (.int s.2.1), some (.int (M_onBy v5 s.2.1))], [.int (s.2.2.1 (v2 + (M_onBy v5 s.2.1)).toNatClampNeg)], (cW nw kp im ol sn sr tp (mW mk (mg.1, mg.2.1, mg.2.2.1, mg.2.2.2.1, mg.2.2.2.2.1, mg.2.2.2.2.2.1, mg.2.2.2.2.2.2.1, s.2.2.1, s.2.2.2, mg.2.2.2.2.2.2.2.2.2.1, mg.2.2.2.2.2.2.2.2.2.2.1, mg.2.2.2.2.2.2.2.2.2.2.2.1, mg.2.2.2.2.2.2.2.2.2.2.2.2) mt mc T)), 0, 0)))
      refine stp hm 2 (br hf (fun c4 hf => ?_) (fun c4 hf => ?_))
      · show sxWP sc cl Q 168 (121, [some (.ref 59), z1, some (.int v2), some (.int s.1), some (.int v4), some (.int v5), some (.int s.2.1), some (.int (M_onBy v5 s.2.1))], [], (cW nw kp im ol sn sr tp (mW mk (mg.1, mg.2.1, mg.2.2.1, mg.2.2.2.1, mg.2.2.2.2.1, mg.2.2.2.2.2.1, mg.2.2.2.2.2.2.1, s.2.2.1, s.2.2.2, mg.2.2.2.2.2.2.2.2.2.1, mg.2.2.2.2.2.2.2.2.2.2.1, mg.2.2.2.2.2.2.2.2.2.2.2.1, mg.2.2.2.2.2.2.2.2.2.2.2.2) mt mc T)), 0, 0)
        obtain ⟨g5, hf⟩ := grd_e hf
        refine stp hm 11 (And.intro (gi_in g5) (?_ : sxWP sc cl Q 168 (138, [some (.ref 59), z1, some (.int v2), some (.int s.1), some (.int v4), some (.int v5), some (.int s.2.1), some (.int (M_onBy v5 s.2.1))], [.int (s.2.2.1 (v2 + v5).toNatClampNeg), .int (v2 + (M_onBy v5 s.2.1)), .ref 71], (cW nw kp im ol sn sr tp (mW mk (mg.1, mg.2.1, mg.2.2.1, mg.2.2.2.1, mg.2.2.2.2.1, mg.2.2.2.2.2.1, mg.2.2.2.2.2.2.1, s.2.2.1, s.2.2.2, mg.2.2.2.2.2.2.2.2.2.1, mg.2.2.2.2.2.2.2.2.2.2.1, mg.2.2.2.2.2.2.2.2.2.2.2.1, mg.2.2.2.2.2.2.2.2.2.2.2.2) mt mc T)), 0, 0)))
        obtain ⟨g6, hf⟩ := grd_e hf
        refine stp hm 3 (And.intro (gi_in g6) (?_ : sxWP sc cl Q 168 (141, [some (.ref 59), z1, some (.int v2), some (.int s.1), some (.int v4), some (.int v5), some (.int s.2.1), some (.int (M_onBy v5 s.2.1))], [], (cW nw kp im ol sn sr tp (mW mk (mg.1, mg.2.1, mg.2.2.1, mg.2.2.2.1, mg.2.2.2.2.1, mg.2.2.2.2.2.1, mg.2.2.2.2.2.2.1, upd s.2.2.1 (v2 + (M_onBy v5 s.2.1)).toNatClampNeg ((s.2.2.1 (v2 + v5).toNatClampNeg) + (1:Int32)), s.2.2.2, mg.2.2.2.2.2.2.2.2.2.1, mg.2.2.2.2.2.2.2.2.2.2.1, mg.2.2.2.2.2.2.2.2.2.2.2.1, mg.2.2.2.2.2.2.2.2.2.2.2.2) mt mc T)), 0, 0)))
        obtain ⟨g7, hf⟩ := grd_e hf
        refine stp hm 5 (And.intro (gi_in g7) (?_ : sxWP sc cl Q 168 (149, [some (.ref 59), z1, some (.int v2), some (.int s.1), some (.int v4), some (.int v5), some (.int s.2.1), some (.int (M_onBy v5 s.2.1))], [], (cW nw kp im ol sn sr tp (mW mk (mg.1, mg.2.1, mg.2.2.1, mg.2.2.2.1, mg.2.2.2.2.1, mg.2.2.2.2.2.1, mg.2.2.2.2.2.2.1, upd s.2.2.1 (v2 + (M_onBy v5 s.2.1)).toNatClampNeg ((s.2.2.1 (v2 + v5).toNatClampNeg) + (1:Int32)), upd s.2.2.2 s.1.toNatClampNeg (M_onBy v5 s.2.1), mg.2.2.2.2.2.2.2.2.2.1, mg.2.2.2.2.2.2.2.2.2.2.1, mg.2.2.2.2.2.2.2.2.2.2.2.1, mg.2.2.2.2.2.2.2.2.2.2.2.2) mt mc T)), 0, 0)))
        refine stp hm 1 (?_ : sxWP sc cl Q 168 (152, [some (.ref 59), z1, some (.int v2), some (.int (s.1 + (1:Int32))), some (.int v4), some (.int v5), some (.int s.2.1), some (.int (M_onBy v5 s.2.1))], [], (cW nw kp im ol sn sr tp (mW mk (mg.1, mg.2.1, mg.2.2.1, mg.2.2.2.1, mg.2.2.2.2.1, mg.2.2.2.2.2.1, mg.2.2.2.2.2.2.1, upd s.2.2.1 (v2 + (M_onBy v5 s.2.1)).toNatClampNeg ((s.2.2.1 (v2 + v5).toNatClampNeg) + (1:Int32)), upd s.2.2.2 s.1.toNatClampNeg (M_onBy v5 s.2.1), mg.2.2.2.2.2.2.2.2.2.1, mg.2.2.2.2.2.2.2.2.2.2.1, mg.2.2.2.2.2.2.2.2.2.2.2.1, mg.2.2.2.2.2.2.2.2.2.2.2.2) mt mc T)), 0, 0))
        exact J152 _ _ _ _ _ _ hf
      · show sxWP sc cl Q 168 (118, [some (.ref 59), z1, some (.int v2), some (.int s.1), some (.int v4), some (.int v5), some (.int s.2.1), some (.int (M_onBy v5 s.2.1))], [], (cW nw kp im ol sn sr tp (mW mk (mg.1, mg.2.1, mg.2.2.1, mg.2.2.2.1, mg.2.2.2.2.1, mg.2.2.2.2.2.1, mg.2.2.2.2.2.2.1, s.2.2.1, s.2.2.2, mg.2.2.2.2.2.2.2.2.2.1, mg.2.2.2.2.2.2.2.2.2.2.1, mg.2.2.2.2.2.2.2.2.2.2.2.1, mg.2.2.2.2.2.2.2.2.2.2.2.2) mt mc T)), 0, 0)
        refine stp hm 1 (?_ : sxWP sc cl Q 168 (152, [some (.ref 59), z1, some (.int v2), some (.int s.1), some (.int v4), some (.int v5), some (.int s.2.1), some (.int (M_onBy v5 s.2.1))], [], (cW nw kp im ol sn sr tp (mW mk (mg.1, mg.2.1, mg.2.2.1, mg.2.2.2.1, mg.2.2.2.2.1, mg.2.2.2.2.2.1, mg.2.2.2.2.2.2.1, s.2.2.1, s.2.2.2, mg.2.2.2.2.2.2.2.2.2.1, mg.2.2.2.2.2.2.2.2.2.2.1, mg.2.2.2.2.2.2.2.2.2.2.2.1, mg.2.2.2.2.2.2.2.2.2.2.2.2) mt mc T)), 0, 0))
        exact J152 _ _ _ _ _ _ hf
    · show sxWP sc cl Q 168 (93, [some (.ref 59), z1, some (.int v2), some (.int s.1), some (.int v4), some (.int v5), some (.int s.2.1), z7], [], (cW nw kp im ol sn sr tp (mW mk (mg.1, mg.2.1, mg.2.2.1, mg.2.2.2.1, mg.2.2.2.2.1, mg.2.2.2.2.2.1, mg.2.2.2.2.2.2.1, s.2.2.1, s.2.2.2, mg.2.2.2.2.2.2.2.2.2.1, mg.2.2.2.2.2.2.2.2.2.2.1, mg.2.2.2.2.2.2.2.2.2.2.2.1, mg.2.2.2.2.2.2.2.2.2.2.2.2) mt mc T)), 0, 0)
      refine stp hm 1 (?_ : sxWP sc cl Q 168 (152, [some (.ref 59), z1, some (.int v2), some (.int s.1), some (.int v4), some (.int v5), some (.int s.2.1), z7], [], (cW nw kp im ol sn sr tp (mW mk (mg.1, mg.2.1, mg.2.2.1, mg.2.2.2.1, mg.2.2.2.2.1, mg.2.2.2.2.2.1, mg.2.2.2.2.2.2.1, s.2.2.1, s.2.2.2, mg.2.2.2.2.2.2.2.2.2.1, mg.2.2.2.2.2.2.2.2.2.2.1, mg.2.2.2.2.2.2.2.2.2.2.2.1, mg.2.2.2.2.2.2.2.2.2.2.2.2) mt mc T)), 0, 0))
      exact J152 _ _ _ _ _ _ hf
set_option maxRecDepth 10000 in
theorem M_goesFrom_l58 {v2 : Int32}   (hE : cl = sxE sc (d + 4)) (hm : CallMono cl) : ∀ (n : Nat) (s : (Int32 × Int32 × (Nat → Int32) × (Nat → Int32))) (r : ((Nat → Int32) × (Nat → Int32))), wh (M_goesFrom_s58 v2 mk.1) n s = some r → (∀ (z0 z1 z2 z3 z4 z5 z6 z7 : Option Value), sxWP sc cl Q 168 (164, [z0, z1, z2, z3, z4, z5, z6, z7], [], (cW nw kp im ol sn sr tp (mW mk (mg.1, mg.2.1, mg.2.2.1, mg.2.2.2.1, mg.2.2.2.2.1, mg.2.2.2.2.2.1, mg.2.2.2.2.2.2.1, r.1, r.2, mg.2.2.2.2.2.2.2.2.2.1, mg.2.2.2.2.2.2.2.2.2.2.1, mg.2.2.2.2.2.2.2.2.2.2.2.1, mg.2.2.2.2.2.2.2.2.2.2.2.2) mt mc T)), 0, 0)) → ∀ (z1 z5 z6 z7 : Option Value), sxWP sc cl Q 168 (58, [some (.ref 59), z1, some (.int v2), some (.int s.1), some (.int s.2.1), z5, z6, z7], [], (cW nw kp im ol sn sr tp (mW mk (mg.1, mg.2.1, mg.2.2.1, mg.2.2.2.1, mg.2.2.2.2.1, mg.2.2.2.2.2.1, mg.2.2.2.2.2.2.1, s.2.2.1, s.2.2.2, mg.2.2.2.2.2.2.2.2.2.1, mg.2.2.2.2.2.2.2.2.2.2.1, mg.2.2.2.2.2.2.2.2.2.2.2.1, mg.2.2.2.2.2.2.2.2.2.2.2.2) mt mc T)), 0, 0) := by
  refine wh_run (A := fun (s : (Int32 × Int32 × (Nat → Int32) × (Nat → Int32))) => ∀ (z1 z5 z6 z7 : Option Value), sxWP sc cl Q 168 (58, [some (.ref 59), z1, some (.int v2), some (.int s.1), some (.int s.2.1), z5, z6, z7], [], (cW nw kp im ol sn sr tp (mW mk (mg.1, mg.2.1, mg.2.2.1, mg.2.2.2.1, mg.2.2.2.2.1, mg.2.2.2.2.2.1, mg.2.2.2.2.2.2.1, s.2.2.1, s.2.2.2, mg.2.2.2.2.2.2.2.2.2.1, mg.2.2.2.2.2.2.2.2.2.2.1, mg.2.2.2.2.2.2.2.2.2.2.2.1, mg.2.2.2.2.2.2.2.2.2.2.2.2) mt mc T)), 0, 0)) (B := fun (r : ((Nat → Int32) × (Nat → Int32))) => ∀ (z0 z1 z2 z3 z4 z5 z6 z7 : Option Value), sxWP sc cl Q 168 (164, [z0, z1, z2, z3, z4, z5, z6, z7], [], (cW nw kp im ol sn sr tp (mW mk (mg.1, mg.2.1, mg.2.2.1, mg.2.2.2.1, mg.2.2.2.2.1, mg.2.2.2.2.2.1, mg.2.2.2.2.2.2.1, r.1, r.2, mg.2.2.2.2.2.2.2.2.2.1, mg.2.2.2.2.2.2.2.2.2.2.1, mg.2.2.2.2.2.2.2.2.2.2.2.1, mg.2.2.2.2.2.2.2.2.2.2.2.2) mt mc T)), 0, 0)) (fun s x hf hA hB => ?_)
  intro z1 z5 z6 z7
  unfold M_goesFrom_s58 at hf
  refine stp hm 3 (br hf (fun c1 hf => ?_) (fun c1 hf => ?_))
  · show sxWP sc cl Q 168 (164, [some (.ref 59), z1, some (.int v2), some (.int s.1), some (.int s.2.1), z5, z6, z7], [], (cW nw kp im ol sn sr tp (mW mk (mg.1, mg.2.1, mg.2.2.1, mg.2.2.2.1, mg.2.2.2.2.1, mg.2.2.2.2.2.1, mg.2.2.2.2.2.2.1, s.2.2.1, s.2.2.2, mg.2.2.2.2.2.2.2.2.2.1, mg.2.2.2.2.2.2.2.2.2.2.1, mg.2.2.2.2.2.2.2.2.2.2.2.1, mg.2.2.2.2.2.2.2.2.2.2.2.2) mt mc T)), 0, 0)
    obtain rfl := Option.some.inj hf
    exact hB _ rfl _ _ _ _ _ _ _ _
  · show sxWP sc cl Q 168 (64, [some (.ref 59), z1, some (.int v2), some (.int s.1), some (.int s.2.1), z5, z6, z7], [], (cW nw kp im ol sn sr tp (mW mk (mg.1, mg.2.1, mg.2.2.1, mg.2.2.2.1, mg.2.2.2.2.1, mg.2.2.2.2.2.1, mg.2.2.2.2.2.2.1, s.2.2.1, s.2.2.2, mg.2.2.2.2.2.2.2.2.2.1, mg.2.2.2.2.2.2.2.2.2.2.1, mg.2.2.2.2.2.2.2.2.2.2.2.1, mg.2.2.2.2.2.2.2.2.2.2.2.2) mt mc T)), 0, 0)
    obtain ⟨g2, hf⟩ := grd_e hf
    refine stp hm 4 (And.intro (gi_in g2) (?_ : sxWP sc cl Q 168 (71, [some (.ref 59), z1, some (.int v2), some (.int s.1), some (.int s.2.1), z5, z6, z7], [.int (s.2.2.2 s.2.1.toNatClampNeg)], (cW nw kp im ol sn sr tp (mW mk (mg.1, mg.2.1, mg.2.2.1, mg.2.2.2.1, mg.2.2.2.2.1, mg.2.2.2.2.2.1, mg.2.2.2.2.2.2.1, s.2.2.1, s.2.2.2, mg.2.2.2.2.2.2.2.2.2.1, mg.2.2.2.2.2.2.2.2.2.2.1, mg.2.2.2.2.2.2.2.2.2.2.2.1, mg.2.2.2.2.2.2.2.2.2.2.2.2) mt mc T)), 0, 0)))
    obtain ⟨w3, hw3, hf⟩ := bnd hf
    refine stp hm 3 (?_ : sxWP sc cl Q 168 (76, [some (.ref 59), z1, some (.int v2), some (.int s.1), some (.int s.2.1), some (.int (s.2.2.2 s.2.1.toNatClampNeg)), some (.int (0:Int32)), z7], [], (cW nw kp im ol sn sr tp (mW mk (mg.1, mg.2.1, mg.2.2.1, mg.2.2.2.1, mg.2.2.2.2.1, mg.2.2.2.2.2.1, mg.2.2.2.2.2.2.1, s.2.2.1, s.2.2.2, mg.2.2.2.2.2.2.2.2.2.1, mg.2.2.2.2.2.2.2.2.2.2.1, mg.2.2.2.2.2.2.2.2.2.2.2.1, mg.2.2.2.2.2.2.2.2.2.2.2.2) mt mc T)), 0, 0))
    refine M_goesFrom_l76 hE hm _ _ _ hw3 ?_ _ _
    intro w3_z1 w3_z5 w3_z6 w3_z7
    show sxWP sc cl Q 168 (158, [some (.ref 59), w3_z1, some (.int v2), some (.int w3.1), some (.int s.2.1), w3_z5, w3_z6, w3_z7], [], (cW nw kp im ol sn sr tp (mW mk (mg.1, mg.2.1, mg.2.2.1, mg.2.2.2.1, mg.2.2.2.2.1, mg.2.2.2.2.2.1, mg.2.2.2.2.2.2.1, w3.2.1, w3.2.2, mg.2.2.2.2.2.2.2.2.2.1, mg.2.2.2.2.2.2.2.2.2.2.1, mg.2.2.2.2.2.2.2.2.2.2.2.1, mg.2.2.2.2.2.2.2.2.2.2.2.2) mt mc T)), 0, 0)
    obtain rfl := Option.some.inj hf
    refine stp hm 2 (?_ : sxWP sc cl Q 168 (58, [some (.ref 59), w3_z1, some (.int v2), some (.int w3.1), some (.int (s.2.1 + (1:Int32))), w3_z5, w3_z6, w3_z7], [], (cW nw kp im ol sn sr tp (mW mk (mg.1, mg.2.1, mg.2.2.1, mg.2.2.2.1, mg.2.2.2.2.1, mg.2.2.2.2.2.1, mg.2.2.2.2.2.2.1, w3.2.1, w3.2.2, mg.2.2.2.2.2.2.2.2.2.1, mg.2.2.2.2.2.2.2.2.2.2.1, mg.2.2.2.2.2.2.2.2.2.2.2.1, mg.2.2.2.2.2.2.2.2.2.2.2.2) mt mc T)), 0, 0))
    exact hA _ rfl _ _ _ _
set_option maxRecDepth 10000 in
theorem M_goesFrom_ok {v1 : Int32} {q : ((Nat → Int32) × (Nat → Int32))} (hc : call = sxE sc (d + 5)) (hf : M_goesFrom v1 mk.1 mg.2.2.2.2.2.2.2.1 mg.2.2.2.2.2.2.2.2.1 = some q) (h : Q none (cW nw kp im ol sn sr tp (mW mk (mg.1, mg.2.1, mg.2.2.1, mg.2.2.2.1, mg.2.2.2.2.1, mg.2.2.2.2.2.1, mg.2.2.2.2.2.2.1, q.1, q.2, mg.2.2.2.2.2.2.2.2.2.1, mg.2.2.2.2.2.2.2.2.2.2.1, mg.2.2.2.2.2.2.2.2.2.2.2.1, mg.2.2.2.2.2.2.2.2.2.2.2.2) mt mc T))) : call 168 [.ref 59, .int v1] (cW nw kp im ol sn sr tp (mW mk mg mt mc T)) Q := by
  refine ent hc rfl (fun cl hE hm => ?_)
  unfold M_goesFrom at hf
  obtain ⟨w1, hw1, hf⟩ := bnd hf
  refine stp hm 6 (?_ : sxWP sc cl Q 168 (7, [some (.ref 59), some (.int v1), some (.int ((49:Int32) * v1)), some (.int (0:Int32)), none, none, none, none], [], (cW nw kp im ol sn sr tp (mW mk mg mt mc T)), 0, 0))
  refine M_goesFrom_l7 hE hm _ _ _ hw1 ?_ _ _ _ _
  intro w1_z3 w1_z4 w1_z5 w1_z6 w1_z7
  show sxWP sc cl Q 168 (28, [some (.ref 59), some (.int v1), some (.int ((49:Int32) * v1)), w1_z3, w1_z4, w1_z5, w1_z6, w1_z7], [], (cW nw kp im ol sn sr tp (mW mk (mg.1, mg.2.1, mg.2.2.1, mg.2.2.2.1, mg.2.2.2.2.1, mg.2.2.2.2.2.1, mg.2.2.2.2.2.2.1, w1, mg.2.2.2.2.2.2.2.2.1, mg.2.2.2.2.2.2.2.2.2.1, mg.2.2.2.2.2.2.2.2.2.2.1, mg.2.2.2.2.2.2.2.2.2.2.2.1, mg.2.2.2.2.2.2.2.2.2.2.2.2) mt mc T)), 0, 0)
  refine stp hm 3 (M_isOf_ok hE rfl ?_)
  show sxWP sc cl Q 168 (33, [some (.ref 59), some (.int v1), some (.int ((49:Int32) * v1)), w1_z3, w1_z4, w1_z5, w1_z6, w1_z7], [.int (M_isOf v1 mk.1)], (cW nw kp im ol sn sr tp (mW mk (mg.1, mg.2.1, mg.2.2.1, mg.2.2.2.1, mg.2.2.2.2.1, mg.2.2.2.2.2.1, mg.2.2.2.2.2.2.1, w1, mg.2.2.2.2.2.2.2.2.1, mg.2.2.2.2.2.2.2.2.2.1, mg.2.2.2.2.2.2.2.2.2.2.1, mg.2.2.2.2.2.2.2.2.2.2.2.1, mg.2.2.2.2.2.2.2.2.2.2.2.2) mt mc T)), 0, 0)
  refine stp hm 1 (brn hf (fun c2 hf => ?_) (fun c2 hf => ?_))
  · show sxWP sc cl Q 168 (37, [some (.ref 59), some (.int v1), some (.int ((49:Int32) * v1)), w1_z3, w1_z4, w1_z5, w1_z6, w1_z7], [], (cW nw kp im ol sn sr tp (mW mk (mg.1, mg.2.1, mg.2.2.1, mg.2.2.2.1, mg.2.2.2.2.1, mg.2.2.2.2.2.1, mg.2.2.2.2.2.2.1, w1, mg.2.2.2.2.2.2.2.2.1, mg.2.2.2.2.2.2.2.2.2.1, mg.2.2.2.2.2.2.2.2.2.2.1, mg.2.2.2.2.2.2.2.2.2.2.2.1, mg.2.2.2.2.2.2.2.2.2.2.2.2) mt mc T)), 0, 0)
    obtain ⟨g3, hf⟩ := grd_e hf
    refine stp hm 7 (And.intro (gi_in g3) (?_ : sxWP sc cl Q 168 (46, [some (.ref 59), some (.int v1), some (.int ((49:Int32) * v1)), w1_z3, w1_z4, w1_z5, w1_z6, w1_z7], [], (cW nw kp im ol sn sr tp (mW mk (mg.1, mg.2.1, mg.2.2.1, mg.2.2.2.1, mg.2.2.2.2.1, mg.2.2.2.2.2.1, mg.2.2.2.2.2.2.1, upd w1 (((49:Int32) * v1) + v1).toNatClampNeg (0:Int32), mg.2.2.2.2.2.2.2.2.1, mg.2.2.2.2.2.2.2.2.2.1, mg.2.2.2.2.2.2.2.2.2.2.1, mg.2.2.2.2.2.2.2.2.2.2.2.1, mg.2.2.2.2.2.2.2.2.2.2.2.2) mt mc T)), 0, 0)))
    obtain ⟨g4, hf⟩ := grd_e hf
    refine stp hm 5 (And.intro (gi_in g4) (?_ : sxWP sc cl Q 168 (53, [some (.ref 59), some (.int v1), some (.int ((49:Int32) * v1)), w1_z3, w1_z4, w1_z5, w1_z6, w1_z7], [], (cW nw kp im ol sn sr tp (mW mk (mg.1, mg.2.1, mg.2.2.1, mg.2.2.2.1, mg.2.2.2.2.1, mg.2.2.2.2.2.1, mg.2.2.2.2.2.2.1, upd w1 (((49:Int32) * v1) + v1).toNatClampNeg (0:Int32), upd mg.2.2.2.2.2.2.2.2.1 (0:Int32).toNatClampNeg v1, mg.2.2.2.2.2.2.2.2.2.1, mg.2.2.2.2.2.2.2.2.2.2.1, mg.2.2.2.2.2.2.2.2.2.2.2.1, mg.2.2.2.2.2.2.2.2.2.2.2.2) mt mc T)), 0, 0)))
    obtain ⟨w5, hw5, hf⟩ := bnd hf
    refine stp hm 4 (?_ : sxWP sc cl Q 168 (58, [some (.ref 59), some (.int v1), some (.int ((49:Int32) * v1)), some (.int (1:Int32)), some (.int (0:Int32)), w1_z5, w1_z6, w1_z7], [], (cW nw kp im ol sn sr tp (mW mk (mg.1, mg.2.1, mg.2.2.1, mg.2.2.2.1, mg.2.2.2.2.1, mg.2.2.2.2.2.1, mg.2.2.2.2.2.2.1, upd w1 (((49:Int32) * v1) + v1).toNatClampNeg (0:Int32), upd mg.2.2.2.2.2.2.2.2.1 (0:Int32).toNatClampNeg v1, mg.2.2.2.2.2.2.2.2.2.1, mg.2.2.2.2.2.2.2.2.2.2.1, mg.2.2.2.2.2.2.2.2.2.2.2.1, mg.2.2.2.2.2.2.2.2.2.2.2.2) mt mc T)), 0, 0))
    refine M_goesFrom_l58 hE hm _ _ _ hw5 ?_ _ _ _ _
    intro w5_z0 w5_z1 w5_z2 w5_z3 w5_z4 w5_z5 w5_z6 w5_z7
    show sxWP sc cl Q 168 (164, [w5_z0, w5_z1, w5_z2, w5_z3, w5_z4, w5_z5, w5_z6, w5_z7], [], (cW nw kp im ol sn sr tp (mW mk (mg.1, mg.2.1, mg.2.2.1, mg.2.2.2.1, mg.2.2.2.2.1, mg.2.2.2.2.2.1, mg.2.2.2.2.2.2.1, w5.1, w5.2, mg.2.2.2.2.2.2.2.2.2.1, mg.2.2.2.2.2.2.2.2.2.2.1, mg.2.2.2.2.2.2.2.2.2.2.2.1, mg.2.2.2.2.2.2.2.2.2.2.2.2) mt mc T)), 0, 0)
    obtain rfl := Option.some.inj hf
    refine stp hm 1 ?_
    exact h
  · show sxWP sc cl Q 168 (36, [some (.ref 59), some (.int v1), some (.int ((49:Int32) * v1)), w1_z3, w1_z4, w1_z5, w1_z6, w1_z7], [], (cW nw kp im ol sn sr tp (mW mk (mg.1, mg.2.1, mg.2.2.1, mg.2.2.2.1, mg.2.2.2.2.1, mg.2.2.2.2.2.1, mg.2.2.2.2.2.2.1, w1, mg.2.2.2.2.2.2.2.2.1, mg.2.2.2.2.2.2.2.2.2.1, mg.2.2.2.2.2.2.2.2.2.2.1, mg.2.2.2.2.2.2.2.2.2.2.2.1, mg.2.2.2.2.2.2.2.2.2.2.2.2) mt mc T)), 0, 0)
    obtain rfl := Option.some.inj hf
    refine stp hm 1 ?_
    exact h

def M_isLower_j63  (v2 : Int32) : Option (Int32 ⊕ (Unit ⊕ Unit)) := some (Sum.inl (v2 + (1:Int32)))
def M_isLower_s10  (v1 : Int32) (ghe : (Nat → Int32)) (gow : (Nat → Int32)) (gfa : (Nat → Int32)) (s : Int32) : Option (Int32 ⊕ (Unit ⊕ Unit)) := if (49:Int32) ≤ s then (some (Sum.inr (Sum.inr ()))) else (grd (gi v1 49) (if (gow v1.toNatClampNeg) = (0:Int32) then (M_isLower_j63 s) else (grd (gi s 49) (if (gow s.toNatClampNeg) = (0:Int32) then (M_isLower_j63 s) else (grd (gi s 49) (grd (gi v1 49) (grd (gi (((49:Int32) * v1) + s) 2401) (if (ghe s.toNatClampNeg) ≤ ((ghe v1.toNatClampNeg) + (gfa (((49:Int32) * v1) + s).toNatClampNeg)) then (M_isLower_j63 s) else (some (Sum.inr (Sum.inl ())))))))))))
def M_isLower_s2   (ghe : (Nat → Int32)) (gow : (Nat → Int32)) (gfa : (Nat → Int32)) (s : Int32) : Option (Int32 ⊕ (Unit ⊕ Unit)) := if (49:Int32) ≤ s then (some (Sum.inr (Sum.inr ()))) else (Option.bind (wh (M_isLower_s10 s ghe gow gfa) FU (0:Int32)) (Sum.elim (fun w2_0a => some (Sum.inr (Sum.inl ()))) (fun w2_0b => some (Sum.inl (s + (1:Int32))))))
def M_isLower  (ghe : (Nat → Int32)) (gow : (Nat → Int32)) (gfa : (Nat → Int32)) : Option Int32 := Option.bind (wh (M_isLower_s2 ghe gow gfa) FU (0:Int32)) (Sum.elim (fun w1_0a => some (0:Int32)) (fun w1_0b => some (1:Int32)))
set_option maxRecDepth 10000 in
theorem M_isLower_l10 {v1 : Int32}   (hE : cl = sxE sc (d + 0)) (hm : CallMono cl) : ∀ (n : Nat) (s : Int32) (r : (Unit ⊕ Unit)), wh (M_isLower_s10 v1 mg.2.2.2.2.2.1 mg.2.2.2.2.2.2.1 mg.2.2.2.2.2.2.2.1) n s = some r → ((∀ p0, r = Sum.inl p0 → ∀ (z0 z1 z2 : Option Value), sxWP sc cl Q 169 (61, [z0, z1, z2], [], (cW nw kp im ol sn sr tp (mW mk mg mt mc T)), 0, 0)) ∧ (∀ p0, r = Sum.inr p0 → ∀ (z2 : Option Value), sxWP sc cl Q 169 (69, [some (.ref 59), some (.int v1), z2], [], (cW nw kp im ol sn sr tp (mW mk mg mt mc T)), 0, 0))) → sxWP sc cl Q 169 (10, [some (.ref 59), some (.int v1), some (.int s)], [], (cW nw kp im ol sn sr tp (mW mk mg mt mc T)), 0, 0) := by
  refine wh_run (A := fun (s : Int32) => sxWP sc cl Q 169 (10, [some (.ref 59), some (.int v1), some (.int s)], [], (cW nw kp im ol sn sr tp (mW mk mg mt mc T)), 0, 0)) (B := fun (r : (Unit ⊕ Unit)) => (∀ p0, r = Sum.inl p0 → ∀ (z0 z1 z2 : Option Value), sxWP sc cl Q 169 (61, [z0, z1, z2], [], (cW nw kp im ol sn sr tp (mW mk mg mt mc T)), 0, 0)) ∧ (∀ p0, r = Sum.inr p0 → ∀ (z2 : Option Value), sxWP sc cl Q 169 (69, [some (.ref 59), some (.int v1), z2], [], (cW nw kp im ol sn sr tp (mW mk mg mt mc T)), 0, 0))) (fun s x hf hA hB => ?_)
  have J63 : ∀ (v2 : Int32), M_isLower_j63 v2 = some x → sxWP sc cl Q 169 (63, [some (.ref 59), some (.int v1), some (.int v2)], [], (cW nw kp im ol sn sr tp (mW mk mg mt mc T)), 0, 0) := by
    intro v2 hf
    unfold M_isLower_j63 at hf
    obtain rfl := Option.some.inj hf
    refine stp hm 2 (?_ : sxWP sc cl Q 169 (10, [some (.ref 59), some (.int v1), some (.int (v2 + (1:Int32)))], [], (cW nw kp im ol sn sr tp (mW mk mg mt mc T)), 0, 0))
    exact hA _ rfl
  unfold M_isLower_s10 at hf
  refine stp hm 3 (br hf (fun c1 hf => ?_) (fun c1 hf => ?_))
  · show sxWP sc cl Q 169 (69, [some (.ref 59), some (.int v1), some (.int s)], [], (cW nw kp im ol sn sr tp (mW mk mg mt mc T)), 0, 0)
    obtain rfl := Option.some.inj hf
    exact (hB _ rfl).2 _ rfl _
  · show sxWP sc cl Q 169 (16, [some (.ref 59), some (.int v1), some (.int s)], [], (cW nw kp im ol sn sr tp (mW mk mg mt mc T)), 0, 0)
    obtain ⟨g2, hf⟩ := grd_e hf
    refine stp hm 4 (And.intro (gi_in g2) (?_ : sxWP sc cl Q 169 (22, [some (.ref 59), some (.int v1), some (.int s)], [.int (mg.2.2.2.2.2.2.1 v1.toNatClampNeg)], (cW nw kp im ol sn sr tp (mW mk mg mt mc T)), 0, 0)))
    refine stp hm 1 (br hf (fun c3 hf => ?_) (fun c3 hf => ?_))
    · show sxWP sc cl Q 169 (63, [some (.ref 59), some (.int v1), some (.int s)], [], (cW nw kp im ol sn sr tp (mW mk mg mt mc T)), 0, 0)
      exact J63 _ hf
    · show sxWP sc cl Q 169 (25, [some (.ref 59), some (.int v1), some (.int s)], [], (cW nw kp im ol sn sr tp (mW mk mg mt mc T)), 0, 0)
      obtain ⟨g4, hf⟩ := grd_e hf
      refine stp hm 4 (And.intro (gi_in g4) (?_ : sxWP sc cl Q 169 (31, [some (.ref 59), some (.int v1), some (.int s)], [.int (mg.2.2.2.2.2.2.1 s.toNatClampNeg)], (cW nw kp im ol sn sr tp (mW mk mg mt mc T)), 0, 0)))
      refine stp hm 1 (br hf (fun c5 hf => ?_) (fun c5 hf => ?_))
      · show sxWP sc cl Q 169 (63, [some (.ref 59), some (.int v1), some (.int s)], [], (cW nw kp im ol sn sr tp (mW mk mg mt mc T)), 0, 0)
        exact J63 _ hf
      · show sxWP sc cl Q 169 (34, [some (.ref 59), some (.int v1), some (.int s)], [], (cW nw kp im ol sn sr tp (mW mk mg mt mc T)), 0, 0)
        obtain ⟨g6, hf⟩ := grd_e hf
        refine stp hm 4 (And.intro (gi_in g6) (?_ : sxWP sc cl Q 169 (40, [some (.ref 59), some (.int v1), some (.int s)], [.int (mg.2.2.2.2.2.1 s.toNatClampNeg)], (cW nw kp im ol sn sr tp (mW mk mg mt mc T)), 0, 0)))
        obtain ⟨g7, hf⟩ := grd_e hf
        refine stp hm 4 (And.intro (gi_in g7) (?_ : sxWP sc cl Q 169 (46, [some (.ref 59), some (.int v1), some (.int s)], [.int (mg.2.2.2.2.2.1 v1.toNatClampNeg), .int (mg.2.2.2.2.2.1 s.toNatClampNeg)], (cW nw kp im ol sn sr tp (mW mk mg mt mc T)), 0, 0)))
        obtain ⟨g8, hf⟩ := grd_e hf
        refine stp hm 8 (And.intro (gi_in g8) (?_ : sxWP sc cl Q 169 (57, [some (.ref 59), some (.int v1), some (.int s)], [.int (mg.2.2.2.2.2.2.2.1 (((49:Int32) * v1) + s).toNatClampNeg), .int (mg.2.2.2.2.2.1 v1.toNatClampNeg), .int (mg.2.2.2.2.2.1 s.toNatClampNeg)], (cW nw kp im ol sn sr tp (mW mk mg mt mc T)), 0, 0)))
        refine stp hm 2 (br hf (fun c9 hf => ?_) (fun c9 hf => ?_))
        · show sxWP sc cl Q 169 (63, [some (.ref 59), some (.int v1), some (.int s)], [], (cW nw kp im ol sn sr tp (mW mk mg mt mc T)), 0, 0)
          exact J63 _ hf
        · show sxWP sc cl Q 169 (61, [some (.ref 59), some (.int v1), some (.int s)], [], (cW nw kp im ol sn sr tp (mW mk mg mt mc T)), 0, 0)
          obtain rfl := Option.some.inj hf
          exact (hB _ rfl).1 _ rfl _ _ _
set_option maxRecDepth 10000 in
theorem M_isLower_l2    (hE : cl = sxE sc (d + 0)) (hm : CallMono cl) : ∀ (n : Nat) (s : Int32) (r : (Unit ⊕ Unit)), wh (M_isLower_s2 mg.2.2.2.2.2.1 mg.2.2.2.2.2.2.1 mg.2.2.2.2.2.2.2.1) n s = some r → ((∀ p0, r = Sum.inl p0 → ∀ (z0 z1 z2 : Option Value), sxWP sc cl Q 169 (61, [z0, z1, z2], [], (cW nw kp im ol sn sr tp (mW mk mg mt mc T)), 0, 0)) ∧ (∀ p0, r = Sum.inr p0 → ∀ (z0 z1 z2 : Option Value), sxWP sc cl Q 169 (75, [z0, z1, z2], [], (cW nw kp im ol sn sr tp (mW mk mg mt mc T)), 0, 0))) → ∀ (z2 : Option Value), sxWP sc cl Q 169 (2, [some (.ref 59), some (.int s), z2], [], (cW nw kp im ol sn sr tp (mW mk mg mt mc T)), 0, 0) := by
  refine wh_run (A := fun (s : Int32) => ∀ (z2 : Option Value), sxWP sc cl Q 169 (2, [some (.ref 59), some (.int s), z2], [], (cW nw kp im ol sn sr tp (mW mk mg mt mc T)), 0, 0)) (B := fun (r : (Unit ⊕ Unit)) => (∀ p0, r = Sum.inl p0 → ∀ (z0 z1 z2 : Option Value), sxWP sc cl Q 169 (61, [z0, z1, z2], [], (cW nw kp im ol sn sr tp (mW mk mg mt mc T)), 0, 0)) ∧ (∀ p0, r = Sum.inr p0 → ∀ (z0 z1 z2 : Option Value), sxWP sc cl Q 169 (75, [z0, z1, z2], [], (cW nw kp im ol sn sr tp (mW mk mg mt mc T)), 0, 0))) (fun s x hf hA hB => ?_)
  intro z2
  unfold M_isLower_s2 at hf
  refine stp hm 3 (br hf (fun c1 hf => ?_) (fun c1 hf => ?_))
  · show sxWP sc cl Q 169 (75, [some (.ref 59), some (.int s), z2], [], (cW nw kp im ol sn sr tp (mW mk mg mt mc T)), 0, 0)
    obtain rfl := Option.some.inj hf
    exact (hB _ rfl).2 _ rfl _ _ _
  · show sxWP sc cl Q 169 (8, [some (.ref 59), some (.int s), z2], [], (cW nw kp im ol sn sr tp (mW mk mg mt mc T)), 0, 0)
    obtain ⟨w2, hw2, hf⟩ := bnd hf
    refine stp hm 2 (?_ : sxWP sc cl Q 169 (10, [some (.ref 59), some (.int s), some (.int (0:Int32))], [], (cW nw kp im ol sn sr tp (mW mk mg mt mc T)), 0, 0))
    refine M_isLower_l10 hE hm _ _ _ hw2 ?_
    refine ⟨fun w2_0a e0 => ?_, fun w2_0b e0 => ?_⟩
    · subst e0
      replace hf : (some (Sum.inr (Sum.inl ()))) = some x := hf
      intro w2_z0 w2_z1 w2_z2
      show sxWP sc cl Q 169 (61, [w2_z0, w2_z1, w2_z2], [], (cW nw kp im ol sn sr tp (mW mk mg mt mc T)), 0, 0)
      obtain rfl := Option.some.inj hf
      exact (hB _ rfl).1 _ rfl _ _ _
    · subst e0
      replace hf : (some (Sum.inl (s + (1:Int32)))) = some x := hf
      intro w2_z2
      show sxWP sc cl Q 169 (69, [some (.ref 59), some (.int s), w2_z2], [], (cW nw kp im ol sn sr tp (mW mk mg mt mc T)), 0, 0)
      obtain rfl := Option.some.inj hf
      refine stp hm 2 (?_ : sxWP sc cl Q 169 (2, [some (.ref 59), some (.int (s + (1:Int32))), w2_z2], [], (cW nw kp im ol sn sr tp (mW mk mg mt mc T)), 0, 0))
      exact hA _ rfl _
set_option maxRecDepth 10000 in
theorem M_isLower_ok  {q : Int32} (hc : call = sxE sc (d + 1)) (hf : M_isLower mg.2.2.2.2.2.1 mg.2.2.2.2.2.2.1 mg.2.2.2.2.2.2.2.1 = some q) (h : Q (some (.int q)) (cW nw kp im ol sn sr tp (mW mk mg mt mc T))) : call 169 [.ref 59] (cW nw kp im ol sn sr tp (mW mk mg mt mc T)) Q := by
  refine ent hc rfl (fun cl hE hm => ?_)
  unfold M_isLower at hf
  obtain ⟨w1, hw1, hf⟩ := bnd hf
  refine stp hm 2 (?_ : sxWP sc cl Q 169 (2, [some (.ref 59), some (.int (0:Int32)), none], [], (cW nw kp im ol sn sr tp (mW mk mg mt mc T)), 0, 0))
  refine M_isLower_l2 hE hm _ _ _ hw1 ?_ _
  refine ⟨fun w1_0a e0 => ?_, fun w1_0b e0 => ?_⟩
  · subst e0
    replace hf : (some (0:Int32)) = some q := hf
    intro w1_z0 w1_z1 w1_z2
    show sxWP sc cl Q 169 (61, [w1_z0, w1_z1, w1_z2], [], (cW nw kp im ol sn sr tp (mW mk mg mt mc T)), 0, 0)
    obtain rfl := Option.some.inj hf
    refine stp hm 2 (And.intro (Or.inl rfl) ?_)
    exact h
  · subst e0
    replace hf : (some (1:Int32)) = some q := hf
    intro w1_z0 w1_z1 w1_z2
    show sxWP sc cl Q 169 (75, [w1_z0, w1_z1, w1_z2], [], (cW nw kp im ol sn sr tp (mW mk mg mt mc T)), 0, 0)
    obtain rfl := Option.some.inj hf
    refine stp hm 2 (And.intro (Or.inr rfl) ?_)
    exact h
end PT
