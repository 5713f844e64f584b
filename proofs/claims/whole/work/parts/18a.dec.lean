/-! methods as functions (printed by wip/whole/dec) -/
section PT
variable {sc : sxS} {d : Nat} {Q : sxR} {hp : sxH} {call cl : sxX} {nw kp : tSt} {im : Int32} {ol : tOl} {sn : tSn} {sr : tSc} {tp : Nat → tTp} {mk : tMk} {mg : tMg} {mt : tMt} {mc : tMc} {T : sxH}

def G_isCell (v0 : Int32)  : Int32 := if v0 < (0:Int32) then (0:Int32) else (if (36:Int32) ≤ v0 then (0:Int32) else (1:Int32))
set_option maxRecDepth 10000 in
theorem G_isCell_ok {v0 : Int32} {r : Int32} (hc : call = sxE sc (d + 1)) (hf : G_isCell v0 = r) (h : Q (some (.int r)) hp) : call 2 [.int v0] hp Q := by
  refine ent hc rfl (fun cl hE hm => ?_)
  unfold G_isCell at hf
  have m1 : ∀ (m1_0 : Int32), m1_0 = (if v0 < (0:Int32) then (0:Int32) else (if (36:Int32) ≤ v0 then (0:Int32) else (1:Int32))) → sxWP sc cl Q 2 (15, [some (.int v0)], [.int m1_0], hp, 0, 0) := by
    intro m1_0 em1_0
    subst em1_0
    subst hf
    refine stp hm 1 (And.intro (by (repeat' split) <;> first | exact Or.inl rfl | exact Or.inr rfl) ?_)
    exact h
  refine stp hm 2 (bs (c := v0 < (0:Int32)) (fun c2 => ?_) (fun c2 => ?_))
  · have c2 : v0 < (0:Int32) := c2
    refine stp hm 1 (?_ : sxWP sc cl Q 2 (15, [some (.int v0)], [.int (0:Int32)], hp, 0, 0))
    exact m1 _ (by rw [if_pos c2])
  · have c2 : ¬ v0 < (0:Int32) := c2
    refine stp hm 3 (bs (c := (36:Int32) ≤ v0) (fun c3 => ?_) (fun c3 => ?_))
    · have c3 : (36:Int32) ≤ v0 := c3
      refine stp hm 1 (?_ : sxWP sc cl Q 2 (15, [some (.int v0)], [.int (0:Int32)], hp, 0, 0))
      exact m1 _ (by rw [if_neg c2, if_pos c3])
    · have c3 : ¬ (36:Int32) ≤ v0 := c3
      refine stp hm 2 (?_ : sxWP sc cl Q 2 (15, [some (.int v0)], [.int (1:Int32)], hp, 0, 0))
      exact m1 _ (by rw [if_neg c2, if_neg c3])
theorem G_isCell_z {v0 : Int32}  : G_isCell v0 = 0 ∨ G_isCell v0 = 1 := by
  unfold G_isCell
  (repeat' split) <;> first | exact Or.inl rfl | exact Or.inr rfl

def X_isBit (v0 : Int32)  : Int32 := if v0 = (0:Int32) then (1:Int32) else (if v0 = (1:Int32) then (1:Int32) else (0:Int32))
set_option maxRecDepth 10000 in
theorem X_isBit_ok {v0 : Int32} {r : Int32} (hc : call = sxE sc (d + 1)) (hf : X_isBit v0 = r) (h : Q (some (.int r)) hp) : call 136 [.int v0] hp Q := by
  refine ent hc rfl (fun cl hE hm => ?_)
  unfold X_isBit at hf
  have m1 : ∀ (m1_0 : Int32), m1_0 = (if v0 = (0:Int32) then (1:Int32) else (if v0 = (1:Int32) then (1:Int32) else (0:Int32))) → sxWP sc cl Q 136 (14, [some (.int v0)], [.int m1_0], hp, 0, 0) := by
    intro m1_0 em1_0
    subst em1_0
    subst hf
    refine stp hm 1 (And.intro (by (repeat' split) <;> first | exact Or.inl rfl | exact Or.inr rfl) ?_)
    exact h
  refine stp hm 2 (bs (c := v0 = (0:Int32)) (fun c2 => ?_) (fun c2 => ?_))
  · have c2 : v0 = (0:Int32) := c2
    refine stp hm 2 (?_ : sxWP sc cl Q 136 (14, [some (.int v0)], [.int (1:Int32)], hp, 0, 0))
    exact m1 _ (by rw [if_pos c2])
  · have c2 : ¬ v0 = (0:Int32) := c2
    refine stp hm 3 (bsn (c := v0 = (1:Int32)) (fun c3 => ?_) (fun c3 => ?_))
    · have c3 : ¬ v0 = (1:Int32) := c3
      refine stp hm 1 (?_ : sxWP sc cl Q 136 (14, [some (.int v0)], [.int (0:Int32)], hp, 0, 0))
      exact m1 _ (by rw [if_neg c2, if_neg c3])
    · have c3 : v0 = (1:Int32) := c3
      refine stp hm 2 (?_ : sxWP sc cl Q 136 (14, [some (.int v0)], [.int (1:Int32)], hp, 0, 0))
      exact m1 _ (by rw [if_neg c2, if_pos c3])
theorem X_isBit_z {v0 : Int32}  : X_isBit v0 = 0 ∨ X_isBit v0 = 1 := by
  unfold X_isBit
  (repeat' split) <;> first | exact Or.inl rfl | exact Or.inr rfl

def G_holds (v0 : Int64) (v2 : Int32)  : Int32 := if (G_isCell v2) = (0:Int32) then (0:Int32) else (if (((v0.toUInt64 >>> (v2.toInt64.toUInt64 &&& Int64.toUInt64 63)).toInt64) &&& (1:Int64)) = (0:Int64) then (0:Int32) else (1:Int32))
set_option maxRecDepth 10000 in
theorem G_holds_ok {v0 : Int64} {v2 : Int32} {r : Int32} (hc : call = sxE sc (d + 2)) (hf : G_holds v0 v2 = r) (h : Q (some (.int r)) hp) : call 6 [.long v0, .int v2] hp Q := by
  refine ent hc rfl (fun cl hE hm => ?_)
  unfold G_holds at hf
  refine stp hm 2 (G_isCell_ok hE rfl ?_)
  show sxWP sc cl Q 6 (4, [some (.long v0), none, some (.int v2)], [.int (G_isCell v2)], hp, 0, 0)
  have m1 : ∀ (m1_0 : Int32), m1_0 = (if (G_isCell v2) = (0:Int32) then (0:Int32) else (if (((v0.toUInt64 >>> (v2.toInt64.toUInt64 &&& Int64.toUInt64 63)).toInt64) &&& (1:Int64)) = (0:Int64) then (0:Int32) else (1:Int32))) → sxWP sc cl Q 6 (22, [some (.long v0), none, some (.int v2)], [.int m1_0], hp, 0, 0) := by
    intro m1_0 em1_0
    subst em1_0
    subst hf
    refine stp hm 1 (And.intro (by (repeat' split) <;> first | exact Or.inl rfl | exact Or.inr rfl) ?_)
    exact h
  refine stp hm 1 (bs (c := (G_isCell v2) = (0:Int32)) (fun c2 => ?_) (fun c2 => ?_))
  · have c2 : (G_isCell v2) = (0:Int32) := c2
    refine stp hm 1 (?_ : sxWP sc cl Q 6 (22, [some (.long v0), none, some (.int v2)], [.int (0:Int32)], hp, 0, 0))
    exact m1 _ (by rw [if_pos c2])
  · have c2 : ¬ (G_isCell v2) = (0:Int32) := c2
    refine stp hm 8 (bsI (lg_cmp_eq _ _) (fun c3 => ?_) (fun c3 => ?_))
    · have c3 : (((v0.toUInt64 >>> (v2.toInt64.toUInt64 &&& Int64.toUInt64 63)).toInt64) &&& (1:Int64)) = (0:Int64) := c3
      refine stp hm 1 (?_ : sxWP sc cl Q 6 (22, [some (.long v0), none, some (.int v2)], [.int (0:Int32)], hp, 0, 0))
      exact m1 _ (by rw [if_neg c2, if_pos c3])
    · have c3 : ¬ (((v0.toUInt64 >>> (v2.toInt64.toUInt64 &&& Int64.toUInt64 63)).toInt64) &&& (1:Int64)) = (0:Int64) := c3
      refine stp hm 2 (?_ : sxWP sc cl Q 6 (22, [some (.long v0), none, some (.int v2)], [.int (1:Int32)], hp, 0, 0))
      exact m1 _ (by rw [if_neg c2, if_neg c3])
theorem G_holds_z {v0 : Int64} {v2 : Int32}  : G_holds v0 v2 = 0 ∨ G_holds v0 v2 = 1 := by
  unfold G_holds
  (repeat' split) <;> first | exact Or.inl rfl | exact Or.inr rfl | exact G_isCell_z

def G_with (v0 : Int64) (v2 : Int64) (v4 : Int32)  : Int64 := if v4 = (0:Int32) then (v0 &&& (v2 ^^^ (-1:Int64))) else (v0 ||| v2)
set_option maxRecDepth 10000 in
theorem G_with_ok {v0 : Int64} {v2 : Int64} {v4 : Int32} {r : Int64} (hc : call = sxE sc (d + 1)) (hf : G_with v0 v2 v4 = r) (h : Q (some (.long r)) hp) : call 7 [.long v0, .long v2, .int v4] hp Q := by
  refine ent hc rfl (fun cl hE hm => ?_)
  unfold G_with at hf
  have m1 : ∀ (m1_0 : Int64), m1_0 = (if v4 = (0:Int32) then (v0 &&& (v2 ^^^ (-1:Int64))) else (v0 ||| v2)) → sxWP sc cl Q 7 (18, [some (.long v0), none, some (.long v2), none, some (.int v4)], [.long m1_0], hp, 0, 0) := by
    intro m1_0 em1_0
    subst em1_0
    subst hf
    refine stp hm 1 ?_
    exact h
  refine stp hm 2 (bs (c := v4 = (0:Int32)) (fun c2 => ?_) (fun c2 => ?_))
  · have c2 : v4 = (0:Int32) := c2
    refine stp hm 5 (?_ : sxWP sc cl Q 7 (18, [some (.long v0), none, some (.long v2), none, some (.int v4)], [.long (v0 &&& (v2 ^^^ (-1:Int64)))], hp, 0, 0))
    exact m1 _ (by rw [if_pos c2])
  · have c2 : ¬ v4 = (0:Int32) := c2
    refine stp hm 4 (?_ : sxWP sc cl Q 7 (18, [some (.long v0), none, some (.long v2), none, some (.int v4)], [.long (v0 ||| v2)], hp, 0, 0))
    exact m1 _ (by rw [if_neg c2])

def S_become_j19  (nrg_j : Int64) (nld_j : Int32) : Option (Int64 × Int32) := some (nrg_j, nld_j)
def S_become (v1 : Int64) (nrg : Int64) (nld : Int32) : Option (Int64 × Int32) := if v1 = nrg then (S_become_j19 nrg nld) else (S_become_j19 v1 (0:Int32))
set_option maxRecDepth 10000 in
theorem S_become_ok {v1 : Int64} {q : (Int64 × Int32)} (hc : call = sxE sc (d + 1)) (hf : S_become v1 nw.1 nw.2.1 = some q) (h : Q none (cW (q.1, q.2, nw.2.2.1, nw.2.2.2.1, nw.2.2.2.2.1, nw.2.2.2.2.2.1, nw.2.2.2.2.2.2) kp im ol sn sr tp (mW mk mg mt mc T))) : call 62 [.ref 1, .long v1] (cW nw kp im ol sn sr tp (mW mk mg mt mc T)) Q := by
  refine ent hc rfl (fun cl hE hm => ?_)
  have J19 : ∀ (nrg_j : Int64) (nld_j : Int32) (z0 : Option Value) (z1 : Option Value) (z2 : Option Value), S_become_j19 nrg_j nld_j = some q → sxWP sc cl Q 62 (19, [z0, z1, z2], [], (cW (nrg_j, nld_j, nw.2.2.1, nw.2.2.2.1, nw.2.2.2.2.1, nw.2.2.2.2.2.1, nw.2.2.2.2.2.2) kp im ol sn sr tp (mW mk mg mt mc T)), 0, 0) := by
    intro nrg_j nld_j z0 z1 z2 hf
    unfold S_become_j19 at hf
    obtain rfl := Option.some.inj hf
    refine stp hm 1 ?_
    exact h
  unfold S_become at hf
  refine stp hm 5 (brI (lg_cmp_eq _ _) hf (fun c1 hf => ?_) (fun c1 hf => ?_))
  · show sxWP sc cl Q 62 (19, [some (.ref 1), some (.long v1), none], [], (cW nw kp im ol sn sr tp (mW mk mg mt mc T)), 0, 0)
    exact J19 _ _ _ _ _ hf
  · show sxWP sc cl Q 62 (9, [some (.ref 1), some (.long v1), none], [], (cW nw kp im ol sn sr tp (mW mk mg mt mc T)), 0, 0)
    refine stp hm 6 (And.intro (Or.inl rfl) (?_ : sxWP sc cl Q 62 (19, [some (.ref 1), some (.long v1), none], [], (cW (v1, (0:Int32), nw.2.2.1, nw.2.2.2.1, nw.2.2.2.2.1, nw.2.2.2.2.2.1, nw.2.2.2.2.2.2) kp im ol sn sr tp (mW mk mg mt mc T)), 0, 0)))
    exact J19 _ _ _ _ _ hf

def X_bit (v0 : Int32)  : Int32 := if v0 = (0:Int32) then (0:Int32) else (1:Int32)
set_option maxRecDepth 10000 in
theorem X_bit_ok {v0 : Int32} {r : Int32} (hc : call = sxE sc (d + 1)) (hf : X_bit v0 = r) (h : Q (some (.int r)) hp) : call 137 [.int v0] hp Q := by
  refine ent hc rfl (fun cl hE hm => ?_)
  unfold X_bit at hf
  have m1 : ∀ (m1_0 : Int32), m1_0 = (if v0 = (0:Int32) then (0:Int32) else (1:Int32)) → sxWP sc cl Q 137 (9, [some (.int v0)], [.int m1_0], hp, 0, 0) := by
    intro m1_0 em1_0
    subst em1_0
    subst hf
    refine stp hm 1 ?_
    exact h
  refine stp hm 2 (bs (c := v0 = (0:Int32)) (fun c2 => ?_) (fun c2 => ?_))
  · have c2 : v0 = (0:Int32) := c2
    refine stp hm 1 (?_ : sxWP sc cl Q 137 (9, [some (.int v0)], [.int (0:Int32)], hp, 0, 0))
    exact m1 _ (by rw [if_pos c2])
  · have c2 : ¬ v0 = (0:Int32) := c2
    refine stp hm 2 (?_ : sxWP sc cl Q 137 (9, [some (.int v0)], [.int (1:Int32)], hp, 0, 0))
    exact m1 _ (by rw [if_neg c2])

def X_cell (v1 : Int32) (v2 : Int32) (nrg : Int64) (nld : Int32) : Option (Int32 × Int64 × Int32) := if (G_isCell v1) = (0:Int32) then (some ((-1:Int32), nrg, nld)) else (if (X_isBit v2) = (0:Int32) then (some ((-2:Int32), nrg, nld)) else (Option.bind (S_become (G_with nrg ((1:Int64) <<< (v1.toInt64 &&& 63)) (if v2 = (1:Int32) then (1:Int32) else (0:Int32))) nrg nld) (fun q4 => some (X_bit (G_holds nrg v1), q4.1, q4.2))))
set_option maxRecDepth 10000 in
theorem X_cell_ok {v1 : Int32} {v2 : Int32} {q : (Int32 × Int64 × Int32)} (hc : call = sxE sc (d + 3)) (hf : X_cell v1 v2 nw.1 nw.2.1 = some q) (h : Q (some (.int q.1)) (cW (q.2.1, q.2.2, nw.2.2.1, nw.2.2.2.1, nw.2.2.2.2.1, nw.2.2.2.2.2.1, nw.2.2.2.2.2.2) kp im ol sn sr tp (mW mk mg mt mc T))) : call 91 [.ref 0, .int v1, .int v2] (cW nw kp im ol sn sr tp (mW mk mg mt mc T)) Q := by
  refine ent hc rfl (fun cl hE hm => ?_)
  unfold X_cell at hf
  refine stp hm 2 (G_isCell_ok hE rfl ?_)
  show sxWP sc cl Q 91 (4, [some (.ref 0), some (.int v1), some (.int v2), none], [.int (G_isCell v1)], (cW nw kp im ol sn sr tp (mW mk mg mt mc T)), 0, 0)
  refine stp hm 1 (brn hf (fun c1 hf => ?_) (fun c1 hf => ?_))
  · show sxWP sc cl Q 91 (9, [some (.ref 0), some (.int v1), some (.int v2), none], [], (cW nw kp im ol sn sr tp (mW mk mg mt mc T)), 0, 0)
    refine stp hm 2 (X_isBit_ok hE rfl ?_)
    show sxWP sc cl Q 91 (13, [some (.ref 0), some (.int v1), some (.int v2), none], [.int (X_isBit v2)], (cW nw kp im ol sn sr tp (mW mk mg mt mc T)), 0, 0)
    refine stp hm 1 (brn hf (fun c2 hf => ?_) (fun c2 hf => ?_))
    · show sxWP sc cl Q 91 (19, [some (.ref 0), some (.int v1), some (.int v2), none], [], (cW nw kp im ol sn sr tp (mW mk mg mt mc T)), 0, 0)
      refine stp hm 5 (G_holds_ok hE rfl ?_)
      show sxWP sc cl Q 91 (30, [some (.ref 0), some (.int v1), some (.int v2), none], [.int (G_holds nw.1 v1)], (cW nw kp im ol sn sr tp (mW mk mg mt mc T)), 0, 0)
      have m3 : ∀ (m3_0 : Int32), m3_0 = (if v2 = (1:Int32) then (1:Int32) else (0:Int32)) → sxWP sc cl Q 91 (55, [some (.ref 0), some (.int v1), some (.int v2), some (.int (G_holds nw.1 v1))], [.int m3_0, .long ((1:Int64) <<< (v1.toInt64 &&& 63)), .long nw.1, .ref 1], (cW nw kp im ol sn sr tp (mW mk mg mt mc T)), 0, 0) := by
        intro m3_0 em3_0
        subst em3_0
        refine stp hm 1 (G_with_ok hE rfl ?_)
        show sxWP sc cl Q 91 (58, [some (.ref 0), some (.int v1), some (.int v2), some (.int (G_holds nw.1 v1))], [.long (G_with nw.1 ((1:Int64) <<< (v1.toInt64 &&& 63)) (if v2 = (1:Int32) then (1:Int32) else (0:Int32))), .ref 1], (cW nw kp im ol sn sr tp (mW mk mg mt mc T)), 0, 0)
        obtain ⟨q4, hq4, hf⟩ := bnd hf
        refine stp hm 1 (S_become_ok hE hq4 ?_)
        show sxWP sc cl Q 91 (61, [some (.ref 0), some (.int v1), some (.int v2), some (.int (G_holds nw.1 v1))], [], (cW (q4.1, q4.2, nw.2.2.1, nw.2.2.2.1, nw.2.2.2.2.1, nw.2.2.2.2.2.1, nw.2.2.2.2.2.2) kp im ol sn sr tp (mW mk mg mt mc T)), 0, 0)
        refine stp hm 2 (X_bit_ok hE rfl ?_)
        show sxWP sc cl Q 91 (65, [some (.ref 0), some (.int v1), some (.int v2), some (.int (G_holds nw.1 v1))], [.int (X_bit (G_holds nw.1 v1))], (cW (q4.1, q4.2, nw.2.2.1, nw.2.2.2.1, nw.2.2.2.2.1, nw.2.2.2.2.2.1, nw.2.2.2.2.2.2) kp im ol sn sr tp (mW mk mg mt mc T)), 0, 0)
        obtain rfl := Option.some.inj hf
        refine stp hm 1 ?_
        exact h
      refine stp hm 12 (bsn (c := v2 = (1:Int32)) (fun c5 => ?_) (fun c5 => ?_))
      · have c5 : ¬ v2 = (1:Int32) := c5
        refine stp hm 1 (?_ : sxWP sc cl Q 91 (55, [some (.ref 0), some (.int v1), some (.int v2), some (.int (G_holds nw.1 v1))], [.int (0:Int32), .long ((1:Int64) <<< (v1.toInt64 &&& 63)), .long nw.1, .ref 1], (cW nw kp im ol sn sr tp (mW mk mg mt mc T)), 0, 0))
        exact m3 _ (by rw [if_neg c5])
      · have c5 : v2 = (1:Int32) := c5
        refine stp hm 2 (?_ : sxWP sc cl Q 91 (55, [some (.ref 0), some (.int v1), some (.int v2), some (.int (G_holds nw.1 v1))], [.int (1:Int32), .long ((1:Int64) <<< (v1.toInt64 &&& 63)), .long nw.1, .ref 1], (cW nw kp im ol sn sr tp (mW mk mg mt mc T)), 0, 0))
        exact m3 _ (by rw [if_pos c5])
    · show sxWP sc cl Q 91 (16, [some (.ref 0), some (.int v1), some (.int v2), none], [], (cW nw kp im ol sn sr tp (mW mk mg mt mc T)), 0, 0)
      obtain rfl := Option.some.inj hf
      refine stp hm 2 ?_
      exact h
  · show sxWP sc cl Q 91 (7, [some (.ref 0), some (.int v1), some (.int v2), none], [], (cW nw kp im ol sn sr tp (mW mk mg mt mc T)), 0, 0)
    obtain rfl := Option.some.inj hf
    refine stp hm 2 ?_
    exact h

def M_isIn (v0 : Int32) (v1 : Int32) (v2 : Int32)  : Int32 := if v0 < v1 then (0:Int32) else (if v2 < v0 then (0:Int32) else (1:Int32))
set_option maxRecDepth 10000 in
theorem M_isIn_ok {v0 : Int32} {v1 : Int32} {v2 : Int32} {r : Int32} (hc : call = sxE sc (d + 1)) (hf : M_isIn v0 v1 v2 = r) (h : Q (some (.int r)) hp) : call 139 [.int v0, .int v1, .int v2] hp Q := by
  refine ent hc rfl (fun cl hE hm => ?_)
  unfold M_isIn at hf
  have m1 : ∀ (m1_0 : Int32), m1_0 = (if v0 < v1 then (0:Int32) else (if v2 < v0 then (0:Int32) else (1:Int32))) → sxWP sc cl Q 139 (15, [some (.int v0), some (.int v1), some (.int v2)], [.int m1_0], hp, 0, 0) := by
    intro m1_0 em1_0
    subst em1_0
    subst hf
    refine stp hm 1 (And.intro (by (repeat' split) <;> first | exact Or.inl rfl | exact Or.inr rfl) ?_)
    exact h
  refine stp hm 3 (bs (c := v0 < v1) (fun c2 => ?_) (fun c2 => ?_))
  · have c2 : v0 < v1 := c2
    refine stp hm 1 (?_ : sxWP sc cl Q 139 (15, [some (.int v0), some (.int v1), some (.int v2)], [.int (0:Int32)], hp, 0, 0))
    exact m1 _ (by rw [if_pos c2])
  · have c2 : ¬ v0 < v1 := c2
    refine stp hm 3 (bs (c := v2 < v0) (fun c3 => ?_) (fun c3 => ?_))
    · have c3 : v2 < v0 := c3
      refine stp hm 1 (?_ : sxWP sc cl Q 139 (15, [some (.int v0), some (.int v1), some (.int v2)], [.int (0:Int32)], hp, 0, 0))
      exact m1 _ (by rw [if_neg c2, if_pos c3])
    · have c3 : ¬ v2 < v0 := c3
      refine stp hm 2 (?_ : sxWP sc cl Q 139 (15, [some (.int v0), some (.int v1), some (.int v2)], [.int (1:Int32)], hp, 0, 0))
      exact m1 _ (by rw [if_neg c2, if_neg c3])
theorem M_isIn_z {v0 : Int32} {v1 : Int32} {v2 : Int32}  : M_isIn v0 v1 v2 = 0 ∨ M_isIn v0 v1 v2 = 1 := by
  unfold M_isIn
  (repeat' split) <;> first | exact Or.inl rfl | exact Or.inr rfl

def M_isCell (v0 : Int32)  : Int32 := M_isIn v0 (0:Int32) (35:Int32)
set_option maxRecDepth 10000 in
theorem M_isCell_ok {v0 : Int32} {r : Int32} (hc : call = sxE sc (d + 2)) (hf : M_isCell v0 = r) (h : Q (some (.int r)) hp) : call 140 [.int v0] hp Q := by
  refine ent hc rfl (fun cl hE hm => ?_)
  unfold M_isCell at hf
  refine stp hm 4 (M_isIn_ok hE rfl ?_)
  show sxWP sc cl Q 140 (7, [some (.int v0)], [.int (M_isIn v0 (0:Int32) (35:Int32))], hp, 0, 0)
  subst hf
  refine stp hm 1 (And.intro (M_isIn_z) ?_)
  exact h
theorem M_isCell_z {v0 : Int32}  : M_isCell v0 = 0 ∨ M_isCell v0 = 1 := by
  unfold M_isCell
  (repeat' split) <;> first | exact Or.inl rfl | exact Or.inr rfl | exact M_isIn_z

def M_has (v1 : Int32) (mrg : Int64) : Int32 := if ((mrg >>> (v1.toInt64 &&& 63)) &&& (1:Int64)) = (1:Int64) then (1:Int32) else (0:Int32)
set_option maxRecDepth 10000 in
theorem M_has_ok {v1 : Int32} {r : Int32} (hc : call = sxE sc (d + 1)) (hf : M_has v1 mk.1 = r) (h : Q (some (.int r)) (cW nw kp im ol sn sr tp (mW mk mg mt mc T))) : call 142 [.ref 59, .int v1] (cW nw kp im ol sn sr tp (mW mk mg mt mc T)) Q := by
  refine ent hc rfl (fun cl hE hm => ?_)
  unfold M_has at hf
  have m1 : ∀ (m1_0 : Int32), m1_0 = (if ((mk.1 >>> (v1.toInt64 &&& 63)) &&& (1:Int64)) = (1:Int64) then (1:Int32) else (0:Int32)) → sxWP sc cl Q 142 (18, [some (.ref 59), some (.int v1)], [.int m1_0], (cW nw kp im ol sn sr tp (mW mk mg mt mc T)), 0, 0) := by
    intro m1_0 em1_0
    subst em1_0
    subst hf
    refine stp hm 1 (And.intro (by (repeat' split) <;> first | exact Or.inl rfl | exact Or.inr rfl) ?_)
    exact h
  refine stp hm 9 (bsnI (lg_cmp_eq _ _) (fun c2 => ?_) (fun c2 => ?_))
  · have c2 : ¬ ((mk.1 >>> (v1.toInt64 &&& 63)) &&& (1:Int64)) = (1:Int64) := c2
    refine stp hm 1 (?_ : sxWP sc cl Q 142 (18, [some (.ref 59), some (.int v1)], [.int (0:Int32)], (cW nw kp im ol sn sr tp (mW mk mg mt mc T)), 0, 0))
    exact m1 _ (by rw [if_neg c2])
  · have c2 : ((mk.1 >>> (v1.toInt64 &&& 63)) &&& (1:Int64)) = (1:Int64) := c2
    refine stp hm 2 (?_ : sxWP sc cl Q 142 (18, [some (.ref 59), some (.int v1)], [.int (1:Int32)], (cW nw kp im ol sn sr tp (mW mk mg mt mc T)), 0, 0))
    exact m1 _ (by rw [if_pos c2])
theorem M_has_z {v1 : Int32} {mrg : Int64} : M_has v1 mrg = 0 ∨ M_has v1 mrg = 1 := by
  unfold M_has
  (repeat' split) <;> first | exact Or.inl rfl | exact Or.inr rfl

def M_clears_s9   (s : (Int32 × (Nat → Int32))) : Option ((Int32 × (Nat → Int32)) ⊕ (Nat → Int32)) := if (36:Int32) ≤ s.1 then (some (Sum.inr s.2)) else (grd (gi ((6:Int32) + s.1) 122) (some (Sum.inl (s.1 + (1:Int32), upd s.2 ((6:Int32) + s.1).toNatClampNeg (-5:Int32)))))
def M_clears  (ms : (Nat → Int32)) : Option (Nat → Int32) := grd (gi (0:Int32) 122) (Option.bind (wh (M_clears_s9) FU ((0:Int32), upd ms (0:Int32).toNatClampNeg (0:Int32))) (fun w2 => some w2))
set_option maxRecDepth 10000 in
theorem M_clears_l9    (hE : cl = sxE sc (d + 0)) (hm : CallMono cl) : ∀ (n : Nat) (s : (Int32 × (Nat → Int32))) (r : (Nat → Int32)), wh (M_clears_s9) n s = some r → (∀ (z0 z1 : Option Value), sxWP sc cl Q 149 (32, [z0, z1], [], (cW nw kp im ol sn sr tp (mW (mk.1, mk.2.1, r, mk.2.2.2.1, mk.2.2.2.2.1, mk.2.2.2.2.2.1, mk.2.2.2.2.2.2.1, mk.2.2.2.2.2.2.2.1, mk.2.2.2.2.2.2.2.2.1, mk.2.2.2.2.2.2.2.2.2) mg mt mc T)), 0, 0)) → sxWP sc cl Q 149 (9, [some (.ref 59), some (.int s.1)], [], (cW nw kp im ol sn sr tp (mW (mk.1, mk.2.1, s.2, mk.2.2.2.1, mk.2.2.2.2.1, mk.2.2.2.2.2.1, mk.2.2.2.2.2.2.1, mk.2.2.2.2.2.2.2.1, mk.2.2.2.2.2.2.2.2.1, mk.2.2.2.2.2.2.2.2.2) mg mt mc T)), 0, 0) := by
  refine wh_run (A := fun (s : (Int32 × (Nat → Int32))) => sxWP sc cl Q 149 (9, [some (.ref 59), some (.int s.1)], [], (cW nw kp im ol sn sr tp (mW (mk.1, mk.2.1, s.2, mk.2.2.2.1, mk.2.2.2.2.1, mk.2.2.2.2.2.1, mk.2.2.2.2.2.2.1, mk.2.2.2.2.2.2.2.1, mk.2.2.2.2.2.2.2.2.1, mk.2.2.2.2.2.2.2.2.2) mg mt mc T)), 0, 0)) (B := fun (r : (Nat → Int32)) => ∀ (z0 z1 : Option Value), sxWP sc cl Q 149 (32, [z0, z1], [], (cW nw kp im ol sn sr tp (mW (mk.1, mk.2.1, r, mk.2.2.2.1, mk.2.2.2.2.1, mk.2.2.2.2.2.1, mk.2.2.2.2.2.2.1, mk.2.2.2.2.2.2.2.1, mk.2.2.2.2.2.2.2.2.1, mk.2.2.2.2.2.2.2.2.2) mg mt mc T)), 0, 0)) (fun s x hf hA hB => ?_)
  unfold M_clears_s9 at hf
  refine stp hm 3 (br hf (fun c1 hf => ?_) (fun c1 hf => ?_))
  · show sxWP sc cl Q 149 (32, [some (.ref 59), some (.int s.1)], [], (cW nw kp im ol sn sr tp (mW (mk.1, mk.2.1, s.2, mk.2.2.2.1, mk.2.2.2.2.1, mk.2.2.2.2.2.1, mk.2.2.2.2.2.2.1, mk.2.2.2.2.2.2.2.1, mk.2.2.2.2.2.2.2.2.1, mk.2.2.2.2.2.2.2.2.2) mg mt mc T)), 0, 0)
    obtain rfl := Option.some.inj hf
    exact hB _ rfl _ _
  · show sxWP sc cl Q 149 (15, [some (.ref 59), some (.int s.1)], [], (cW nw kp im ol sn sr tp (mW (mk.1, mk.2.1, s.2, mk.2.2.2.1, mk.2.2.2.2.1, mk.2.2.2.2.2.1, mk.2.2.2.2.2.2.1, mk.2.2.2.2.2.2.2.1, mk.2.2.2.2.2.2.2.2.1, mk.2.2.2.2.2.2.2.2.2) mg mt mc T)), 0, 0)
    obtain ⟨g2, hf⟩ := grd_e hf
    refine stp hm 7 (And.intro (gi_in g2) (?_ : sxWP sc cl Q 149 (26, [some (.ref 59), some (.int s.1)], [], (cW nw kp im ol sn sr tp (mW (mk.1, mk.2.1, upd s.2 ((6:Int32) + s.1).toNatClampNeg (-5:Int32), mk.2.2.2.1, mk.2.2.2.2.1, mk.2.2.2.2.2.1, mk.2.2.2.2.2.2.1, mk.2.2.2.2.2.2.2.1, mk.2.2.2.2.2.2.2.2.1, mk.2.2.2.2.2.2.2.2.2) mg mt mc T)), 0, 0)))
    obtain rfl := Option.some.inj hf
    refine stp hm 2 (?_ : sxWP sc cl Q 149 (9, [some (.ref 59), some (.int (s.1 + (1:Int32)))], [], (cW nw kp im ol sn sr tp (mW (mk.1, mk.2.1, upd s.2 ((6:Int32) + s.1).toNatClampNeg (-5:Int32), mk.2.2.2.1, mk.2.2.2.2.1, mk.2.2.2.2.2.1, mk.2.2.2.2.2.2.1, mk.2.2.2.2.2.2.2.1, mk.2.2.2.2.2.2.2.2.1, mk.2.2.2.2.2.2.2.2.2) mg mt mc T)), 0, 0))
    exact hA _ rfl
set_option maxRecDepth 10000 in
theorem M_clears_ok  {q : (Nat → Int32)} (hc : call = sxE sc (d + 1)) (hf : M_clears mk.2.2.1 = some q) (h : Q none (cW nw kp im ol sn sr tp (mW (mk.1, mk.2.1, q, mk.2.2.2.1, mk.2.2.2.2.1, mk.2.2.2.2.2.1, mk.2.2.2.2.2.2.1, mk.2.2.2.2.2.2.2.1, mk.2.2.2.2.2.2.2.2.1, mk.2.2.2.2.2.2.2.2.2) mg mt mc T))) : call 149 [.ref 59] (cW nw kp im ol sn sr tp (mW mk mg mt mc T)) Q := by
  refine ent hc rfl (fun cl hE hm => ?_)
  unfold M_clears at hf
  obtain ⟨g1, hf⟩ := grd_e hf
  refine stp hm 5 (And.intro (gi_in g1) (?_ : sxWP sc cl Q 149 (7, [some (.ref 59), none], [], (cW nw kp im ol sn sr tp (mW (mk.1, mk.2.1, upd mk.2.2.1 (0:Int32).toNatClampNeg (0:Int32), mk.2.2.2.1, mk.2.2.2.2.1, mk.2.2.2.2.2.1, mk.2.2.2.2.2.2.1, mk.2.2.2.2.2.2.2.1, mk.2.2.2.2.2.2.2.2.1, mk.2.2.2.2.2.2.2.2.2) mg mt mc T)), 0, 0)))
  obtain ⟨w2, hw2, hf⟩ := bnd hf
  refine stp hm 2 (?_ : sxWP sc cl Q 149 (9, [some (.ref 59), some (.int (0:Int32))], [], (cW nw kp im ol sn sr tp (mW (mk.1, mk.2.1, upd mk.2.2.1 (0:Int32).toNatClampNeg (0:Int32), mk.2.2.2.1, mk.2.2.2.2.1, mk.2.2.2.2.2.1, mk.2.2.2.2.2.2.1, mk.2.2.2.2.2.2.2.1, mk.2.2.2.2.2.2.2.2.1, mk.2.2.2.2.2.2.2.2.2) mg mt mc T)), 0, 0))
  refine M_clears_l9 hE hm _ _ _ hw2 ?_
  intro w2_z0 w2_z1
  show sxWP sc cl Q 149 (32, [w2_z0, w2_z1], [], (cW nw kp im ol sn sr tp (mW (mk.1, mk.2.1, w2, mk.2.2.2.1, mk.2.2.2.2.1, mk.2.2.2.2.2.1, mk.2.2.2.2.2.2.1, mk.2.2.2.2.2.2.2.1, mk.2.2.2.2.2.2.2.2.1, mk.2.2.2.2.2.2.2.2.2) mg mt mc T)), 0, 0)
  obtain rfl := Option.some.inj hf
  refine stp hm 1 ?_
  exact h

def M_becomes_j13  (v1 : Int64) (ms_j : (Nat → Int32)) : Option (Int64 × (Nat → Int32)) := some (v1, ms_j)
def M_becomes (v1 : Int64) (mrg : Int64) (ms : (Nat → Int32)) : Option (Int64 × (Nat → Int32)) := if v1 = mrg then (M_becomes_j13 v1 ms) else (Option.bind (M_clears ms) (fun q2 => M_becomes_j13 v1 q2))
set_option maxRecDepth 10000 in
theorem M_becomes_ok {v1 : Int64} {q : (Int64 × (Nat → Int32))} (hc : call = sxE sc (d + 2)) (hf : M_becomes v1 mk.1 mk.2.2.1 = some q) (h : Q none (cW nw kp im ol sn sr tp (mW (q.1, mk.2.1, q.2, mk.2.2.2.1, mk.2.2.2.2.1, mk.2.2.2.2.2.1, mk.2.2.2.2.2.2.1, mk.2.2.2.2.2.2.2.1, mk.2.2.2.2.2.2.2.2.1, mk.2.2.2.2.2.2.2.2.2) mg mt mc T))) : call 150 [.ref 59, .long v1] (cW nw kp im ol sn sr tp (mW mk mg mt mc T)) Q := by
  refine ent hc rfl (fun cl hE hm => ?_)
  have J13 : ∀ (v1 : Int64) (mrg_j : Int64) (ms_j : (Nat → Int32)), M_becomes_j13 v1 ms_j = some q → sxWP sc cl Q 150 (13, [some (.ref 59), some (.long v1), none], [], (cW nw kp im ol sn sr tp (mW (mrg_j, mk.2.1, ms_j, mk.2.2.2.1, mk.2.2.2.2.1, mk.2.2.2.2.2.1, mk.2.2.2.2.2.2.1, mk.2.2.2.2.2.2.2.1, mk.2.2.2.2.2.2.2.2.1, mk.2.2.2.2.2.2.2.2.2) mg mt mc T)), 0, 0) := by
    intro v1 mrg_j ms_j hf
    unfold M_becomes_j13 at hf
    obtain rfl := Option.some.inj hf
    refine stp hm 4 ?_
    exact h
  unfold M_becomes at hf
  refine stp hm 5 (brI (lg_cmp_eq _ _) hf (fun c1 hf => ?_) (fun c1 hf => ?_))
  · show sxWP sc cl Q 150 (13, [some (.ref 59), some (.long v1), none], [], (cW nw kp im ol sn sr tp (mW mk mg mt mc T)), 0, 0)
    exact J13 _ _ _ hf
  · show sxWP sc cl Q 150 (9, [some (.ref 59), some (.long v1), none], [], (cW nw kp im ol sn sr tp (mW mk mg mt mc T)), 0, 0)
    obtain ⟨q2, hq2, hf⟩ := bnd hf
    refine stp hm 2 (M_clears_ok hE hq2 ?_)
    show sxWP sc cl Q 150 (13, [some (.ref 59), some (.long v1), none], [], (cW nw kp im ol sn sr tp (mW (mk.1, mk.2.1, q2, mk.2.2.2.1, mk.2.2.2.2.1, mk.2.2.2.2.2.1, mk.2.2.2.2.2.2.1, mk.2.2.2.2.2.2.2.1, mk.2.2.2.2.2.2.2.2.1, mk.2.2.2.2.2.2.2.2.2) mg mt mc T)), 0, 0)
    exact J13 _ _ _ hf

def M_cell_j52  (v3 : Int32) (mrg_j : Int64) (ms_j : (Nat → Int32)) : Option (Int32 × Int64 × (Nat → Int32)) := some (v3, mrg_j, ms_j)
def M_cell (v1 : Int32) (v2 : Int32) (mrg : Int64) (ms : (Nat → Int32)) : Option (Int32 × Int64 × (Nat → Int32)) := if (M_isCell v1) = (0:Int32) then (some ((-1:Int32), mrg, ms)) else (if (M_isIn v2 (0:Int32) (1:Int32)) = (0:Int32) then (some ((-2:Int32), mrg, ms)) else (if (if (M_has v1 mrg) = (0:Int32) then (0:Int32) else (1:Int32)) = v2 then (M_cell_j52 (if (M_has v1 mrg) = (0:Int32) then (0:Int32) else (1:Int32)) mrg ms) else (Option.bind (M_becomes (mrg ^^^ ((1:Int64) <<< (v1.toInt64 &&& 63))) mrg ms) (fun q5 => M_cell_j52 (if (M_has v1 mrg) = (0:Int32) then (0:Int32) else (1:Int32)) q5.1 q5.2))))
set_option maxRecDepth 10000 in
theorem M_cell_ok {v1 : Int32} {v2 : Int32} {q : (Int32 × Int64 × (Nat → Int32))} (hc : call = sxE sc (d + 3)) (hf : M_cell v1 v2 mk.1 mk.2.2.1 = some q) (h : Q (some (.int q.1)) (cW nw kp im ol sn sr tp (mW (q.2.1, mk.2.1, q.2.2, mk.2.2.2.1, mk.2.2.2.2.1, mk.2.2.2.2.2.1, mk.2.2.2.2.2.2.1, mk.2.2.2.2.2.2.2.1, mk.2.2.2.2.2.2.2.2.1, mk.2.2.2.2.2.2.2.2.2) mg mt mc T))) : call 153 [.ref 59, .int v1, .int v2] (cW nw kp im ol sn sr tp (mW mk mg mt mc T)) Q := by
  refine ent hc rfl (fun cl hE hm => ?_)
  have J52 : ∀ (v3 : Int32) (mrg_j : Int64) (ms_j : (Nat → Int32)) (z0 : Option Value) (z1 : Option Value) (z2 : Option Value), M_cell_j52 v3 mrg_j ms_j = some q → sxWP sc cl Q 153 (52, [z0, z1, z2, some (.int v3)], [], (cW nw kp im ol sn sr tp (mW (mrg_j, mk.2.1, ms_j, mk.2.2.2.1, mk.2.2.2.2.1, mk.2.2.2.2.2.1, mk.2.2.2.2.2.2.1, mk.2.2.2.2.2.2.2.1, mk.2.2.2.2.2.2.2.2.1, mk.2.2.2.2.2.2.2.2.2) mg mt mc T)), 0, 0) := by
    intro v3 mrg_j ms_j z0 z1 z2 hf
    unfold M_cell_j52 at hf
    obtain rfl := Option.some.inj hf
    refine stp hm 2 ?_
    exact h
  unfold M_cell at hf
  refine stp hm 2 (M_isCell_ok hE rfl ?_)
  show sxWP sc cl Q 153 (4, [some (.ref 59), some (.int v1), some (.int v2), none], [.int (M_isCell v1)], (cW nw kp im ol sn sr tp (mW mk mg mt mc T)), 0, 0)
  refine stp hm 1 (brn hf (fun c1 hf => ?_) (fun c1 hf => ?_))
  · show sxWP sc cl Q 153 (9, [some (.ref 59), some (.int v1), some (.int v2), none], [], (cW nw kp im ol sn sr tp (mW mk mg mt mc T)), 0, 0)
    refine stp hm 4 (M_isIn_ok hE rfl ?_)
    show sxWP sc cl Q 153 (15, [some (.ref 59), some (.int v1), some (.int v2), none], [.int (M_isIn v2 (0:Int32) (1:Int32))], (cW nw kp im ol sn sr tp (mW mk mg mt mc T)), 0, 0)
    refine stp hm 1 (brn hf (fun c2 hf => ?_) (fun c2 hf => ?_))
    · show sxWP sc cl Q 153 (21, [some (.ref 59), some (.int v1), some (.int v2), none], [], (cW nw kp im ol sn sr tp (mW mk mg mt mc T)), 0, 0)
      refine stp hm 3 (M_has_ok hE rfl ?_)
      show sxWP sc cl Q 153 (26, [some (.ref 59), some (.int v1), some (.int v2), none], [.int (M_has v1 mk.1)], (cW nw kp im ol sn sr tp (mW mk mg mt mc T)), 0, 0)
      have m3 : ∀ (m3_0 : Int32), m3_0 = (if (M_has v1 mk.1) = (0:Int32) then (0:Int32) else (1:Int32)) → sxWP sc cl Q 153 (34, [some (.ref 59), some (.int v1), some (.int v2), none], [.int m3_0], (cW nw kp im ol sn sr tp (mW mk mg mt mc T)), 0, 0) := by
        intro m3_0 em3_0
        subst em3_0
        refine stp hm 4 (br hf (fun c4 hf => ?_) (fun c4 hf => ?_))
        · show sxWP sc cl Q 153 (52, [some (.ref 59), some (.int v1), some (.int v2), some (.int (if (M_has v1 mk.1) = (0:Int32) then (0:Int32) else (1:Int32)))], [], (cW nw kp im ol sn sr tp (mW mk mg mt mc T)), 0, 0)
          exact J52 _ _ _ _ _ _ hf
        · show sxWP sc cl Q 153 (40, [some (.ref 59), some (.int v1), some (.int v2), some (.int (if (M_has v1 mk.1) = (0:Int32) then (0:Int32) else (1:Int32)))], [], (cW nw kp im ol sn sr tp (mW mk mg mt mc T)), 0, 0)
          obtain ⟨q5, hq5, hf⟩ := bnd hf
          refine stp hm 8 (M_becomes_ok hE hq5 ?_)
          show sxWP sc cl Q 153 (52, [some (.ref 59), some (.int v1), some (.int v2), some (.int (if (M_has v1 mk.1) = (0:Int32) then (0:Int32) else (1:Int32)))], [], (cW nw kp im ol sn sr tp (mW (q5.1, mk.2.1, q5.2, mk.2.2.2.1, mk.2.2.2.2.1, mk.2.2.2.2.2.1, mk.2.2.2.2.2.2.1, mk.2.2.2.2.2.2.2.1, mk.2.2.2.2.2.2.2.2.1, mk.2.2.2.2.2.2.2.2.2) mg mt mc T)), 0, 0)
          exact J52 _ _ _ _ _ _ hf
      refine stp hm 1 (bs (c := (M_has v1 mk.1) = (0:Int32)) (fun c6 => ?_) (fun c6 => ?_))
      · have c6 : (M_has v1 mk.1) = (0:Int32) := c6
        refine stp hm 1 (?_ : sxWP sc cl Q 153 (34, [some (.ref 59), some (.int v1), some (.int v2), none], [.int (0:Int32)], (cW nw kp im ol sn sr tp (mW mk mg mt mc T)), 0, 0))
        exact m3 _ (by rw [if_pos c6])
      · have c6 : ¬ (M_has v1 mk.1) = (0:Int32) := c6
        refine stp hm 2 (?_ : sxWP sc cl Q 153 (34, [some (.ref 59), some (.int v1), some (.int v2), none], [.int (1:Int32)], (cW nw kp im ol sn sr tp (mW mk mg mt mc T)), 0, 0))
        exact m3 _ (by rw [if_neg c6])
    · show sxWP sc cl Q 153 (18, [some (.ref 59), some (.int v1), some (.int v2), none], [], (cW nw kp im ol sn sr tp (mW mk mg mt mc T)), 0, 0)
      obtain rfl := Option.some.inj hf
      refine stp hm 2 ?_
      exact h
  · show sxWP sc cl Q 153 (7, [some (.ref 59), some (.int v1), some (.int v2), none], [], (cW nw kp im ol sn sr tp (mW mk mg mt mc T)), 0, 0)
    obtain rfl := Option.some.inj hf
    refine stp hm 2 ?_
    exact h

def G_block_s46  (v1 : Int32) (v4 : Int32) (s : (Int64 × Int32)) : Option ((Int64 × Int32) ⊕ Int64) := if (v1 - v1 / (6:Int32) * (6:Int32)) < s.2 then (some (Sum.inr s.1)) else (if (6:Int32) ≤ s.2 then (some (Sum.inr s.1)) else (some (Sum.inl (s.1 ||| ((1:Int64) <<< (((v4 * (6:Int32)) + s.2).toInt64 &&& 63)), s.2 + (1:Int32)))))
def G_block_s24  (v0 : Int32) (v1 : Int32) (s : (Int64 × Int32)) : Option ((Int64 × Int32) ⊕ Int64) := if (v1 / (6:Int32)) < s.2 then (some (Sum.inr s.1)) else (if (6:Int32) ≤ s.2 then (some (Sum.inr s.1)) else (Option.bind (wh (G_block_s46 v1 s.2) FU (s.1, v0 - v0 / (6:Int32) * (6:Int32))) (fun w3 => some (Sum.inl (w3, s.2 + (1:Int32))))))
def G_block_j16  (v2 : Int64) : Option Int64 := some v2
def G_block (v0 : Int32) (v1 : Int32)  : Option Int64 := if (G_isCell v0) = (0:Int32) then (G_block_j16 (0:Int64)) else (if (G_isCell v1) = (0:Int32) then (G_block_j16 (0:Int64)) else (Option.bind (wh (G_block_s24 v0 v1) FU ((0:Int64), v0 / (6:Int32))) (fun w3 => some w3)))
set_option maxRecDepth 10000 in
theorem G_block_l46 {v0 : Int32} {v1 : Int32} {v4 : Int32}   (hE : cl = sxE sc (d + 1)) (hm : CallMono cl) : ∀ (n : Nat) (s : (Int64 × Int32)) (r : Int64), wh (G_block_s46 v1 v4) n s = some r → (∀ (z5 : Option Value), sxWP sc cl Q 8 (81, [some (.int v0), some (.int v1), some (.long r), none, some (.int v4), z5], [], (cW nw kp im ol sn sr tp (mW mk mg mt mc T)), 0, 0)) → sxWP sc cl Q 8 (46, [some (.int v0), some (.int v1), some (.long s.1), none, some (.int v4), some (.int s.2)], [], (cW nw kp im ol sn sr tp (mW mk mg mt mc T)), 0, 0) := by
  refine wh_run (A := fun (s : (Int64 × Int32)) => sxWP sc cl Q 8 (46, [some (.int v0), some (.int v1), some (.long s.1), none, some (.int v4), some (.int s.2)], [], (cW nw kp im ol sn sr tp (mW mk mg mt mc T)), 0, 0)) (B := fun (r : Int64) => ∀ (z5 : Option Value), sxWP sc cl Q 8 (81, [some (.int v0), some (.int v1), some (.long r), none, some (.int v4), z5], [], (cW nw kp im ol sn sr tp (mW mk mg mt mc T)), 0, 0)) (fun s x hf hA hB => ?_)
  unfold G_block_s46 at hf
  refine stp hm 4 (And.intro (by decide) (?_ : sxWP sc cl Q 8 (52, [some (.int v0), some (.int v1), some (.long s.1), none, some (.int v4), some (.int s.2)], [.int (v1 - v1 / (6:Int32) * (6:Int32)), .int s.2], (cW nw kp im ol sn sr tp (mW mk mg mt mc T)), 0, 0)))
  refine stp hm 1 (br hf (fun c1 hf => ?_) (fun c1 hf => ?_))
  · show sxWP sc cl Q 8 (81, [some (.int v0), some (.int v1), some (.long s.1), none, some (.int v4), some (.int s.2)], [], (cW nw kp im ol sn sr tp (mW mk mg mt mc T)), 0, 0)
    obtain rfl := Option.some.inj hf
    exact hB _ rfl _
  · show sxWP sc cl Q 8 (55, [some (.int v0), some (.int v1), some (.long s.1), none, some (.int v4), some (.int s.2)], [], (cW nw kp im ol sn sr tp (mW mk mg mt mc T)), 0, 0)
    refine stp hm 3 (br hf (fun c2 hf => ?_) (fun c2 hf => ?_))
    · show sxWP sc cl Q 8 (81, [some (.int v0), some (.int v1), some (.long s.1), none, some (.int v4), some (.int s.2)], [], (cW nw kp im ol sn sr tp (mW mk mg mt mc T)), 0, 0)
      obtain rfl := Option.some.inj hf
      exact hB _ rfl _
    · show sxWP sc cl Q 8 (62, [some (.int v0), some (.int v1), some (.long s.1), none, some (.int v4), some (.int s.2)], [], (cW nw kp im ol sn sr tp (mW mk mg mt mc T)), 0, 0)
      obtain rfl := Option.some.inj hf
      refine stp hm 12 (?_ : sxWP sc cl Q 8 (46, [some (.int v0), some (.int v1), some (.long (s.1 ||| ((1:Int64) <<< (((v4 * (6:Int32)) + s.2).toInt64 &&& 63)))), none, some (.int v4), some (.int (s.2 + (1:Int32)))], [], (cW nw kp im ol sn sr tp (mW mk mg mt mc T)), 0, 0))
      exact hA _ rfl
set_option maxRecDepth 10000 in
theorem G_block_l24 {v0 : Int32} {v1 : Int32}   (hE : cl = sxE sc (d + 1)) (hm : CallMono cl) : ∀ (n : Nat) (s : (Int64 × Int32)) (r : Int64), wh (G_block_s24 v0 v1) n s = some r → (∀ (z0 z1 z4 z5 : Option Value), sxWP sc cl Q 8 (87, [z0, z1, some (.long r), none, z4, z5], [], (cW nw kp im ol sn sr tp (mW mk mg mt mc T)), 0, 0)) → ∀ (z5 : Option Value), sxWP sc cl Q 8 (24, [some (.int v0), some (.int v1), some (.long s.1), none, some (.int s.2), z5], [], (cW nw kp im ol sn sr tp (mW mk mg mt mc T)), 0, 0) := by
  refine wh_run (A := fun (s : (Int64 × Int32)) => ∀ (z5 : Option Value), sxWP sc cl Q 8 (24, [some (.int v0), some (.int v1), some (.long s.1), none, some (.int s.2), z5], [], (cW nw kp im ol sn sr tp (mW mk mg mt mc T)), 0, 0)) (B := fun (r : Int64) => ∀ (z0 z1 z4 z5 : Option Value), sxWP sc cl Q 8 (87, [z0, z1, some (.long r), none, z4, z5], [], (cW nw kp im ol sn sr tp (mW mk mg mt mc T)), 0, 0)) (fun s x hf hA hB => ?_)
  intro z5
  unfold G_block_s24 at hf
  refine stp hm 4 (And.intro (by decide) (?_ : sxWP sc cl Q 8 (30, [some (.int v0), some (.int v1), some (.long s.1), none, some (.int s.2), z5], [.int (v1 / (6:Int32)), .int s.2], (cW nw kp im ol sn sr tp (mW mk mg mt mc T)), 0, 0)))
  refine stp hm 1 (br hf (fun c1 hf => ?_) (fun c1 hf => ?_))
  · show sxWP sc cl Q 8 (87, [some (.int v0), some (.int v1), some (.long s.1), none, some (.int s.2), z5], [], (cW nw kp im ol sn sr tp (mW mk mg mt mc T)), 0, 0)
    obtain rfl := Option.some.inj hf
    exact hB _ rfl _ _ _ _
  · show sxWP sc cl Q 8 (33, [some (.int v0), some (.int v1), some (.long s.1), none, some (.int s.2), z5], [], (cW nw kp im ol sn sr tp (mW mk mg mt mc T)), 0, 0)
    refine stp hm 3 (br hf (fun c2 hf => ?_) (fun c2 hf => ?_))
    · show sxWP sc cl Q 8 (87, [some (.int v0), some (.int v1), some (.long s.1), none, some (.int s.2), z5], [], (cW nw kp im ol sn sr tp (mW mk mg mt mc T)), 0, 0)
      obtain rfl := Option.some.inj hf
      exact hB _ rfl _ _ _ _
    · show sxWP sc cl Q 8 (40, [some (.int v0), some (.int v1), some (.long s.1), none, some (.int s.2), z5], [], (cW nw kp im ol sn sr tp (mW mk mg mt mc T)), 0, 0)
      refine stp hm 3 (And.intro (by decide) (?_ : sxWP sc cl Q 8 (44, [some (.int v0), some (.int v1), some (.long s.1), none, some (.int s.2), z5], [.int (v0 - v0 / (6:Int32) * (6:Int32))], (cW nw kp im ol sn sr tp (mW mk mg mt mc T)), 0, 0)))
      obtain ⟨w3, hw3, hf⟩ := bnd hf
      refine stp hm 1 (?_ : sxWP sc cl Q 8 (46, [some (.int v0), some (.int v1), some (.long s.1), none, some (.int s.2), some (.int (v0 - v0 / (6:Int32) * (6:Int32)))], [], (cW nw kp im ol sn sr tp (mW mk mg mt mc T)), 0, 0))
      refine G_block_l46 hE hm _ _ _ hw3 ?_
      intro w3_z5
      show sxWP sc cl Q 8 (81, [some (.int v0), some (.int v1), some (.long w3), none, some (.int s.2), w3_z5], [], (cW nw kp im ol sn sr tp (mW mk mg mt mc T)), 0, 0)
      obtain rfl := Option.some.inj hf
      refine stp hm 2 (?_ : sxWP sc cl Q 8 (24, [some (.int v0), some (.int v1), some (.long w3), none, some (.int (s.2 + (1:Int32))), w3_z5], [], (cW nw kp im ol sn sr tp (mW mk mg mt mc T)), 0, 0))
      exact hA _ rfl _
set_option maxRecDepth 10000 in
theorem G_block_ok {v0 : Int32} {v1 : Int32} {q : Int64} (hc : call = sxE sc (d + 2)) (hf : G_block v0 v1 = some q) (h : Q (some (.long q)) (cW nw kp im ol sn sr tp (mW mk mg mt mc T))) : call 8 [.int v0, .int v1] (cW nw kp im ol sn sr tp (mW mk mg mt mc T)) Q := by
  refine ent hc rfl (fun cl hE hm => ?_)
  have J16 : ∀ (v2 : Int64) (z0 : Option Value) (z1 : Option Value) (z4 : Option Value) (z5 : Option Value), G_block_j16 v2 = some q → sxWP sc cl Q 8 (16, [z0, z1, some (.long v2), none, z4, z5], [], (cW nw kp im ol sn sr tp (mW mk mg mt mc T)), 0, 0) := by
    intro v2 z0 z1 z4 z5 hf
    unfold G_block_j16 at hf
    obtain rfl := Option.some.inj hf
    refine stp hm 2 ?_
    exact h
  unfold G_block at hf
  refine stp hm 4 (G_isCell_ok hE rfl ?_)
  show sxWP sc cl Q 8 (6, [some (.int v0), some (.int v1), some (.long (0:Int64)), none, none, none], [.int (G_isCell v0)], (cW nw kp im ol sn sr tp (mW mk mg mt mc T)), 0, 0)
  refine stp hm 1 (br hf (fun c1 hf => ?_) (fun c1 hf => ?_))
  · show sxWP sc cl Q 8 (16, [some (.int v0), some (.int v1), some (.long (0:Int64)), none, none, none], [], (cW nw kp im ol sn sr tp (mW mk mg mt mc T)), 0, 0)
    exact J16 _ _ _ _ _ hf
  · show sxWP sc cl Q 8 (9, [some (.int v0), some (.int v1), some (.long (0:Int64)), none, none, none], [], (cW nw kp im ol sn sr tp (mW mk mg mt mc T)), 0, 0)
    refine stp hm 2 (G_isCell_ok hE rfl ?_)
    show sxWP sc cl Q 8 (13, [some (.int v0), some (.int v1), some (.long (0:Int64)), none, none, none], [.int (G_isCell v1)], (cW nw kp im ol sn sr tp (mW mk mg mt mc T)), 0, 0)
    refine stp hm 1 (brn hf (fun c2 hf => ?_) (fun c2 hf => ?_))
    · show sxWP sc cl Q 8 (18, [some (.int v0), some (.int v1), some (.long (0:Int64)), none, none, none], [], (cW nw kp im ol sn sr tp (mW mk mg mt mc T)), 0, 0)
      refine stp hm 3 (And.intro (by decide) (?_ : sxWP sc cl Q 8 (22, [some (.int v0), some (.int v1), some (.long (0:Int64)), none, none, none], [.int (v0 / (6:Int32))], (cW nw kp im ol sn sr tp (mW mk mg mt mc T)), 0, 0)))
      obtain ⟨w3, hw3, hf⟩ := bnd hf
      refine stp hm 1 (?_ : sxWP sc cl Q 8 (24, [some (.int v0), some (.int v1), some (.long (0:Int64)), none, some (.int (v0 / (6:Int32))), none], [], (cW nw kp im ol sn sr tp (mW mk mg mt mc T)), 0, 0))
      refine G_block_l24 hE hm _ _ _ hw3 ?_ _
      intro w3_z0 w3_z1 w3_z4 w3_z5
      show sxWP sc cl Q 8 (87, [w3_z0, w3_z1, some (.long w3), none, w3_z4, w3_z5], [], (cW nw kp im ol sn sr tp (mW mk mg mt mc T)), 0, 0)
      obtain rfl := Option.some.inj hf
      refine stp hm 2 ?_
      exact h
    · show sxWP sc cl Q 8 (16, [some (.int v0), some (.int v1), some (.long (0:Int64)), none, none, none], [], (cW nw kp im ol sn sr tp (mW mk mg mt mc T)), 0, 0)
      exact J16 _ _ _ _ _ hf

def J_Long_bitCount (v0 : Int64)  : Int32 := (((((((((v0 - (((v0.toUInt64 >>> ((1:Int32).toInt64.toUInt64 &&& Int64.toUInt64 63)).toInt64) &&& (6148914691236517205:Int64))) &&& (3689348814741910323:Int64)) + ((((v0 - (((v0.toUInt64 >>> ((1:Int32).toInt64.toUInt64 &&& Int64.toUInt64 63)).toInt64) &&& (6148914691236517205:Int64))).toUInt64 >>> ((2:Int32).toInt64.toUInt64 &&& Int64.toUInt64 63)).toInt64) &&& (3689348814741910323:Int64))) + (((((v0 - (((v0.toUInt64 >>> ((1:Int32).toInt64.toUInt64 &&& Int64.toUInt64 63)).toInt64) &&& (6148914691236517205:Int64))) &&& (3689348814741910323:Int64)) + ((((v0 - (((v0.toUInt64 >>> ((1:Int32).toInt64.toUInt64 &&& Int64.toUInt64 63)).toInt64) &&& (6148914691236517205:Int64))).toUInt64 >>> ((2:Int32).toInt64.toUInt64 &&& Int64.toUInt64 63)).toInt64) &&& (3689348814741910323:Int64))).toUInt64 >>> ((4:Int32).toInt64.toUInt64 &&& Int64.toUInt64 63)).toInt64)) &&& (1085102592571150095:Int64)) + (((((((v0 - (((v0.toUInt64 >>> ((1:Int32).toInt64.toUInt64 &&& Int64.toUInt64 63)).toInt64) &&& (6148914691236517205:Int64))) &&& (3689348814741910323:Int64)) + ((((v0 - (((v0.toUInt64 >>> ((1:Int32).toInt64.toUInt64 &&& Int64.toUInt64 63)).toInt64) &&& (6148914691236517205:Int64))).toUInt64 >>> ((2:Int32).toInt64.toUInt64 &&& Int64.toUInt64 63)).toInt64) &&& (3689348814741910323:Int64))) + (((((v0 - (((v0.toUInt64 >>> ((1:Int32).toInt64.toUInt64 &&& Int64.toUInt64 63)).toInt64) &&& (6148914691236517205:Int64))) &&& (3689348814741910323:Int64)) + ((((v0 - (((v0.toUInt64 >>> ((1:Int32).toInt64.toUInt64 &&& Int64.toUInt64 63)).toInt64) &&& (6148914691236517205:Int64))).toUInt64 >>> ((2:Int32).toInt64.toUInt64 &&& Int64.toUInt64 63)).toInt64) &&& (3689348814741910323:Int64))).toUInt64 >>> ((4:Int32).toInt64.toUInt64 &&& Int64.toUInt64 63)).toInt64)) &&& (1085102592571150095:Int64)).toUInt64 >>> ((8:Int32).toInt64.toUInt64 &&& Int64.toUInt64 63)).toInt64)) + ((((((((v0 - (((v0.toUInt64 >>> ((1:Int32).toInt64.toUInt64 &&& Int64.toUInt64 63)).toInt64) &&& (6148914691236517205:Int64))) &&& (3689348814741910323:Int64)) + ((((v0 - (((v0.toUInt64 >>> ((1:Int32).toInt64.toUInt64 &&& Int64.toUInt64 63)).toInt64) &&& (6148914691236517205:Int64))).toUInt64 >>> ((2:Int32).toInt64.toUInt64 &&& Int64.toUInt64 63)).toInt64) &&& (3689348814741910323:Int64))) + (((((v0 - (((v0.toUInt64 >>> ((1:Int32).toInt64.toUInt64 &&& Int64.toUInt64 63)).toInt64) &&& (6148914691236517205:Int64))) &&& (3689348814741910323:Int64)) + ((((v0 - (((v0.toUInt64 >>> ((1:Int32).toInt64.toUInt64 &&& Int64.toUInt64 63)).toInt64) &&& (6148914691236517205:Int64))).toUInt64 >>> ((2:Int32).toInt64.toUInt64 &&& Int64.toUInt64 63)).toInt64) &&& (3689348814741910323:Int64))).toUInt64 >>> ((4:Int32).toInt64.toUInt64 &&& Int64.toUInt64 63)).toInt64)) &&& (1085102592571150095:Int64)) + (((((((v0 - (((v0.toUInt64 >>> ((1:Int32).toInt64.toUInt64 &&& Int64.toUInt64 63)).toInt64) &&& (6148914691236517205:Int64))) &&& (3689348814741910323:Int64)) + ((((v0 - (((v0.toUInt64 >>> ((1:Int32).toInt64.toUInt64 &&& Int64.toUInt64 63)).toInt64) &&& (6148914691236517205:Int64))).toUInt64 >>> ((2:Int32).toInt64.toUInt64 &&& Int64.toUInt64 63)).toInt64) &&& (3689348814741910323:Int64))) + (((((v0 - (((v0.toUInt64 >>> ((1:Int32).toInt64.toUInt64 &&& Int64.toUInt64 63)).toInt64) &&& (6148914691236517205:Int64))) &&& (3689348814741910323:Int64)) + ((((v0 - (((v0.toUInt64 >>> ((1:Int32).toInt64.toUInt64 &&& Int64.toUInt64 63)).toInt64) &&& (6148914691236517205:Int64))).toUInt64 >>> ((2:Int32).toInt64.toUInt64 &&& Int64.toUInt64 63)).toInt64) &&& (3689348814741910323:Int64))).toUInt64 >>> ((4:Int32).toInt64.toUInt64 &&& Int64.toUInt64 63)).toInt64)) &&& (1085102592571150095:Int64)).toUInt64 >>> ((8:Int32).toInt64.toUInt64 &&& Int64.toUInt64 63)).toInt64)).toUInt64 >>> ((16:Int32).toInt64.toUInt64 &&& Int64.toUInt64 63)).toInt64)) + (((((((((v0 - (((v0.toUInt64 >>> ((1:Int32).toInt64.toUInt64 &&& Int64.toUInt64 63)).toInt64) &&& (6148914691236517205:Int64))) &&& (3689348814741910323:Int64)) + ((((v0 - (((v0.toUInt64 >>> ((1:Int32).toInt64.toUInt64 &&& Int64.toUInt64 63)).toInt64) &&& (6148914691236517205:Int64))).toUInt64 >>> ((2:Int32).toInt64.toUInt64 &&& Int64.toUInt64 63)).toInt64) &&& (3689348814741910323:Int64))) + (((((v0 - (((v0.toUInt64 >>> ((1:Int32).toInt64.toUInt64 &&& Int64.toUInt64 63)).toInt64) &&& (6148914691236517205:Int64))) &&& (3689348814741910323:Int64)) + ((((v0 - (((v0.toUInt64 >>> ((1:Int32).toInt64.toUInt64 &&& Int64.toUInt64 63)).toInt64) &&& (6148914691236517205:Int64))).toUInt64 >>> ((2:Int32).toInt64.toUInt64 &&& Int64.toUInt64 63)).toInt64) &&& (3689348814741910323:Int64))).toUInt64 >>> ((4:Int32).toInt64.toUInt64 &&& Int64.toUInt64 63)).toInt64)) &&& (1085102592571150095:Int64)) + (((((((v0 - (((v0.toUInt64 >>> ((1:Int32).toInt64.toUInt64 &&& Int64.toUInt64 63)).toInt64) &&& (6148914691236517205:Int64))) &&& (3689348814741910323:Int64)) + ((((v0 - (((v0.toUInt64 >>> ((1:Int32).toInt64.toUInt64 &&& Int64.toUInt64 63)).toInt64) &&& (6148914691236517205:Int64))).toUInt64 >>> ((2:Int32).toInt64.toUInt64 &&& Int64.toUInt64 63)).toInt64) &&& (3689348814741910323:Int64))) + (((((v0 - (((v0.toUInt64 >>> ((1:Int32).toInt64.toUInt64 &&& Int64.toUInt64 63)).toInt64) &&& (6148914691236517205:Int64))) &&& (3689348814741910323:Int64)) + ((((v0 - (((v0.toUInt64 >>> ((1:Int32).toInt64.toUInt64 &&& Int64.toUInt64 63)).toInt64) &&& (6148914691236517205:Int64))).toUInt64 >>> ((2:Int32).toInt64.toUInt64 &&& Int64.toUInt64 63)).toInt64) &&& (3689348814741910323:Int64))).toUInt64 >>> ((4:Int32).toInt64.toUInt64 &&& Int64.toUInt64 63)).toInt64)) &&& (1085102592571150095:Int64)).toUInt64 >>> ((8:Int32).toInt64.toUInt64 &&& Int64.toUInt64 63)).toInt64)) + ((((((((v0 - (((v0.toUInt64 >>> ((1:Int32).toInt64.toUInt64 &&& Int64.toUInt64 63)).toInt64) &&& (6148914691236517205:Int64))) &&& (3689348814741910323:Int64)) + ((((v0 - (((v0.toUInt64 >>> ((1:Int32).toInt64.toUInt64 &&& Int64.toUInt64 63)).toInt64) &&& (6148914691236517205:Int64))).toUInt64 >>> ((2:Int32).toInt64.toUInt64 &&& Int64.toUInt64 63)).toInt64) &&& (3689348814741910323:Int64))) + (((((v0 - (((v0.toUInt64 >>> ((1:Int32).toInt64.toUInt64 &&& Int64.toUInt64 63)).toInt64) &&& (6148914691236517205:Int64))) &&& (3689348814741910323:Int64)) + ((((v0 - (((v0.toUInt64 >>> ((1:Int32).toInt64.toUInt64 &&& Int64.toUInt64 63)).toInt64) &&& (6148914691236517205:Int64))).toUInt64 >>> ((2:Int32).toInt64.toUInt64 &&& Int64.toUInt64 63)).toInt64) &&& (3689348814741910323:Int64))).toUInt64 >>> ((4:Int32).toInt64.toUInt64 &&& Int64.toUInt64 63)).toInt64)) &&& (1085102592571150095:Int64)) + (((((((v0 - (((v0.toUInt64 >>> ((1:Int32).toInt64.toUInt64 &&& Int64.toUInt64 63)).toInt64) &&& (6148914691236517205:Int64))) &&& (3689348814741910323:Int64)) + ((((v0 - (((v0.toUInt64 >>> ((1:Int32).toInt64.toUInt64 &&& Int64.toUInt64 63)).toInt64) &&& (6148914691236517205:Int64))).toUInt64 >>> ((2:Int32).toInt64.toUInt64 &&& Int64.toUInt64 63)).toInt64) &&& (3689348814741910323:Int64))) + (((((v0 - (((v0.toUInt64 >>> ((1:Int32).toInt64.toUInt64 &&& Int64.toUInt64 63)).toInt64) &&& (6148914691236517205:Int64))) &&& (3689348814741910323:Int64)) + ((((v0 - (((v0.toUInt64 >>> ((1:Int32).toInt64.toUInt64 &&& Int64.toUInt64 63)).toInt64) &&& (6148914691236517205:Int64))).toUInt64 >>> ((2:Int32).toInt64.toUInt64 &&& Int64.toUInt64 63)).toInt64) &&& (3689348814741910323:Int64))).toUInt64 >>> ((4:Int32).toInt64.toUInt64 &&& Int64.toUInt64 63)).toInt64)) &&& (1085102592571150095:Int64)).toUInt64 >>> ((8:Int32).toInt64.toUInt64 &&& Int64.toUInt64 63)).toInt64)).toUInt64 >>> ((16:Int32).toInt64.toUInt64 &&& Int64.toUInt64 63)).toInt64)).toUInt64 >>> ((32:Int32).toInt64.toUInt64 &&& Int64.toUInt64 63)).toInt64)).toInt32) &&& (127:Int32)
set_option maxRecDepth 10000 in
theorem J_Long_bitCount_ok {v0 : Int64} {r : Int32} (hc : call = sxE sc (d + 1)) (hf : J_Long_bitCount v0 = r) (h : Q (some (.int r)) hp) : call 246 [.long v0] hp Q := by
  refine ent hc rfl (fun cl hE hm => ?_)
  unfold J_Long_bitCount at hf
  subst hf
  refine stp hm 49 ?_
  exact h

def X_fill_j37  (nrg_j : Int64) (nld_j : Int32) : Option (Int32 × Int64 × Int32) := some ((-2:Int32), nrg_j, nld_j)
def X_fill_j14  (nrg_j : Int64) (nld_j : Int32) : Option (Int32 × Int64 × Int32) := some ((-1:Int32), nrg_j, nld_j)
def X_fill (v1 : Int32) (v2 : Int32) (v3 : Int32) (nrg : Int64) (nld : Int32) : Option (Int32 × Int64 × Int32) := if (G_isCell v1) = (0:Int32) then (X_fill_j14 nrg nld) else (if (G_isCell v2) = (0:Int32) then (X_fill_j14 nrg nld) else (Option.bind (G_block v1 v2) (fun q3 => if (X_isBit v3) = (0:Int32) then (X_fill_j37 nrg nld) else (if q3 = (0:Int64) then (X_fill_j37 nrg nld) else (Option.bind (S_become (G_with nrg q3 (if v3 = (1:Int32) then (1:Int32) else (0:Int32))) nrg nld) (fun q7 => some (J_Long_bitCount q7.1, q7.1, q7.2)))))))
set_option maxRecDepth 10000 in
theorem X_fill_ok {v1 : Int32} {v2 : Int32} {v3 : Int32} {q : (Int32 × Int64 × Int32)} (hc : call = sxE sc (d + 3)) (hf : X_fill v1 v2 v3 nw.1 nw.2.1 = some q) (h : Q (some (.int q.1)) (cW (q.2.1, q.2.2, nw.2.2.1, nw.2.2.2.1, nw.2.2.2.2.1, nw.2.2.2.2.2.1, nw.2.2.2.2.2.2) kp im ol sn sr tp (mW mk mg mt mc T))) : call 92 [.ref 0, .int v1, .int v2, .int v3] (cW nw kp im ol sn sr tp (mW mk mg mt mc T)) Q := by
  refine ent hc rfl (fun cl hE hm => ?_)
  have J37 : ∀ (nrg_j : Int64) (nld_j : Int32) (z0 : Option Value) (z1 : Option Value) (z2 : Option Value) (z3 : Option Value) (z4 : Option Value) (z5 : Option Value), X_fill_j37 nrg_j nld_j = some q → sxWP sc cl Q 92 (37, [z0, z1, z2, z3, z4, z5], [], (cW (nrg_j, nld_j, nw.2.2.1, nw.2.2.2.1, nw.2.2.2.2.1, nw.2.2.2.2.2.1, nw.2.2.2.2.2.2) kp im ol sn sr tp (mW mk mg mt mc T)), 0, 0) := by
    intro nrg_j nld_j z0 z1 z2 z3 z4 z5 hf
    unfold X_fill_j37 at hf
    obtain rfl := Option.some.inj hf
    refine stp hm 2 ?_
    exact h
  have J14 : ∀ (nrg_j : Int64) (nld_j : Int32) (z0 : Option Value) (z1 : Option Value) (z2 : Option Value) (z3 : Option Value) (z4 : Option Value) (z5 : Option Value), X_fill_j14 nrg_j nld_j = some q → sxWP sc cl Q 92 (14, [z0, z1, z2, z3, z4, z5], [], (cW (nrg_j, nld_j, nw.2.2.1, nw.2.2.2.1, nw.2.2.2.2.1, nw.2.2.2.2.2.1, nw.2.2.2.2.2.2) kp im ol sn sr tp (mW mk mg mt mc T)), 0, 0) := by
    intro nrg_j nld_j z0 z1 z2 z3 z4 z5 hf
    unfold X_fill_j14 at hf
    obtain rfl := Option.some.inj hf
    refine stp hm 2 ?_
    exact h
  unfold X_fill at hf
  refine stp hm 2 (G_isCell_ok hE rfl ?_)
  show sxWP sc cl Q 92 (4, [some (.ref 0), some (.int v1), some (.int v2), some (.int v3), none, none], [.int (G_isCell v1)], (cW nw kp im ol sn sr tp (mW mk mg mt mc T)), 0, 0)
  refine stp hm 1 (br hf (fun c1 hf => ?_) (fun c1 hf => ?_))
  · show sxWP sc cl Q 92 (14, [some (.ref 0), some (.int v1), some (.int v2), some (.int v3), none, none], [], (cW nw kp im ol sn sr tp (mW mk mg mt mc T)), 0, 0)
    exact J14 _ _ _ _ _ _ _ _ hf
  · show sxWP sc cl Q 92 (7, [some (.ref 0), some (.int v1), some (.int v2), some (.int v3), none, none], [], (cW nw kp im ol sn sr tp (mW mk mg mt mc T)), 0, 0)
    refine stp hm 2 (G_isCell_ok hE rfl ?_)
    show sxWP sc cl Q 92 (11, [some (.ref 0), some (.int v1), some (.int v2), some (.int v3), none, none], [.int (G_isCell v2)], (cW nw kp im ol sn sr tp (mW mk mg mt mc T)), 0, 0)
    refine stp hm 1 (brn hf (fun c2 hf => ?_) (fun c2 hf => ?_))
    · show sxWP sc cl Q 92 (16, [some (.ref 0), some (.int v1), some (.int v2), some (.int v3), none, none], [], (cW nw kp im ol sn sr tp (mW mk mg mt mc T)), 0, 0)
      obtain ⟨q3, hq3, hf⟩ := bnd hf
      refine stp hm 3 (G_block_ok hE hq3 ?_)
      show sxWP sc cl Q 92 (21, [some (.ref 0), some (.int v1), some (.int v2), some (.int v3), none, none], [.long q3], (cW nw kp im ol sn sr tp (mW mk mg mt mc T)), 0, 0)
      refine stp hm 3 (X_isBit_ok hE rfl ?_)
      show sxWP sc cl Q 92 (27, [some (.ref 0), some (.int v1), some (.int v2), some (.int v3), some (.long q3), none], [.int (X_isBit v3)], (cW nw kp im ol sn sr tp (mW mk mg mt mc T)), 0, 0)
      refine stp hm 1 (br hf (fun c4 hf => ?_) (fun c4 hf => ?_))
      · show sxWP sc cl Q 92 (37, [some (.ref 0), some (.int v1), some (.int v2), some (.int v3), some (.long q3), none], [], (cW nw kp im ol sn sr tp (mW mk mg mt mc T)), 0, 0)
        exact J37 _ _ _ _ _ _ _ _ hf
      · show sxWP sc cl Q 92 (30, [some (.ref 0), some (.int v1), some (.int v2), some (.int v3), some (.long q3), none], [], (cW nw kp im ol sn sr tp (mW mk mg mt mc T)), 0, 0)
        refine stp hm 4 (brnI (lg_cmp_eq _ _) hf (fun c5 hf => ?_) (fun c5 hf => ?_))
        · show sxWP sc cl Q 92 (40, [some (.ref 0), some (.int v1), some (.int v2), some (.int v3), some (.long q3), none], [], (cW nw kp im ol sn sr tp (mW mk mg mt mc T)), 0, 0)
          have m6 : ∀ (m6_0 : Int32), m6_0 = (if v3 = (1:Int32) then (1:Int32) else (0:Int32)) → sxWP sc cl Q 92 (63, [some (.ref 0), some (.int v1), some (.int v2), some (.int v3), some (.long q3), none], [.int m6_0, .long q3, .long nw.1, .ref 1], (cW nw kp im ol sn sr tp (mW mk mg mt mc T)), 0, 0) := by
            intro m6_0 em6_0
            subst em6_0
            refine stp hm 1 (G_with_ok hE rfl ?_)
            show sxWP sc cl Q 92 (66, [some (.ref 0), some (.int v1), some (.int v2), some (.int v3), some (.long q3), none], [.long (G_with nw.1 q3 (if v3 = (1:Int32) then (1:Int32) else (0:Int32))), .ref 1], (cW nw kp im ol sn sr tp (mW mk mg mt mc T)), 0, 0)
            obtain ⟨q7, hq7, hf⟩ := bnd hf
            refine stp hm 1 (S_become_ok hE hq7 ?_)
            show sxWP sc cl Q 92 (69, [some (.ref 0), some (.int v1), some (.int v2), some (.int v3), some (.long q3), none], [], (cW (q7.1, q7.2, nw.2.2.1, nw.2.2.2.1, nw.2.2.2.2.1, nw.2.2.2.2.2.1, nw.2.2.2.2.2.2) kp im ol sn sr tp (mW mk mg mt mc T)), 0, 0)
            refine stp hm 4 (J_Long_bitCount_ok hE rfl ?_)
            show sxWP sc cl Q 92 (79, [some (.ref 0), some (.int v1), some (.int v2), some (.int v3), some (.long q3), none], [.int (J_Long_bitCount q7.1)], (cW (q7.1, q7.2, nw.2.2.1, nw.2.2.2.1, nw.2.2.2.2.1, nw.2.2.2.2.2.1, nw.2.2.2.2.2.2) kp im ol sn sr tp (mW mk mg mt mc T)), 0, 0)
            obtain rfl := Option.some.inj hf
            refine stp hm 1 ?_
            exact h
          refine stp hm 9 (bsn (c := v3 = (1:Int32)) (fun c8 => ?_) (fun c8 => ?_))
          · have c8 : ¬ v3 = (1:Int32) := c8
            refine stp hm 1 (?_ : sxWP sc cl Q 92 (63, [some (.ref 0), some (.int v1), some (.int v2), some (.int v3), some (.long q3), none], [.int (0:Int32), .long q3, .long nw.1, .ref 1], (cW nw kp im ol sn sr tp (mW mk mg mt mc T)), 0, 0))
            exact m6 _ (by rw [if_neg c8])
          · have c8 : v3 = (1:Int32) := c8
            refine stp hm 2 (?_ : sxWP sc cl Q 92 (63, [some (.ref 0), some (.int v1), some (.int v2), some (.int v3), some (.long q3), none], [.int (1:Int32), .long q3, .long nw.1, .ref 1], (cW nw kp im ol sn sr tp (mW mk mg mt mc T)), 0, 0))
            exact m6 _ (by rw [if_pos c8])
        · show sxWP sc cl Q 92 (37, [some (.ref 0), some (.int v1), some (.int v2), some (.int v3), some (.long q3), none], [], (cW nw kp im ol sn sr tp (mW mk mg mt mc T)), 0, 0)
          exact J37 _ _ _ _ _ _ _ _ hf
    · show sxWP sc cl Q 92 (14, [some (.ref 0), some (.int v1), some (.int v2), some (.int v3), none, none], [], (cW nw kp im ol sn sr tp (mW mk mg mt mc T)), 0, 0)
      exact J14 _ _ _ _ _ _ _ _ hf

def M_filled_s27  (v2 : Int32) (v3 : Int32) (v6 : Int32) (s : (Int64 × Int32)) : Option ((Int64 × Int32) ⊕ Int64) := if (v2 - v2 / (6:Int32) * (6:Int32)) < s.2 then (some (Sum.inr s.1)) else (some (Sum.inl (if v3 = (0:Int32) then (s.1 &&& (((1:Int64) <<< ((((6:Int32) * v6) + s.2).toInt64 &&& 63)) ^^^ (-1:Int64))) else (s.1 ||| ((1:Int64) <<< ((((6:Int32) * v6) + s.2).toInt64 &&& 63))), s.2 + (1:Int32))))
def M_filled_s12  (v1 : Int32) (v2 : Int32) (v3 : Int32) (s : (Int64 × Int32)) : Option ((Int64 × Int32) ⊕ Int64) := if (v2 / (6:Int32)) < s.2 then (some (Sum.inr s.1)) else (Option.bind (wh (M_filled_s27 v2 v3 s.2) FU (s.1, v1 - v1 / (6:Int32) * (6:Int32))) (fun w2 => some (Sum.inl (w2, s.2 + (1:Int32)))))
def M_filled (v1 : Int32) (v2 : Int32) (v3 : Int32) (mrg : Int64) : Option Int64 := Option.bind (wh (M_filled_s12 v1 v2 v3) FU (mrg, v1 / (6:Int32))) (fun w1 => some w1)
set_option maxRecDepth 10000 in
theorem M_filled_l27 {v1 : Int32} {v2 : Int32} {v3 : Int32} {v6 : Int32}   (hE : cl = sxE sc (d + 0)) (hm : CallMono cl) : ∀ (n : Nat) (s : (Int64 × Int32)) (r : Int64), wh (M_filled_s27 v2 v3 v6) n s = some r → (∀ (z0 z7 : Option Value), sxWP sc cl Q 151 (81, [z0, some (.int v1), some (.int v2), some (.int v3), some (.long r), none, some (.int v6), z7], [], (cW nw kp im ol sn sr tp (mW mk mg mt mc T)), 0, 0)) → ∀ (z0 : Option Value), sxWP sc cl Q 151 (27, [z0, some (.int v1), some (.int v2), some (.int v3), some (.long s.1), none, some (.int v6), some (.int s.2)], [], (cW nw kp im ol sn sr tp (mW mk mg mt mc T)), 0, 0) := by
  refine wh_run (A := fun (s : (Int64 × Int32)) => ∀ (z0 : Option Value), sxWP sc cl Q 151 (27, [z0, some (.int v1), some (.int v2), some (.int v3), some (.long s.1), none, some (.int v6), some (.int s.2)], [], (cW nw kp im ol sn sr tp (mW mk mg mt mc T)), 0, 0)) (B := fun (r : Int64) => ∀ (z0 z7 : Option Value), sxWP sc cl Q 151 (81, [z0, some (.int v1), some (.int v2), some (.int v3), some (.long r), none, some (.int v6), z7], [], (cW nw kp im ol sn sr tp (mW mk mg mt mc T)), 0, 0)) (fun s x hf hA hB => ?_)
  intro z0
  unfold M_filled_s27 at hf
  refine stp hm 4 (And.intro (by decide) (?_ : sxWP sc cl Q 151 (33, [z0, some (.int v1), some (.int v2), some (.int v3), some (.long s.1), none, some (.int v6), some (.int s.2)], [.int (v2 - v2 / (6:Int32) * (6:Int32)), .int s.2], (cW nw kp im ol sn sr tp (mW mk mg mt mc T)), 0, 0)))
  refine stp hm 1 (br hf (fun c1 hf => ?_) (fun c1 hf => ?_))
  · show sxWP sc cl Q 151 (81, [z0, some (.int v1), some (.int v2), some (.int v3), some (.long s.1), none, some (.int v6), some (.int s.2)], [], (cW nw kp im ol sn sr tp (mW mk mg mt mc T)), 0, 0)
    obtain rfl := Option.some.inj hf
    exact hB _ rfl _ _
  · show sxWP sc cl Q 151 (36, [z0, some (.int v1), some (.int v2), some (.int v3), some (.long s.1), none, some (.int v6), some (.int s.2)], [], (cW nw kp im ol sn sr tp (mW mk mg mt mc T)), 0, 0)
    have m2 : ∀ (m2_0 : Int64), m2_0 = (if v3 = (0:Int32) then (s.1 &&& (((1:Int64) <<< ((((6:Int32) * v6) + s.2).toInt64 &&& 63)) ^^^ (-1:Int64))) else (s.1 ||| ((1:Int64) <<< ((((6:Int32) * v6) + s.2).toInt64 &&& 63)))) → sxWP sc cl Q 151 (73, [z0, some (.int v1), some (.int v2), some (.int v3), some (.long s.1), none, some (.int v6), some (.int s.2)], [.long m2_0], (cW nw kp im ol sn sr tp (mW mk mg mt mc T)), 0, 0) := by
      intro m2_0 em2_0
      subst em2_0
      obtain rfl := Option.some.inj hf
      refine stp hm 3 (?_ : sxWP sc cl Q 151 (27, [z0, some (.int v1), some (.int v2), some (.int v3), some (.long (if v3 = (0:Int32) then (s.1 &&& (((1:Int64) <<< ((((6:Int32) * v6) + s.2).toInt64 &&& 63)) ^^^ (-1:Int64))) else (s.1 ||| ((1:Int64) <<< ((((6:Int32) * v6) + s.2).toInt64 &&& 63))))), none, some (.int v6), some (.int (s.2 + (1:Int32)))], [], (cW nw kp im ol sn sr tp (mW mk mg mt mc T)), 0, 0))
      exact hA _ rfl _
    refine stp hm 2 (bs (c := v3 = (0:Int32)) (fun c3 => ?_) (fun c3 => ?_))
    · have c3 : v3 = (0:Int32) := c3
      refine stp hm 11 (?_ : sxWP sc cl Q 151 (73, [z0, some (.int v1), some (.int v2), some (.int v3), some (.long s.1), none, some (.int v6), some (.int s.2)], [.long (s.1 &&& (((1:Int64) <<< ((((6:Int32) * v6) + s.2).toInt64 &&& 63)) ^^^ (-1:Int64)))], (cW nw kp im ol sn sr tp (mW mk mg mt mc T)), 0, 0))
      exact m2 _ (by rw [if_pos c3])
    · have c3 : ¬ v3 = (0:Int32) := c3
      refine stp hm 10 (?_ : sxWP sc cl Q 151 (73, [z0, some (.int v1), some (.int v2), some (.int v3), some (.long s.1), none, some (.int v6), some (.int s.2)], [.long (s.1 ||| ((1:Int64) <<< ((((6:Int32) * v6) + s.2).toInt64 &&& 63)))], (cW nw kp im ol sn sr tp (mW mk mg mt mc T)), 0, 0))
      exact m2 _ (by rw [if_neg c3])
set_option maxRecDepth 10000 in
theorem M_filled_l12 {v1 : Int32} {v2 : Int32} {v3 : Int32}   (hE : cl = sxE sc (d + 0)) (hm : CallMono cl) : ∀ (n : Nat) (s : (Int64 × Int32)) (r : Int64), wh (M_filled_s12 v1 v2 v3) n s = some r → (∀ (z0 z1 z2 z3 z6 z7 : Option Value), sxWP sc cl Q 151 (87, [z0, z1, z2, z3, some (.long r), none, z6, z7], [], (cW nw kp im ol sn sr tp (mW mk mg mt mc T)), 0, 0)) → ∀ (z0 z7 : Option Value), sxWP sc cl Q 151 (12, [z0, some (.int v1), some (.int v2), some (.int v3), some (.long s.1), none, some (.int s.2), z7], [], (cW nw kp im ol sn sr tp (mW mk mg mt mc T)), 0, 0) := by
  refine wh_run (A := fun (s : (Int64 × Int32)) => ∀ (z0 z7 : Option Value), sxWP sc cl Q 151 (12, [z0, some (.int v1), some (.int v2), some (.int v3), some (.long s.1), none, some (.int s.2), z7], [], (cW nw kp im ol sn sr tp (mW mk mg mt mc T)), 0, 0)) (B := fun (r : Int64) => ∀ (z0 z1 z2 z3 z6 z7 : Option Value), sxWP sc cl Q 151 (87, [z0, z1, z2, z3, some (.long r), none, z6, z7], [], (cW nw kp im ol sn sr tp (mW mk mg mt mc T)), 0, 0)) (fun s x hf hA hB => ?_)
  intro z0 z7
  unfold M_filled_s12 at hf
  refine stp hm 4 (And.intro (by decide) (?_ : sxWP sc cl Q 151 (18, [z0, some (.int v1), some (.int v2), some (.int v3), some (.long s.1), none, some (.int s.2), z7], [.int (v2 / (6:Int32)), .int s.2], (cW nw kp im ol sn sr tp (mW mk mg mt mc T)), 0, 0)))
  refine stp hm 1 (br hf (fun c1 hf => ?_) (fun c1 hf => ?_))
  · show sxWP sc cl Q 151 (87, [z0, some (.int v1), some (.int v2), some (.int v3), some (.long s.1), none, some (.int s.2), z7], [], (cW nw kp im ol sn sr tp (mW mk mg mt mc T)), 0, 0)
    obtain rfl := Option.some.inj hf
    exact hB _ rfl _ _ _ _ _ _
  · show sxWP sc cl Q 151 (21, [z0, some (.int v1), some (.int v2), some (.int v3), some (.long s.1), none, some (.int s.2), z7], [], (cW nw kp im ol sn sr tp (mW mk mg mt mc T)), 0, 0)
    refine stp hm 3 (And.intro (by decide) (?_ : sxWP sc cl Q 151 (25, [z0, some (.int v1), some (.int v2), some (.int v3), some (.long s.1), none, some (.int s.2), z7], [.int (v1 - v1 / (6:Int32) * (6:Int32))], (cW nw kp im ol sn sr tp (mW mk mg mt mc T)), 0, 0)))
    obtain ⟨w2, hw2, hf⟩ := bnd hf
    refine stp hm 1 (?_ : sxWP sc cl Q 151 (27, [z0, some (.int v1), some (.int v2), some (.int v3), some (.long s.1), none, some (.int s.2), some (.int (v1 - v1 / (6:Int32) * (6:Int32)))], [], (cW nw kp im ol sn sr tp (mW mk mg mt mc T)), 0, 0))
    refine M_filled_l27 hE hm _ _ _ hw2 ?_ _
    intro w2_z0 w2_z7
    show sxWP sc cl Q 151 (81, [w2_z0, some (.int v1), some (.int v2), some (.int v3), some (.long w2), none, some (.int s.2), w2_z7], [], (cW nw kp im ol sn sr tp (mW mk mg mt mc T)), 0, 0)
    obtain rfl := Option.some.inj hf
    refine stp hm 2 (?_ : sxWP sc cl Q 151 (12, [w2_z0, some (.int v1), some (.int v2), some (.int v3), some (.long w2), none, some (.int (s.2 + (1:Int32))), w2_z7], [], (cW nw kp im ol sn sr tp (mW mk mg mt mc T)), 0, 0))
    exact hA _ rfl _ _
set_option maxRecDepth 10000 in
theorem M_filled_ok {v1 : Int32} {v2 : Int32} {v3 : Int32} {q : Int64} (hc : call = sxE sc (d + 1)) (hf : M_filled v1 v2 v3 mk.1 = some q) (h : Q (some (.long q)) (cW nw kp im ol sn sr tp (mW mk mg mt mc T))) : call 151 [.ref 59, .int v1, .int v2, .int v3] (cW nw kp im ol sn sr tp (mW mk mg mt mc T)) Q := by
  refine ent hc rfl (fun cl hE hm => ?_)
  unfold M_filled at hf
  refine stp hm 6 (And.intro (by decide) (?_ : sxWP sc cl Q 151 (10, [some (.ref 59), some (.int v1), some (.int v2), some (.int v3), some (.long mk.1), none, none, none], [.int (v1 / (6:Int32))], (cW nw kp im ol sn sr tp (mW mk mg mt mc T)), 0, 0)))
  obtain ⟨w1, hw1, hf⟩ := bnd hf
  refine stp hm 1 (?_ : sxWP sc cl Q 151 (12, [some (.ref 59), some (.int v1), some (.int v2), some (.int v3), some (.long mk.1), none, some (.int (v1 / (6:Int32))), none], [], (cW nw kp im ol sn sr tp (mW mk mg mt mc T)), 0, 0))
  refine M_filled_l12 hE hm _ _ _ hw1 ?_ _ _
  intro w1_z0 w1_z1 w1_z2 w1_z3 w1_z6 w1_z7
  show sxWP sc cl Q 151 (87, [w1_z0, w1_z1, w1_z2, w1_z3, some (.long w1), none, w1_z6, w1_z7], [], (cW nw kp im ol sn sr tp (mW mk mg mt mc T)), 0, 0)
  obtain rfl := Option.some.inj hf
  refine stp hm 2 ?_
  exact h

def M_cells_s4   (mrg : Int64) (s : (Int32 × Int32)) : Option ((Int32 × Int32) ⊕ Int32) := if (36:Int32) ≤ s.2 then (some (Sum.inr s.1)) else (some (Sum.inl (s.1 + (if (M_has s.2 mrg) = (0:Int32) then (0:Int32) else (1:Int32)), s.2 + (1:Int32))))
def M_cells  (mrg : Int64) : Option Int32 := Option.bind (wh (M_cells_s4 mrg) FU ((0:Int32), (0:Int32))) (fun w1 => some w1)
set_option maxRecDepth 10000 in
theorem M_cells_l4    (hE : cl = sxE sc (d + 1)) (hm : CallMono cl) : ∀ (n : Nat) (s : (Int32 × Int32)) (r : Int32), wh (M_cells_s4 mk.1) n s = some r → (∀ (z0 z2 : Option Value), sxWP sc cl Q 146 (32, [z0, some (.int r), z2], [], (cW nw kp im ol sn sr tp (mW mk mg mt mc T)), 0, 0)) → sxWP sc cl Q 146 (4, [some (.ref 59), some (.int s.1), some (.int s.2)], [], (cW nw kp im ol sn sr tp (mW mk mg mt mc T)), 0, 0) := by
  refine wh_run (A := fun (s : (Int32 × Int32)) => sxWP sc cl Q 146 (4, [some (.ref 59), some (.int s.1), some (.int s.2)], [], (cW nw kp im ol sn sr tp (mW mk mg mt mc T)), 0, 0)) (B := fun (r : Int32) => ∀ (z0 z2 : Option Value), sxWP sc cl Q 146 (32, [z0, some (.int r), z2], [], (cW nw kp im ol sn sr tp (mW mk mg mt mc T)), 0, 0)) (fun s x hf hA hB => ?_)
  unfold M_cells_s4 at hf
  refine stp hm 3 (br hf (fun c1 hf => ?_) (fun c1 hf => ?_))
  · show sxWP sc cl Q 146 (32, [some (.ref 59), some (.int s.1), some (.int s.2)], [], (cW nw kp im ol sn sr tp (mW mk mg mt mc T)), 0, 0)
    obtain rfl := Option.some.inj hf
    exact hB _ rfl _ _
  · show sxWP sc cl Q 146 (10, [some (.ref 59), some (.int s.1), some (.int s.2)], [], (cW nw kp im ol sn sr tp (mW mk mg mt mc T)), 0, 0)
    refine stp hm 4 (M_has_ok hE rfl ?_)
    show sxWP sc cl Q 146 (16, [some (.ref 59), some (.int s.1), some (.int s.2)], [.int (M_has s.2 mk.1), .int s.1], (cW nw kp im ol sn sr tp (mW mk mg mt mc T)), 0, 0)
    have m2 : ∀ (m2_0 : Int32), m2_0 = (if (M_has s.2 mk.1) = (0:Int32) then (0:Int32) else (1:Int32)) → sxWP sc cl Q 146 (24, [some (.ref 59), some (.int s.1), some (.int s.2)], [.int m2_0, .int s.1], (cW nw kp im ol sn sr tp (mW mk mg mt mc T)), 0, 0) := by
      intro m2_0 em2_0
      subst em2_0
      obtain rfl := Option.some.inj hf
      refine stp hm 4 (?_ : sxWP sc cl Q 146 (4, [some (.ref 59), some (.int (s.1 + (if (M_has s.2 mk.1) = (0:Int32) then (0:Int32) else (1:Int32)))), some (.int (s.2 + (1:Int32)))], [], (cW nw kp im ol sn sr tp (mW mk mg mt mc T)), 0, 0))
      exact hA _ rfl
    refine stp hm 1 (bs (c := (M_has s.2 mk.1) = (0:Int32)) (fun c3 => ?_) (fun c3 => ?_))
    · have c3 : (M_has s.2 mk.1) = (0:Int32) := c3
      refine stp hm 1 (?_ : sxWP sc cl Q 146 (24, [some (.ref 59), some (.int s.1), some (.int s.2)], [.int (0:Int32), .int s.1], (cW nw kp im ol sn sr tp (mW mk mg mt mc T)), 0, 0))
      exact m2 _ (by rw [if_pos c3])
    · have c3 : ¬ (M_has s.2 mk.1) = (0:Int32) := c3
      refine stp hm 2 (?_ : sxWP sc cl Q 146 (24, [some (.ref 59), some (.int s.1), some (.int s.2)], [.int (1:Int32), .int s.1], (cW nw kp im ol sn sr tp (mW mk mg mt mc T)), 0, 0))
      exact m2 _ (by rw [if_neg c3])
set_option maxRecDepth 10000 in
theorem M_cells_ok  {q : Int32} (hc : call = sxE sc (d + 2)) (hf : M_cells mk.1 = some q) (h : Q (some (.int q)) (cW nw kp im ol sn sr tp (mW mk mg mt mc T))) : call 146 [.ref 59] (cW nw kp im ol sn sr tp (mW mk mg mt mc T)) Q := by
  refine ent hc rfl (fun cl hE hm => ?_)
  unfold M_cells at hf
  obtain ⟨w1, hw1, hf⟩ := bnd hf
  refine stp hm 4 (?_ : sxWP sc cl Q 146 (4, [some (.ref 59), some (.int (0:Int32)), some (.int (0:Int32))], [], (cW nw kp im ol sn sr tp (mW mk mg mt mc T)), 0, 0))
  refine M_cells_l4 hE hm _ _ _ hw1 ?_
  intro w1_z0 w1_z2
  show sxWP sc cl Q 146 (32, [w1_z0, some (.int w1), w1_z2], [], (cW nw kp im ol sn sr tp (mW mk mg mt mc T)), 0, 0)
  obtain rfl := Option.some.inj hf
  refine stp hm 2 ?_
  exact h

def M_fill_j47  (mrg_j : Int64) (ms_j : (Nat → Int32)) : Option (Int32 × Int64 × (Nat → Int32)) := some ((-2:Int32), mrg_j, ms_j)
def M_fill_j14  (mrg_j : Int64) (ms_j : (Nat → Int32)) : Option (Int32 × Int64 × (Nat → Int32)) := some ((-1:Int32), mrg_j, ms_j)
def M_fill (v1 : Int32) (v2 : Int32) (v3 : Int32) (mrg : Int64) (ms : (Nat → Int32)) : Option (Int32 × Int64 × (Nat → Int32)) := if (M_isCell v1) = (0:Int32) then (M_fill_j14 mrg ms) else (if (M_isCell v2) = (0:Int32) then (M_fill_j14 mrg ms) else (if (M_isIn v3 (0:Int32) (1:Int32)) = (0:Int32) then (M_fill_j47 mrg ms) else (if (v2 / (6:Int32)) < (v1 / (6:Int32)) then (M_fill_j47 mrg ms) else (if (v1 - v1 / (6:Int32) * (6:Int32)) ≤ (v2 - v2 / (6:Int32) * (6:Int32)) then (Option.bind (M_filled v1 v2 (if v3 = (1:Int32) then (1:Int32) else (0:Int32)) mrg) (fun q7 => Option.bind (M_becomes q7 mrg ms) (fun q8 => Option.bind (M_cells q8.1) (fun q9 => some (q9, q8.1, q8.2))))) else (M_fill_j47 mrg ms)))))
set_option maxRecDepth 10000 in
theorem M_fill_ok {v1 : Int32} {v2 : Int32} {v3 : Int32} {q : (Int32 × Int64 × (Nat → Int32))} (hc : call = sxE sc (d + 3)) (hf : M_fill v1 v2 v3 mk.1 mk.2.2.1 = some q) (h : Q (some (.int q.1)) (cW nw kp im ol sn sr tp (mW (q.2.1, mk.2.1, q.2.2, mk.2.2.2.1, mk.2.2.2.2.1, mk.2.2.2.2.2.1, mk.2.2.2.2.2.2.1, mk.2.2.2.2.2.2.2.1, mk.2.2.2.2.2.2.2.2.1, mk.2.2.2.2.2.2.2.2.2) mg mt mc T))) : call 154 [.ref 59, .int v1, .int v2, .int v3] (cW nw kp im ol sn sr tp (mW mk mg mt mc T)) Q := by
  refine ent hc rfl (fun cl hE hm => ?_)
  have J47 : ∀ (mrg_j : Int64) (ms_j : (Nat → Int32)) (z0 : Option Value) (z1 : Option Value) (z2 : Option Value) (z3 : Option Value), M_fill_j47 mrg_j ms_j = some q → sxWP sc cl Q 154 (47, [z0, z1, z2, z3], [], (cW nw kp im ol sn sr tp (mW (mrg_j, mk.2.1, ms_j, mk.2.2.2.1, mk.2.2.2.2.1, mk.2.2.2.2.2.1, mk.2.2.2.2.2.2.1, mk.2.2.2.2.2.2.2.1, mk.2.2.2.2.2.2.2.2.1, mk.2.2.2.2.2.2.2.2.2) mg mt mc T)), 0, 0) := by
    intro mrg_j ms_j z0 z1 z2 z3 hf
    unfold M_fill_j47 at hf
    obtain rfl := Option.some.inj hf
    refine stp hm 2 ?_
    exact h
  have J14 : ∀ (mrg_j : Int64) (ms_j : (Nat → Int32)) (z0 : Option Value) (z1 : Option Value) (z2 : Option Value) (z3 : Option Value), M_fill_j14 mrg_j ms_j = some q → sxWP sc cl Q 154 (14, [z0, z1, z2, z3], [], (cW nw kp im ol sn sr tp (mW (mrg_j, mk.2.1, ms_j, mk.2.2.2.1, mk.2.2.2.2.1, mk.2.2.2.2.2.1, mk.2.2.2.2.2.2.1, mk.2.2.2.2.2.2.2.1, mk.2.2.2.2.2.2.2.2.1, mk.2.2.2.2.2.2.2.2.2) mg mt mc T)), 0, 0) := by
    intro mrg_j ms_j z0 z1 z2 z3 hf
    unfold M_fill_j14 at hf
    obtain rfl := Option.some.inj hf
    refine stp hm 2 ?_
    exact h
  unfold M_fill at hf
  refine stp hm 2 (M_isCell_ok hE rfl ?_)
  show sxWP sc cl Q 154 (4, [some (.ref 59), some (.int v1), some (.int v2), some (.int v3)], [.int (M_isCell v1)], (cW nw kp im ol sn sr tp (mW mk mg mt mc T)), 0, 0)
  refine stp hm 1 (br hf (fun c1 hf => ?_) (fun c1 hf => ?_))
  · show sxWP sc cl Q 154 (14, [some (.ref 59), some (.int v1), some (.int v2), some (.int v3)], [], (cW nw kp im ol sn sr tp (mW mk mg mt mc T)), 0, 0)
    exact J14 _ _ _ _ _ _ hf
  · show sxWP sc cl Q 154 (7, [some (.ref 59), some (.int v1), some (.int v2), some (.int v3)], [], (cW nw kp im ol sn sr tp (mW mk mg mt mc T)), 0, 0)
    refine stp hm 2 (M_isCell_ok hE rfl ?_)
    show sxWP sc cl Q 154 (11, [some (.ref 59), some (.int v1), some (.int v2), some (.int v3)], [.int (M_isCell v2)], (cW nw kp im ol sn sr tp (mW mk mg mt mc T)), 0, 0)
    refine stp hm 1 (brn hf (fun c2 hf => ?_) (fun c2 hf => ?_))
    · show sxWP sc cl Q 154 (16, [some (.ref 59), some (.int v1), some (.int v2), some (.int v3)], [], (cW nw kp im ol sn sr tp (mW mk mg mt mc T)), 0, 0)
      refine stp hm 4 (M_isIn_ok hE rfl ?_)
      show sxWP sc cl Q 154 (22, [some (.ref 59), some (.int v1), some (.int v2), some (.int v3)], [.int (M_isIn v3 (0:Int32) (1:Int32))], (cW nw kp im ol sn sr tp (mW mk mg mt mc T)), 0, 0)
      refine stp hm 1 (br hf (fun c3 hf => ?_) (fun c3 hf => ?_))
      · show sxWP sc cl Q 154 (47, [some (.ref 59), some (.int v1), some (.int v2), some (.int v3)], [], (cW nw kp im ol sn sr tp (mW mk mg mt mc T)), 0, 0)
        exact J47 _ _ _ _ _ _ hf
      · show sxWP sc cl Q 154 (25, [some (.ref 59), some (.int v1), some (.int v2), some (.int v3)], [], (cW nw kp im ol sn sr tp (mW mk mg mt mc T)), 0, 0)
        refine stp hm 3 (And.intro (by decide) (?_ : sxWP sc cl Q 154 (29, [some (.ref 59), some (.int v1), some (.int v2), some (.int v3)], [.int (v2 / (6:Int32))], (cW nw kp im ol sn sr tp (mW mk mg mt mc T)), 0, 0)))
        refine stp hm 3 (And.intro (by decide) (?_ : sxWP sc cl Q 154 (33, [some (.ref 59), some (.int v1), some (.int v2), some (.int v3)], [.int (v1 / (6:Int32)), .int (v2 / (6:Int32))], (cW nw kp im ol sn sr tp (mW mk mg mt mc T)), 0, 0)))
        refine stp hm 1 (br hf (fun c4 hf => ?_) (fun c4 hf => ?_))
        · show sxWP sc cl Q 154 (47, [some (.ref 59), some (.int v1), some (.int v2), some (.int v3)], [], (cW nw kp im ol sn sr tp (mW mk mg mt mc T)), 0, 0)
          exact J47 _ _ _ _ _ _ hf
        · show sxWP sc cl Q 154 (36, [some (.ref 59), some (.int v1), some (.int v2), some (.int v3)], [], (cW nw kp im ol sn sr tp (mW mk mg mt mc T)), 0, 0)
          refine stp hm 3 (And.intro (by decide) (?_ : sxWP sc cl Q 154 (40, [some (.ref 59), some (.int v1), some (.int v2), some (.int v3)], [.int (v2 - v2 / (6:Int32) * (6:Int32))], (cW nw kp im ol sn sr tp (mW mk mg mt mc T)), 0, 0)))
          refine stp hm 3 (And.intro (by decide) (?_ : sxWP sc cl Q 154 (44, [some (.ref 59), some (.int v1), some (.int v2), some (.int v3)], [.int (v1 - v1 / (6:Int32) * (6:Int32)), .int (v2 - v2 / (6:Int32) * (6:Int32))], (cW nw kp im ol sn sr tp (mW mk mg mt mc T)), 0, 0)))
          refine stp hm 1 (br hf (fun c5 hf => ?_) (fun c5 hf => ?_))
          · show sxWP sc cl Q 154 (50, [some (.ref 59), some (.int v1), some (.int v2), some (.int v3)], [], (cW nw kp im ol sn sr tp (mW mk mg mt mc T)), 0, 0)
            have m6 : ∀ (m6_0 : Int32), m6_0 = (if v3 = (1:Int32) then (1:Int32) else (0:Int32)) → sxWP sc cl Q 154 (64, [some (.ref 59), some (.int v1), some (.int v2), some (.int v3)], [.int m6_0, .int v2, .int v1, .ref 59, .ref 59], (cW nw kp im ol sn sr tp (mW mk mg mt mc T)), 0, 0) := by
              intro m6_0 em6_0
              subst em6_0
              obtain ⟨q7, hq7, hf⟩ := bnd hf
              refine stp hm 1 (M_filled_ok hE hq7 ?_)
              show sxWP sc cl Q 154 (67, [some (.ref 59), some (.int v1), some (.int v2), some (.int v3)], [.long q7, .ref 59], (cW nw kp im ol sn sr tp (mW mk mg mt mc T)), 0, 0)
              obtain ⟨q8, hq8, hf⟩ := bnd hf
              refine stp hm 1 (M_becomes_ok hE hq8 ?_)
              show sxWP sc cl Q 154 (70, [some (.ref 59), some (.int v1), some (.int v2), some (.int v3)], [], (cW nw kp im ol sn sr tp (mW (q8.1, mk.2.1, q8.2, mk.2.2.2.1, mk.2.2.2.2.1, mk.2.2.2.2.2.1, mk.2.2.2.2.2.2.1, mk.2.2.2.2.2.2.2.1, mk.2.2.2.2.2.2.2.2.1, mk.2.2.2.2.2.2.2.2.2) mg mt mc T)), 0, 0)
              obtain ⟨q9, hq9, hf⟩ := bnd hf
              refine stp hm 2 (M_cells_ok hE hq9 ?_)
              show sxWP sc cl Q 154 (74, [some (.ref 59), some (.int v1), some (.int v2), some (.int v3)], [.int q9], (cW nw kp im ol sn sr tp (mW (q8.1, mk.2.1, q8.2, mk.2.2.2.1, mk.2.2.2.2.1, mk.2.2.2.2.2.1, mk.2.2.2.2.2.2.1, mk.2.2.2.2.2.2.2.1, mk.2.2.2.2.2.2.2.2.1, mk.2.2.2.2.2.2.2.2.2) mg mt mc T)), 0, 0)
              obtain rfl := Option.some.inj hf
              refine stp hm 1 ?_
              exact h
            refine stp hm 7 (bsn (c := v3 = (1:Int32)) (fun c10 => ?_) (fun c10 => ?_))
            · have c10 : ¬ v3 = (1:Int32) := c10
              refine stp hm 1 (?_ : sxWP sc cl Q 154 (64, [some (.ref 59), some (.int v1), some (.int v2), some (.int v3)], [.int (0:Int32), .int v2, .int v1, .ref 59, .ref 59], (cW nw kp im ol sn sr tp (mW mk mg mt mc T)), 0, 0))
              exact m6 _ (by rw [if_neg c10])
            · have c10 : v3 = (1:Int32) := c10
              refine stp hm 2 (?_ : sxWP sc cl Q 154 (64, [some (.ref 59), some (.int v1), some (.int v2), some (.int v3)], [.int (1:Int32), .int v2, .int v1, .ref 59, .ref 59], (cW nw kp im ol sn sr tp (mW mk mg mt mc T)), 0, 0))
              exact m6 _ (by rw [if_pos c10])
          · show sxWP sc cl Q 154 (47, [some (.ref 59), some (.int v1), some (.int v2), some (.int v3)], [], (cW nw kp im ol sn sr tp (mW mk mg mt mc T)), 0, 0)
            exact J47 _ _ _ _ _ _ hf
    · show sxWP sc cl Q 154 (14, [some (.ref 59), some (.int v1), some (.int v2), some (.int v3)], [], (cW nw kp im ol sn sr tp (mW mk mg mt mc T)), 0, 0)
      exact J14 _ _ _ _ _ _ hf

def G_hangsTogether_s8  (v0 : Int64) (s : (Int64 × Int32)) : Option ((Int64 × Int32) ⊕ Int64) := if (64:Int32) ≤ s.2 then (some (Sum.inr s.1)) else (some (Sum.inl ((((s.1 ||| (((s.1 <<< ((1:Int32).toInt64 &&& 63)) &&& (-72340172838076674:Int64)) ||| (((s.1.toUInt64 >>> ((1:Int32).toInt64.toUInt64 &&& Int64.toUInt64 63)).toInt64) &&& (9187201950435737471:Int64)))) ||| (s.1 <<< ((8:Int32).toInt64 &&& 63))) ||| ((s.1.toUInt64 >>> ((8:Int32).toInt64.toUInt64 &&& Int64.toUInt64 63)).toInt64)) &&& v0, s.2 + (1:Int32))))
def G_hangsTogether (v0 : Int64)  : Option Int32 := Option.bind (wh (G_hangsTogether_s8 v0) FU (v0 &&& (-v0), (0:Int32))) (fun w1 => some (if w1 = v0 then (1:Int32) else (0:Int32)))
set_option maxRecDepth 10000 in
theorem G_hangsTogether_l8 {v0 : Int64}   (hE : cl = sxE sc (d + 0)) (hm : CallMono cl) : ∀ (n : Nat) (s : (Int64 × Int32)) (r : Int64), wh (G_hangsTogether_s8 v0) n s = some r → (∀ (z4 z5 z6 : Option Value), sxWP sc cl Q 12 (55, [some (.long v0), none, some (.long r), none, z4, z5, z6], [], (cW nw kp im ol sn sr tp (mW mk mg mt mc T)), 0, 0)) → ∀ (z5 z6 : Option Value), sxWP sc cl Q 12 (8, [some (.long v0), none, some (.long s.1), none, some (.int s.2), z5, z6], [], (cW nw kp im ol sn sr tp (mW mk mg mt mc T)), 0, 0) := by
  refine wh_run (A := fun (s : (Int64 × Int32)) => ∀ (z5 z6 : Option Value), sxWP sc cl Q 12 (8, [some (.long v0), none, some (.long s.1), none, some (.int s.2), z5, z6], [], (cW nw kp im ol sn sr tp (mW mk mg mt mc T)), 0, 0)) (B := fun (r : Int64) => ∀ (z4 z5 z6 : Option Value), sxWP sc cl Q 12 (55, [some (.long v0), none, some (.long r), none, z4, z5, z6], [], (cW nw kp im ol sn sr tp (mW mk mg mt mc T)), 0, 0)) (fun s x hf hA hB => ?_)
  intro z5 z6
  unfold G_hangsTogether_s8 at hf
  refine stp hm 3 (br hf (fun c1 hf => ?_) (fun c1 hf => ?_))
  · show sxWP sc cl Q 12 (55, [some (.long v0), none, some (.long s.1), none, some (.int s.2), z5, z6], [], (cW nw kp im ol sn sr tp (mW mk mg mt mc T)), 0, 0)
    obtain rfl := Option.some.inj hf
    exact hB _ rfl _ _ _
  · show sxWP sc cl Q 12 (15, [some (.long v0), none, some (.long s.1), none, some (.int s.2), z5, z6], [], (cW nw kp im ol sn sr tp (mW mk mg mt mc T)), 0, 0)
    obtain rfl := Option.some.inj hf
    refine stp hm 28 (?_ : sxWP sc cl Q 12 (8, [some (.long v0), none, some (.long ((((s.1 ||| (((s.1 <<< ((1:Int32).toInt64 &&& 63)) &&& (-72340172838076674:Int64)) ||| (((s.1.toUInt64 >>> ((1:Int32).toInt64.toUInt64 &&& Int64.toUInt64 63)).toInt64) &&& (9187201950435737471:Int64)))) ||| (s.1 <<< ((8:Int32).toInt64 &&& 63))) ||| ((s.1.toUInt64 >>> ((8:Int32).toInt64.toUInt64 &&& Int64.toUInt64 63)).toInt64)) &&& v0)), none, some (.int (s.2 + (1:Int32))), some (.long (((s.1 <<< ((1:Int32).toInt64 &&& 63)) &&& (-72340172838076674:Int64)) ||| (((s.1.toUInt64 >>> ((1:Int32).toInt64.toUInt64 &&& Int64.toUInt64 63)).toInt64) &&& (9187201950435737471:Int64)))), none], [], (cW nw kp im ol sn sr tp (mW mk mg mt mc T)), 0, 0))
    exact hA _ rfl _ _
set_option maxRecDepth 10000 in
theorem G_hangsTogether_ok {v0 : Int64} {q : Int32} (hc : call = sxE sc (d + 1)) (hf : G_hangsTogether v0 = some q) (h : Q (some (.int q)) (cW nw kp im ol sn sr tp (mW mk mg mt mc T))) : call 12 [.long v0] (cW nw kp im ol sn sr tp (mW mk mg mt mc T)) Q := by
  refine ent hc rfl (fun cl hE hm => ?_)
  unfold G_hangsTogether at hf
  obtain ⟨w1, hw1, hf⟩ := bnd hf
  refine stp hm 7 (?_ : sxWP sc cl Q 12 (8, [some (.long v0), none, some (.long (v0 &&& (-v0))), none, some (.int (0:Int32)), none, none], [], (cW nw kp im ol sn sr tp (mW mk mg mt mc T)), 0, 0))
  refine G_hangsTogether_l8 hE hm _ _ _ hw1 ?_ _ _
  intro w1_z4 w1_z5 w1_z6
  show sxWP sc cl Q 12 (55, [some (.long v0), none, some (.long w1), none, w1_z4, w1_z5, w1_z6], [], (cW nw kp im ol sn sr tp (mW mk mg mt mc T)), 0, 0)
  have m2 : ∀ (m2_0 : Int32), m2_0 = (if w1 = v0 then (1:Int32) else (0:Int32)) → sxWP sc cl Q 12 (66, [some (.long v0), none, some (.long w1), none, w1_z4, w1_z5, w1_z6], [.int m2_0], (cW nw kp im ol sn sr tp (mW mk mg mt mc T)), 0, 0) := by
    intro m2_0 em2_0
    subst em2_0
    obtain rfl := Option.some.inj hf
    refine stp hm 1 (And.intro (by (repeat' split) <;> first | exact Or.inl rfl | exact Or.inr rfl) ?_)
    exact h
  refine stp hm 4 (bsnI (lg_cmp_eq _ _) (fun c3 => ?_) (fun c3 => ?_))
  · have c3 : ¬ w1 = v0 := c3
    refine stp hm 1 (?_ : sxWP sc cl Q 12 (66, [some (.long v0), none, some (.long w1), none, w1_z4, w1_z5, w1_z6], [.int (0:Int32)], (cW nw kp im ol sn sr tp (mW mk mg mt mc T)), 0, 0))
    exact m2 _ (by rw [if_neg c3])
  · have c3 : w1 = v0 := c3
    refine stp hm 2 (?_ : sxWP sc cl Q 12 (66, [some (.long v0), none, some (.long w1), none, w1_z4, w1_z5, w1_z6], [.int (1:Int32)], (cW nw kp im ol sn sr tp (mW mk mg mt mc T)), 0, 0))
    exact m2 _ (by rw [if_pos c3])

def G_isSimple_s5  (v0 : Int64) (s : (Int64 × Int32)) : Option ((Int64 × Int32) ⊕ Int64) := if (6:Int32) ≤ s.2 then (some (Sum.inr s.1)) else (some (Sum.inl (s.1 ||| ((((v0.toUInt64 >>> ((s.2 * (6:Int32)).toInt64.toUInt64 &&& Int64.toUInt64 63)).toInt64) &&& (63:Int64)) <<< ((((s.2 + (1:Int32)) * (8:Int32)) + (1:Int32)).toInt64 &&& 63)), s.2 + (1:Int32))))
def G_isSimple_j75  (k0 : Int32) : Option Int32 := grd (zb k0) (some k0)
def G_isSimple_j74   : Option Int32 := G_isSimple_j75 (0:Int32)
def G_isSimple (v0 : Int64)  : Option Int32 := Option.bind (wh (G_isSimple_s5 v0) FU ((0:Int64), (0:Int32))) (fun w1 => if w1 = (0:Int64) then G_isSimple_j74 else (Option.bind (G_hangsTogether w1) (fun q3 => if q3 = (0:Int32) then G_isSimple_j74 else (Option.bind (G_hangsTogether (w1 ^^^ (-1:Int64))) (fun q5 => some (if q5 = (0:Int32) then (0:Int32) else (1:Int32)))))))
set_option maxRecDepth 10000 in
theorem G_isSimple_l5 {v0 : Int64}   (hE : cl = sxE sc (d + 1)) (hm : CallMono cl) : ∀ (n : Nat) (s : (Int64 × Int32)) (r : Int64), wh (G_isSimple_s5 v0) n s = some r → (∀ (z0 z1 z4 z5 z6 : Option Value), sxWP sc cl Q 11 (46, [z0, z1, some (.long r), none, z4, z5, z6], [], (cW nw kp im ol sn sr tp (mW mk mg mt mc T)), 0, 0)) → ∀ (z5 z6 : Option Value), sxWP sc cl Q 11 (5, [some (.long v0), none, some (.long s.1), none, some (.int s.2), z5, z6], [], (cW nw kp im ol sn sr tp (mW mk mg mt mc T)), 0, 0) := by
  refine wh_run (A := fun (s : (Int64 × Int32)) => ∀ (z5 z6 : Option Value), sxWP sc cl Q 11 (5, [some (.long v0), none, some (.long s.1), none, some (.int s.2), z5, z6], [], (cW nw kp im ol sn sr tp (mW mk mg mt mc T)), 0, 0)) (B := fun (r : Int64) => ∀ (z0 z1 z4 z5 z6 : Option Value), sxWP sc cl Q 11 (46, [z0, z1, some (.long r), none, z4, z5, z6], [], (cW nw kp im ol sn sr tp (mW mk mg mt mc T)), 0, 0)) (fun s x hf hA hB => ?_)
  intro z5 z6
  unfold G_isSimple_s5 at hf
  refine stp hm 3 (br hf (fun c1 hf => ?_) (fun c1 hf => ?_))
  · show sxWP sc cl Q 11 (46, [some (.long v0), none, some (.long s.1), none, some (.int s.2), z5, z6], [], (cW nw kp im ol sn sr tp (mW mk mg mt mc T)), 0, 0)
    obtain rfl := Option.some.inj hf
    exact hB _ rfl _ _ _ _ _
  · show sxWP sc cl Q 11 (12, [some (.long v0), none, some (.long s.1), none, some (.int s.2), z5, z6], [], (cW nw kp im ol sn sr tp (mW mk mg mt mc T)), 0, 0)
    obtain rfl := Option.some.inj hf
    refine stp hm 22 (?_ : sxWP sc cl Q 11 (5, [some (.long v0), none, some (.long (s.1 ||| ((((v0.toUInt64 >>> ((s.2 * (6:Int32)).toInt64.toUInt64 &&& Int64.toUInt64 63)).toInt64) &&& (63:Int64)) <<< ((((s.2 + (1:Int32)) * (8:Int32)) + (1:Int32)).toInt64 &&& 63)))), none, some (.int (s.2 + (1:Int32))), some (.long (((v0.toUInt64 >>> ((s.2 * (6:Int32)).toInt64.toUInt64 &&& Int64.toUInt64 63)).toInt64) &&& (63:Int64))), none], [], (cW nw kp im ol sn sr tp (mW mk mg mt mc T)), 0, 0))
    exact hA _ rfl _ _
set_option maxRecDepth 10000 in
theorem G_isSimple_ok {v0 : Int64} {q : Int32} (hc : call = sxE sc (d + 2)) (hf : G_isSimple v0 = some q) (h : Q (some (.int q)) (cW nw kp im ol sn sr tp (mW mk mg mt mc T))) : call 11 [.long v0] (cW nw kp im ol sn sr tp (mW mk mg mt mc T)) Q := by
  refine ent hc rfl (fun cl hE hm => ?_)
  have J75 : ∀ (k0 : Int32) (z0 : Option Value) (z1 : Option Value) (z2 : Option Value) (z3 : Option Value) (z4 : Option Value) (z5 : Option Value) (z6 : Option Value), G_isSimple_j75 k0 = some q → sxWP sc cl Q 11 (75, [z0, z1, z2, z3, z4, z5, z6], [.int k0], (cW nw kp im ol sn sr tp (mW mk mg mt mc T)), 0, 0) := by
    intro k0 z0 z1 z2 z3 z4 z5 z6 hf
    unfold G_isSimple_j75 at hf
    obtain ⟨g0, hf⟩ := grd_e hf
    obtain rfl := Option.some.inj hf
    refine stp hm 1 (And.intro (zb_e g0) ?_)
    exact h
  have J74 : ∀  (z0 : Option Value) (z1 : Option Value) (z2 : Option Value) (z3 : Option Value) (z4 : Option Value) (z5 : Option Value) (z6 : Option Value), G_isSimple_j74 = some q → sxWP sc cl Q 11 (74, [z0, z1, z2, z3, z4, z5, z6], [], (cW nw kp im ol sn sr tp (mW mk mg mt mc T)), 0, 0) := by
    intro z0 z1 z2 z3 z4 z5 z6 hf
    unfold G_isSimple_j74 at hf
    refine stp hm 1 (?_ : sxWP sc cl Q 11 (75, [z0, z1, z2, z3, z4, z5, z6], [.int (0:Int32)], (cW nw kp im ol sn sr tp (mW mk mg mt mc T)), 0, 0))
    exact J75 _ _ _ _ _ _ _ _ hf
  unfold G_isSimple at hf
  obtain ⟨w1, hw1, hf⟩ := bnd hf
  refine stp hm 4 (?_ : sxWP sc cl Q 11 (5, [some (.long v0), none, some (.long (0:Int64)), none, some (.int (0:Int32)), none, none], [], (cW nw kp im ol sn sr tp (mW mk mg mt mc T)), 0, 0))
  refine G_isSimple_l5 hE hm _ _ _ hw1 ?_ _ _
  intro w1_z0 w1_z1 w1_z4 w1_z5 w1_z6
  show sxWP sc cl Q 11 (46, [w1_z0, w1_z1, some (.long w1), none, w1_z4, w1_z5, w1_z6], [], (cW nw kp im ol sn sr tp (mW mk mg mt mc T)), 0, 0)
  refine stp hm 4 (brI (lg_cmp_eq _ _) hf (fun c2 hf => ?_) (fun c2 hf => ?_))
  · show sxWP sc cl Q 11 (74, [w1_z0, w1_z1, some (.long w1), none, w1_z4, w1_z5, w1_z6], [], (cW nw kp im ol sn sr tp (mW mk mg mt mc T)), 0, 0)
    exact J74 _ _ _ _ _ _ _ hf
  · show sxWP sc cl Q 11 (52, [w1_z0, w1_z1, some (.long w1), none, w1_z4, w1_z5, w1_z6], [], (cW nw kp im ol sn sr tp (mW mk mg mt mc T)), 0, 0)
    obtain ⟨q3, hq3, hf⟩ := bnd hf
    refine stp hm 2 (G_hangsTogether_ok hE hq3 ?_)
    show sxWP sc cl Q 11 (56, [w1_z0, w1_z1, some (.long w1), none, w1_z4, w1_z5, w1_z6], [.int q3], (cW nw kp im ol sn sr tp (mW mk mg mt mc T)), 0, 0)
    refine stp hm 1 (br hf (fun c4 hf => ?_) (fun c4 hf => ?_))
    · show sxWP sc cl Q 11 (74, [w1_z0, w1_z1, some (.long w1), none, w1_z4, w1_z5, w1_z6], [], (cW nw kp im ol sn sr tp (mW mk mg mt mc T)), 0, 0)
      exact J74 _ _ _ _ _ _ _ hf
    · show sxWP sc cl Q 11 (59, [w1_z0, w1_z1, some (.long w1), none, w1_z4, w1_z5, w1_z6], [], (cW nw kp im ol sn sr tp (mW mk mg mt mc T)), 0, 0)
      obtain ⟨q5, hq5, hf⟩ := bnd hf
      refine stp hm 4 (G_hangsTogether_ok hE hq5 ?_)
      show sxWP sc cl Q 11 (67, [w1_z0, w1_z1, some (.long w1), none, w1_z4, w1_z5, w1_z6], [.int q5], (cW nw kp im ol sn sr tp (mW mk mg mt mc T)), 0, 0)
      have m6 : ∀ (m6_0 : Int32), m6_0 = (if q5 = (0:Int32) then (0:Int32) else (1:Int32)) → sxWP sc cl Q 11 (75, [w1_z0, w1_z1, some (.long w1), none, w1_z4, w1_z5, w1_z6], [.int m6_0], (cW nw kp im ol sn sr tp (mW mk mg mt mc T)), 0, 0) := by
        intro m6_0 em6_0
        subst em6_0
        obtain rfl := Option.some.inj hf
        refine stp hm 1 (And.intro (by (repeat' split) <;> first | exact Or.inl rfl | exact Or.inr rfl) ?_)
        exact h
      refine stp hm 1 (bs (c := q5 = (0:Int32)) (fun c7 => ?_) (fun c7 => ?_))
      · have c7 : q5 = (0:Int32) := c7
        refine stp hm 1 (?_ : sxWP sc cl Q 11 (75, [w1_z0, w1_z1, some (.long w1), none, w1_z4, w1_z5, w1_z6], [.int (0:Int32)], (cW nw kp im ol sn sr tp (mW mk mg mt mc T)), 0, 0))
        exact m6 _ (by rw [if_pos c7])
      · have c7 : ¬ q5 = (0:Int32) := c7
        refine stp hm 2 (?_ : sxWP sc cl Q 11 (75, [w1_z0, w1_z1, some (.long w1), none, w1_z4, w1_z5, w1_z6], [.int (1:Int32)], (cW nw kp im ol sn sr tp (mW mk mg mt mc T)), 0, 0))
        exact m6 _ (by rw [if_neg c7])

def G_cellAt (v0 : Int32) (v1 : Int32)  : Int32 := if (if v0 < (0:Int32) then (0:Int32) else (if (6:Int32) ≤ v0 then (0:Int32) else (if v1 < (0:Int32) then (0:Int32) else (if (6:Int32) ≤ v1 then (0:Int32) else (1:Int32))))) = (0:Int32) then (-1:Int32) else ((v0 * (6:Int32)) + v1)
set_option maxRecDepth 10000 in
theorem G_cellAt_ok {v0 : Int32} {v1 : Int32} {r : Int32} (hc : call = sxE sc (d + 1)) (hf : G_cellAt v0 v1 = r) (h : Q (some (.int r)) hp) : call 4 [.int v0, .int v1] hp Q := by
  refine ent hc rfl (fun cl hE hm => ?_)
  unfold G_cellAt at hf
  have m1 : ∀ (m1_0 : Int32), m1_0 = (if v0 < (0:Int32) then (0:Int32) else (if (6:Int32) ≤ v0 then (0:Int32) else (if v1 < (0:Int32) then (0:Int32) else (if (6:Int32) ≤ v1 then (0:Int32) else (1:Int32))))) → sxWP sc cl Q 4 (25, [some (.int v0), some (.int v1), none], [.int m1_0], hp, 0, 0) := by
    intro m1_0 em1_0
    subst em1_0
    have m2 : ∀ (m2_0 : Int32), m2_0 = (if (if v0 < (0:Int32) then (0:Int32) else (if (6:Int32) ≤ v0 then (0:Int32) else (if v1 < (0:Int32) then (0:Int32) else (if (6:Int32) ≤ v1 then (0:Int32) else (1:Int32))))) = (0:Int32) then (-1:Int32) else ((v0 * (6:Int32)) + v1)) → sxWP sc cl Q 4 (40, [some (.int v0), some (.int v1), some (.int (if v0 < (0:Int32) then (0:Int32) else (if (6:Int32) ≤ v0 then (0:Int32) else (if v1 < (0:Int32) then (0:Int32) else (if (6:Int32) ≤ v1 then (0:Int32) else (1:Int32))))))], [.int m2_0], hp, 0, 0) := by
      intro m2_0 em2_0
      subst em2_0
      subst hf
      refine stp hm 1 ?_
      exact h
    refine stp hm 3 (bs (c := (if v0 < (0:Int32) then (0:Int32) else (if (6:Int32) ≤ v0 then (0:Int32) else (if v1 < (0:Int32) then (0:Int32) else (if (6:Int32) ≤ v1 then (0:Int32) else (1:Int32))))) = (0:Int32)) (fun c3 => ?_) (fun c3 => ?_))
    · have c3 : (if v0 < (0:Int32) then (0:Int32) else (if (6:Int32) ≤ v0 then (0:Int32) else (if v1 < (0:Int32) then (0:Int32) else (if (6:Int32) ≤ v1 then (0:Int32) else (1:Int32))))) = (0:Int32) := c3
      refine stp hm 1 (?_ : sxWP sc cl Q 4 (40, [some (.int v0), some (.int v1), some (.int (if v0 < (0:Int32) then (0:Int32) else (if (6:Int32) ≤ v0 then (0:Int32) else (if v1 < (0:Int32) then (0:Int32) else (if (6:Int32) ≤ v1 then (0:Int32) else (1:Int32))))))], [.int (-1:Int32)], hp, 0, 0))
      exact m2 _ (by rw [if_pos c3])
    · have c3 : ¬ (if v0 < (0:Int32) then (0:Int32) else (if (6:Int32) ≤ v0 then (0:Int32) else (if v1 < (0:Int32) then (0:Int32) else (if (6:Int32) ≤ v1 then (0:Int32) else (1:Int32))))) = (0:Int32) := c3
      refine stp hm 6 (?_ : sxWP sc cl Q 4 (40, [some (.int v0), some (.int v1), some (.int (if v0 < (0:Int32) then (0:Int32) else (if (6:Int32) ≤ v0 then (0:Int32) else (if v1 < (0:Int32) then (0:Int32) else (if (6:Int32) ≤ v1 then (0:Int32) else (1:Int32))))))], [.int ((v0 * (6:Int32)) + v1)], hp, 0, 0))
      exact m2 _ (by rw [if_neg c3])
  refine stp hm 2 (bs (c := v0 < (0:Int32)) (fun c4 => ?_) (fun c4 => ?_))
  · have c4 : v0 < (0:Int32) := c4
    refine stp hm 1 (?_ : sxWP sc cl Q 4 (25, [some (.int v0), some (.int v1), none], [.int (0:Int32)], hp, 0, 0))
    exact m1 _ (by rw [if_pos c4])
  · have c4 : ¬ v0 < (0:Int32) := c4
    refine stp hm 3 (bs (c := (6:Int32) ≤ v0) (fun c5 => ?_) (fun c5 => ?_))
    · have c5 : (6:Int32) ≤ v0 := c5
      refine stp hm 1 (?_ : sxWP sc cl Q 4 (25, [some (.int v0), some (.int v1), none], [.int (0:Int32)], hp, 0, 0))
      exact m1 _ (by rw [if_neg c4, if_pos c5])
    · have c5 : ¬ (6:Int32) ≤ v0 := c5
      refine stp hm 2 (bs (c := v1 < (0:Int32)) (fun c6 => ?_) (fun c6 => ?_))
      · have c6 : v1 < (0:Int32) := c6
        refine stp hm 1 (?_ : sxWP sc cl Q 4 (25, [some (.int v0), some (.int v1), none], [.int (0:Int32)], hp, 0, 0))
        exact m1 _ (by rw [if_neg c4, if_neg c5, if_pos c6])
      · have c6 : ¬ v1 < (0:Int32) := c6
        refine stp hm 3 (bs (c := (6:Int32) ≤ v1) (fun c7 => ?_) (fun c7 => ?_))
        · have c7 : (6:Int32) ≤ v1 := c7
          refine stp hm 1 (?_ : sxWP sc cl Q 4 (25, [some (.int v0), some (.int v1), none], [.int (0:Int32)], hp, 0, 0))
          exact m1 _ (by rw [if_neg c4, if_neg c5, if_neg c6, if_pos c7])
        · have c7 : ¬ (6:Int32) ≤ v1 := c7
          refine stp hm 2 (?_ : sxWP sc cl Q 4 (25, [some (.int v0), some (.int v1), none], [.int (1:Int32)], hp, 0, 0))
          exact m1 _ (by rw [if_neg c4, if_neg c5, if_neg c6, if_neg c7])

def G_leftOf (v0 : Int32) (v1 : Int32)  : Int32 := G_cellAt ((v0 / (7:Int32)) - (if v1 = (0:Int32) then (1:Int32) else (if v1 = (3:Int32) then (1:Int32) else (0:Int32)))) ((v0 - v0 / (7:Int32) * (7:Int32)) - (if v1 = (2:Int32) then (1:Int32) else (if v1 = (3:Int32) then (1:Int32) else (0:Int32))))
set_option maxRecDepth 10000 in
theorem G_leftOf_ok {v0 : Int32} {v1 : Int32} {r : Int32} (hc : call = sxE sc (d + 2)) (hf : G_leftOf v0 v1 = r) (h : Q (some (.int r)) hp) : call 15 [.int v0, .int v1] hp Q := by
  refine ent hc rfl (fun cl hE hm => ?_)
  unfold G_leftOf at hf
  have m1 : ∀ (m1_0 : Int32), m1_0 = (if v1 = (0:Int32) then (1:Int32) else (if v1 = (3:Int32) then (1:Int32) else (0:Int32))) → sxWP sc cl Q 15 (14, [some (.int v0), some (.int v1), none, none], [.int m1_0], hp, 0, 0) := by
    intro m1_0 em1_0
    subst em1_0
    have m2 : ∀ (m2_0 : Int32), m2_0 = (if v1 = (2:Int32) then (1:Int32) else (if v1 = (3:Int32) then (1:Int32) else (0:Int32))) → sxWP sc cl Q 15 (30, [some (.int v0), some (.int v1), some (.int (if v1 = (0:Int32) then (1:Int32) else (if v1 = (3:Int32) then (1:Int32) else (0:Int32)))), none], [.int m2_0], hp, 0, 0) := by
      intro m2_0 em2_0
      subst em2_0
      refine stp hm 4 (And.intro (by decide) (?_ : sxWP sc cl Q 15 (35, [some (.int v0), some (.int v1), some (.int (if v1 = (0:Int32) then (1:Int32) else (if v1 = (3:Int32) then (1:Int32) else (0:Int32)))), some (.int (if v1 = (2:Int32) then (1:Int32) else (if v1 = (3:Int32) then (1:Int32) else (0:Int32))))], [.int (v0 / (7:Int32))], hp, 0, 0)))
      refine stp hm 5 (And.intro (by decide) (?_ : sxWP sc cl Q 15 (41, [some (.int v0), some (.int v1), some (.int (if v1 = (0:Int32) then (1:Int32) else (if v1 = (3:Int32) then (1:Int32) else (0:Int32)))), some (.int (if v1 = (2:Int32) then (1:Int32) else (if v1 = (3:Int32) then (1:Int32) else (0:Int32))))], [.int (v0 - v0 / (7:Int32) * (7:Int32)), .int ((v0 / (7:Int32)) - (if v1 = (0:Int32) then (1:Int32) else (if v1 = (3:Int32) then (1:Int32) else (0:Int32))))], hp, 0, 0)))
      refine stp hm 3 (G_cellAt_ok hE rfl ?_)
      show sxWP sc cl Q 15 (46, [some (.int v0), some (.int v1), some (.int (if v1 = (0:Int32) then (1:Int32) else (if v1 = (3:Int32) then (1:Int32) else (0:Int32)))), some (.int (if v1 = (2:Int32) then (1:Int32) else (if v1 = (3:Int32) then (1:Int32) else (0:Int32))))], [.int (G_cellAt ((v0 / (7:Int32)) - (if v1 = (0:Int32) then (1:Int32) else (if v1 = (3:Int32) then (1:Int32) else (0:Int32)))) ((v0 - v0 / (7:Int32) * (7:Int32)) - (if v1 = (2:Int32) then (1:Int32) else (if v1 = (3:Int32) then (1:Int32) else (0:Int32)))))], hp, 0, 0)
      subst hf
      refine stp hm 1 ?_
      exact h
    refine stp hm 4 (bs (c := v1 = (2:Int32)) (fun c3 => ?_) (fun c3 => ?_))
    · have c3 : v1 = (2:Int32) := c3
      refine stp hm 2 (?_ : sxWP sc cl Q 15 (30, [some (.int v0), some (.int v1), some (.int (if v1 = (0:Int32) then (1:Int32) else (if v1 = (3:Int32) then (1:Int32) else (0:Int32)))), none], [.int (1:Int32)], hp, 0, 0))
      exact m2 _ (by rw [if_pos c3])
    · have c3 : ¬ v1 = (2:Int32) := c3
      refine stp hm 3 (bsn (c := v1 = (3:Int32)) (fun c4 => ?_) (fun c4 => ?_))
      · have c4 : ¬ v1 = (3:Int32) := c4
        refine stp hm 1 (?_ : sxWP sc cl Q 15 (30, [some (.int v0), some (.int v1), some (.int (if v1 = (0:Int32) then (1:Int32) else (if v1 = (3:Int32) then (1:Int32) else (0:Int32)))), none], [.int (0:Int32)], hp, 0, 0))
        exact m2 _ (by rw [if_neg c3, if_neg c4])
      · have c4 : v1 = (3:Int32) := c4
        refine stp hm 2 (?_ : sxWP sc cl Q 15 (30, [some (.int v0), some (.int v1), some (.int (if v1 = (0:Int32) then (1:Int32) else (if v1 = (3:Int32) then (1:Int32) else (0:Int32)))), none], [.int (1:Int32)], hp, 0, 0))
        exact m2 _ (by rw [if_neg c3, if_pos c4])
  refine stp hm 2 (bs (c := v1 = (0:Int32)) (fun c5 => ?_) (fun c5 => ?_))
  · have c5 : v1 = (0:Int32) := c5
    refine stp hm 2 (?_ : sxWP sc cl Q 15 (14, [some (.int v0), some (.int v1), none, none], [.int (1:Int32)], hp, 0, 0))
    exact m1 _ (by rw [if_pos c5])
  · have c5 : ¬ v1 = (0:Int32) := c5
    refine stp hm 3 (bsn (c := v1 = (3:Int32)) (fun c6 => ?_) (fun c6 => ?_))
    · have c6 : ¬ v1 = (3:Int32) := c6
      refine stp hm 1 (?_ : sxWP sc cl Q 15 (14, [some (.int v0), some (.int v1), none, none], [.int (0:Int32)], hp, 0, 0))
      exact m1 _ (by rw [if_neg c5, if_neg c6])
    · have c6 : v1 = (3:Int32) := c6
      refine stp hm 2 (?_ : sxWP sc cl Q 15 (14, [some (.int v0), some (.int v1), none, none], [.int (1:Int32)], hp, 0, 0))
      exact m1 _ (by rw [if_neg c5, if_pos c6])

def G_rightOf (v0 : Int32) (v1 : Int32)  : Int32 := G_cellAt ((v0 / (7:Int32)) - (if v1 = (2:Int32) then (1:Int32) else (if v1 = (3:Int32) then (1:Int32) else (0:Int32)))) ((v0 - v0 / (7:Int32) * (7:Int32)) - (if v1 = (1:Int32) then (1:Int32) else (if v1 = (2:Int32) then (1:Int32) else (0:Int32))))
set_option maxRecDepth 10000 in
theorem G_rightOf_ok {v0 : Int32} {v1 : Int32} {r : Int32} (hc : call = sxE sc (d + 2)) (hf : G_rightOf v0 v1 = r) (h : Q (some (.int r)) hp) : call 16 [.int v0, .int v1] hp Q := by
  refine ent hc rfl (fun cl hE hm => ?_)
  unfold G_rightOf at hf
  have m1 : ∀ (m1_0 : Int32), m1_0 = (if v1 = (2:Int32) then (1:Int32) else (if v1 = (3:Int32) then (1:Int32) else (0:Int32))) → sxWP sc cl Q 16 (15, [some (.int v0), some (.int v1), none, none], [.int m1_0], hp, 0, 0) := by
    intro m1_0 em1_0
    subst em1_0
    have m2 : ∀ (m2_0 : Int32), m2_0 = (if v1 = (1:Int32) then (1:Int32) else (if v1 = (2:Int32) then (1:Int32) else (0:Int32))) → sxWP sc cl Q 16 (31, [some (.int v0), some (.int v1), some (.int (if v1 = (2:Int32) then (1:Int32) else (if v1 = (3:Int32) then (1:Int32) else (0:Int32)))), none], [.int m2_0], hp, 0, 0) := by
      intro m2_0 em2_0
      subst em2_0
      refine stp hm 4 (And.intro (by decide) (?_ : sxWP sc cl Q 16 (36, [some (.int v0), some (.int v1), some (.int (if v1 = (2:Int32) then (1:Int32) else (if v1 = (3:Int32) then (1:Int32) else (0:Int32)))), some (.int (if v1 = (1:Int32) then (1:Int32) else (if v1 = (2:Int32) then (1:Int32) else (0:Int32))))], [.int (v0 / (7:Int32))], hp, 0, 0)))
      refine stp hm 5 (And.intro (by decide) (?_ : sxWP sc cl Q 16 (42, [some (.int v0), some (.int v1), some (.int (if v1 = (2:Int32) then (1:Int32) else (if v1 = (3:Int32) then (1:Int32) else (0:Int32)))), some (.int (if v1 = (1:Int32) then (1:Int32) else (if v1 = (2:Int32) then (1:Int32) else (0:Int32))))], [.int (v0 - v0 / (7:Int32) * (7:Int32)), .int ((v0 / (7:Int32)) - (if v1 = (2:Int32) then (1:Int32) else (if v1 = (3:Int32) then (1:Int32) else (0:Int32))))], hp, 0, 0)))
      refine stp hm 3 (G_cellAt_ok hE rfl ?_)
      show sxWP sc cl Q 16 (47, [some (.int v0), some (.int v1), some (.int (if v1 = (2:Int32) then (1:Int32) else (if v1 = (3:Int32) then (1:Int32) else (0:Int32)))), some (.int (if v1 = (1:Int32) then (1:Int32) else (if v1 = (2:Int32) then (1:Int32) else (0:Int32))))], [.int (G_cellAt ((v0 / (7:Int32)) - (if v1 = (2:Int32) then (1:Int32) else (if v1 = (3:Int32) then (1:Int32) else (0:Int32)))) ((v0 - v0 / (7:Int32) * (7:Int32)) - (if v1 = (1:Int32) then (1:Int32) else (if v1 = (2:Int32) then (1:Int32) else (0:Int32)))))], hp, 0, 0)
      subst hf
      refine stp hm 1 ?_
      exact h
    refine stp hm 4 (bs (c := v1 = (1:Int32)) (fun c3 => ?_) (fun c3 => ?_))
    · have c3 : v1 = (1:Int32) := c3
      refine stp hm 2 (?_ : sxWP sc cl Q 16 (31, [some (.int v0), some (.int v1), some (.int (if v1 = (2:Int32) then (1:Int32) else (if v1 = (3:Int32) then (1:Int32) else (0:Int32)))), none], [.int (1:Int32)], hp, 0, 0))
      exact m2 _ (by rw [if_pos c3])
    · have c3 : ¬ v1 = (1:Int32) := c3
      refine stp hm 3 (bsn (c := v1 = (2:Int32)) (fun c4 => ?_) (fun c4 => ?_))
      · have c4 : ¬ v1 = (2:Int32) := c4
        refine stp hm 1 (?_ : sxWP sc cl Q 16 (31, [some (.int v0), some (.int v1), some (.int (if v1 = (2:Int32) then (1:Int32) else (if v1 = (3:Int32) then (1:Int32) else (0:Int32)))), none], [.int (0:Int32)], hp, 0, 0))
        exact m2 _ (by rw [if_neg c3, if_neg c4])
      · have c4 : v1 = (2:Int32) := c4
        refine stp hm 2 (?_ : sxWP sc cl Q 16 (31, [some (.int v0), some (.int v1), some (.int (if v1 = (2:Int32) then (1:Int32) else (if v1 = (3:Int32) then (1:Int32) else (0:Int32)))), none], [.int (1:Int32)], hp, 0, 0))
        exact m2 _ (by rw [if_neg c3, if_pos c4])
  refine stp hm 3 (bs (c := v1 = (2:Int32)) (fun c5 => ?_) (fun c5 => ?_))
  · have c5 : v1 = (2:Int32) := c5
    refine stp hm 2 (?_ : sxWP sc cl Q 16 (15, [some (.int v0), some (.int v1), none, none], [.int (1:Int32)], hp, 0, 0))
    exact m1 _ (by rw [if_pos c5])
  · have c5 : ¬ v1 = (2:Int32) := c5
    refine stp hm 3 (bsn (c := v1 = (3:Int32)) (fun c6 => ?_) (fun c6 => ?_))
    · have c6 : ¬ v1 = (3:Int32) := c6
      refine stp hm 1 (?_ : sxWP sc cl Q 16 (15, [some (.int v0), some (.int v1), none, none], [.int (0:Int32)], hp, 0, 0))
      exact m1 _ (by rw [if_neg c5, if_neg c6])
    · have c6 : v1 = (3:Int32) := c6
      refine stp hm 2 (?_ : sxWP sc cl Q 16 (15, [some (.int v0), some (.int v1), none, none], [.int (1:Int32)], hp, 0, 0))
      exact m1 _ (by rw [if_neg c5, if_pos c6])

def G_rise (v0 : Int32) (v1 : Int32)  : Int32 := if (if (((v0 / (7:Int32)) + (v0 - v0 / (7:Int32) * (7:Int32))) &&& (1:Int32)) = (0:Int32) then (1:Int32) else (0:Int32)) = (if v1 = (1:Int32) then (1:Int32) else (if v1 = (3:Int32) then (1:Int32) else (0:Int32))) then (1:Int32) else (-1:Int32)
set_option maxRecDepth 10000 in
theorem G_rise_ok {v0 : Int32} {v1 : Int32} {r : Int32} (hc : call = sxE sc (d + 1)) (hf : G_rise v0 v1 = r) (h : Q (some (.int r)) hp) : call 17 [.int v0, .int v1] hp Q := by
  refine ent hc rfl (fun cl hE hm => ?_)
  unfold G_rise at hf
  refine stp hm 3 (And.intro (by decide) (?_ : sxWP sc cl Q 17 (4, [some (.int v0), some (.int v1), none, none], [.int (v0 / (7:Int32))], hp, 0, 0)))
  refine stp hm 3 (And.intro (by decide) (?_ : sxWP sc cl Q 17 (8, [some (.int v0), some (.int v1), none, none], [.int (v0 - v0 / (7:Int32) * (7:Int32)), .int (v0 / (7:Int32))], hp, 0, 0)))
  have m1 : ∀ (m1_0 : Int32), m1_0 = (if (((v0 / (7:Int32)) + (v0 - v0 / (7:Int32) * (7:Int32))) &&& (1:Int32)) = (0:Int32) then (1:Int32) else (0:Int32)) → sxWP sc cl Q 17 (19, [some (.int v0), some (.int v1), none, none], [.int m1_0], hp, 0, 0) := by
    intro m1_0 em1_0
    subst em1_0
    have m2 : ∀ (m2_0 : Int32), m2_0 = (if v1 = (1:Int32) then (1:Int32) else (if v1 = (3:Int32) then (1:Int32) else (0:Int32))) → sxWP sc cl Q 17 (35, [some (.int v0), some (.int v1), some (.int (if (((v0 / (7:Int32)) + (v0 - v0 / (7:Int32) * (7:Int32))) &&& (1:Int32)) = (0:Int32) then (1:Int32) else (0:Int32))), none], [.int m2_0], hp, 0, 0) := by
      intro m2_0 em2_0
      subst em2_0
      have m3 : ∀ (m3_0 : Int32), m3_0 = (if (if (((v0 / (7:Int32)) + (v0 - v0 / (7:Int32) * (7:Int32))) &&& (1:Int32)) = (0:Int32) then (1:Int32) else (0:Int32)) = (if v1 = (1:Int32) then (1:Int32) else (if v1 = (3:Int32) then (1:Int32) else (0:Int32))) then (1:Int32) else (-1:Int32)) → sxWP sc cl Q 17 (46, [some (.int v0), some (.int v1), some (.int (if (((v0 / (7:Int32)) + (v0 - v0 / (7:Int32) * (7:Int32))) &&& (1:Int32)) = (0:Int32) then (1:Int32) else (0:Int32))), some (.int (if v1 = (1:Int32) then (1:Int32) else (if v1 = (3:Int32) then (1:Int32) else (0:Int32))))], [.int m3_0], hp, 0, 0) := by
        intro m3_0 em3_0
        subst em3_0
        subst hf
        refine stp hm 1 ?_
        exact h
      refine stp hm 4 (bsn (c := (if (((v0 / (7:Int32)) + (v0 - v0 / (7:Int32) * (7:Int32))) &&& (1:Int32)) = (0:Int32) then (1:Int32) else (0:Int32)) = (if v1 = (1:Int32) then (1:Int32) else (if v1 = (3:Int32) then (1:Int32) else (0:Int32)))) (fun c4 => ?_) (fun c4 => ?_))
      · have c4 : ¬ (if (((v0 / (7:Int32)) + (v0 - v0 / (7:Int32) * (7:Int32))) &&& (1:Int32)) = (0:Int32) then (1:Int32) else (0:Int32)) = (if v1 = (1:Int32) then (1:Int32) else (if v1 = (3:Int32) then (1:Int32) else (0:Int32))) := c4
        refine stp hm 1 (?_ : sxWP sc cl Q 17 (46, [some (.int v0), some (.int v1), some (.int (if (((v0 / (7:Int32)) + (v0 - v0 / (7:Int32) * (7:Int32))) &&& (1:Int32)) = (0:Int32) then (1:Int32) else (0:Int32))), some (.int (if v1 = (1:Int32) then (1:Int32) else (if v1 = (3:Int32) then (1:Int32) else (0:Int32))))], [.int (-1:Int32)], hp, 0, 0))
        exact m3 _ (by rw [if_neg c4])
      · have c4 : (if (((v0 / (7:Int32)) + (v0 - v0 / (7:Int32) * (7:Int32))) &&& (1:Int32)) = (0:Int32) then (1:Int32) else (0:Int32)) = (if v1 = (1:Int32) then (1:Int32) else (if v1 = (3:Int32) then (1:Int32) else (0:Int32))) := c4
        refine stp hm 2 (?_ : sxWP sc cl Q 17 (46, [some (.int v0), some (.int v1), some (.int (if (((v0 / (7:Int32)) + (v0 - v0 / (7:Int32) * (7:Int32))) &&& (1:Int32)) = (0:Int32) then (1:Int32) else (0:Int32))), some (.int (if v1 = (1:Int32) then (1:Int32) else (if v1 = (3:Int32) then (1:Int32) else (0:Int32))))], [.int (1:Int32)], hp, 0, 0))
        exact m3 _ (by rw [if_pos c4])
    refine stp hm 4 (bs (c := v1 = (1:Int32)) (fun c5 => ?_) (fun c5 => ?_))
    · have c5 : v1 = (1:Int32) := c5
      refine stp hm 2 (?_ : sxWP sc cl Q 17 (35, [some (.int v0), some (.int v1), some (.int (if (((v0 / (7:Int32)) + (v0 - v0 / (7:Int32) * (7:Int32))) &&& (1:Int32)) = (0:Int32) then (1:Int32) else (0:Int32))), none], [.int (1:Int32)], hp, 0, 0))
      exact m2 _ (by rw [if_pos c5])
    · have c5 : ¬ v1 = (1:Int32) := c5
      refine stp hm 3 (bsn (c := v1 = (3:Int32)) (fun c6 => ?_) (fun c6 => ?_))
      · have c6 : ¬ v1 = (3:Int32) := c6
        refine stp hm 1 (?_ : sxWP sc cl Q 17 (35, [some (.int v0), some (.int v1), some (.int (if (((v0 / (7:Int32)) + (v0 - v0 / (7:Int32) * (7:Int32))) &&& (1:Int32)) = (0:Int32) then (1:Int32) else (0:Int32))), none], [.int (0:Int32)], hp, 0, 0))
        exact m2 _ (by rw [if_neg c5, if_neg c6])
      · have c6 : v1 = (3:Int32) := c6
        refine stp hm 2 (?_ : sxWP sc cl Q 17 (35, [some (.int v0), some (.int v1), some (.int (if (((v0 / (7:Int32)) + (v0 - v0 / (7:Int32) * (7:Int32))) &&& (1:Int32)) = (0:Int32) then (1:Int32) else (0:Int32))), none], [.int (1:Int32)], hp, 0, 0))
        exact m2 _ (by rw [if_neg c5, if_pos c6])
  refine stp hm 4 (bsn (c := (((v0 / (7:Int32)) + (v0 - v0 / (7:Int32) * (7:Int32))) &&& (1:Int32)) = (0:Int32)) (fun c7 => ?_) (fun c7 => ?_))
  · have c7 : ¬ (((v0 / (7:Int32)) + (v0 - v0 / (7:Int32) * (7:Int32))) &&& (1:Int32)) = (0:Int32) := c7
    refine stp hm 1 (?_ : sxWP sc cl Q 17 (19, [some (.int v0), some (.int v1), none, none], [.int (0:Int32)], hp, 0, 0))
    exact m1 _ (by rw [if_neg c7])
  · have c7 : (((v0 / (7:Int32)) + (v0 - v0 / (7:Int32) * (7:Int32))) &&& (1:Int32)) = (0:Int32) := c7
    refine stp hm 2 (?_ : sxWP sc cl Q 17 (19, [some (.int v0), some (.int v1), none, none], [.int (1:Int32)], hp, 0, 0))
    exact m1 _ (by rw [if_pos c7])
end PT
