section TRY1
variable {sc : sxS} {d : Nat} {Q : sxR}
theorem x_isIn {hp : sxH} (x lo hi : Int32) (h : Q (some (.int (if lo ≤ x ∧ x ≤ hi then 1 else 0))) hp) : sxE sc (d + 1) 139 [.int x, .int lo, .int hi] hp Q := by
  refine ent rfl ?_
  refine stp 3 (And.intro (fun c1 => ?_) (fun c1 => ?_))
  · refine stp 2 (And.intro (Or.inl rfl) ?_)
    rw [if_neg (fun q => absurd q.1 (Int32.not_le.mpr c1))] at h
    exact h
  · refine stp 3 (And.intro (fun c2 => ?_) (fun c2 => ?_))
    · refine stp 2 (And.intro (Or.inl rfl) ?_)
      rw [if_neg (fun q => absurd q.2 (Int32.not_le.mpr c2))] at h
      exact h
    · refine stp 3 (And.intro (Or.inr rfl) ?_)
      rw [if_pos ⟨Int32.not_lt.mp c1, Int32.not_lt.mp c2⟩] at h
      exact h
def hasB (w : Int64) (c : Int32) : Bool := decide ((w >>> (c.toInt64 &&& 63)) &&& 1 = 1)
theorem x_has {nw kp : tSt} {im : Int32} {ol : tOl} {sn : tSn} {sr : tSc} {tp : Nat → tTp} {mk : tMk} {mg : tMg} {mt : tMt} {mc : tMc} {T : sxH} (c : Int32) (h : Q (some (.int (if hasB mk.1 c then 1 else 0))) (cW nw kp im ol sn sr tp (mW mk mg mt mc T))) : sxE sc (d + 1) 142 [.ref 59, .int c] (cW nw kp im ol sn sr tp (mW mk mg mt mc T)) Q := by
  refine ent rfl ?_
  refine stp 9 (And.intro (fun c1 => ?_) (fun c1 => ?_))
  · refine stp 2 (And.intro (Or.inl rfl) ?_)
    sorry
  · refine stp 3 (And.intro (Or.inr rfl) ?_)
    sorry
end TRY1
