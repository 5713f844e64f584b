/-! walks: the class -/
section PT
variable {sc : sxS} {d : Nat} {Q : sxR} {hp : sxH} {call : sxX} {nw kp : tSt} {im : Int32} {ol : tOl} {sn : tSn} {sr : tSc} {tp : Nat → tTp} {mk : tMk} {mg : tMg} {mt : tMt} {mc : tMc} {T : sxH}
/-- a step back -/
def bkN (a b : Nat) : Bool := decide (a + 2 = b ∨ b + 2 = a)
theorem bkI : ∀ a, a < 4 → ∀ b, b < 4 → ((nI a - nI b = 2 ∨ nI b - nI a = 2) ↔ bkN a b = true) := by decide +kernel
theorem bkX : ∀ a, a < 4 → ∀ b, b < 4 → ((nI a ^^^ nI b = 2) ↔ bkN a b = true) := by decide +kernel
/-- what is left of a walk's first i steps, the last one first -/
def shr (w : Nat → Nat) : Nat → List Nat
  | 0 => []
  | i + 1 => match shr w i with
    | [] => [w i]
    | a :: r => if bkN a (w i) then r else w i :: a :: r
/-- a list as it lies in an array, the last one first -/
def stk : List Nat → (Nat → Int32) → Prop
  | [], _ => True
  | a :: r, f => f r.length = nI a ∧ stk r f
theorem stk_upd {x : Int32} : ∀ {l : List Nat} {f : Nat → Int32} {n : Nat}, l.length ≤ n → stk l f → stk l (upd f n x)
  | [], _, _, _, _ => trivial
  | a :: r, f, n, h, q => by
    have h : r.length + 1 ≤ n := h
    refine ⟨?_, stk_upd (by omega) q.2⟩
    have e : ¬ r.length = n := by omega
    show (if r.length = n then x else f r.length) = nI a
    rw [if_neg e]
    exact q.1
theorem stk_push {a : Nat} {l : List Nat} {f : Nat → Int32} (h : stk l f) : stk (a :: l) (upd f l.length (nI a)) := by
  refine ⟨?_, stk_upd (Nat.le_refl _) h⟩
  show (if l.length = l.length then nI a else f l.length) = nI a
  rw [if_pos rfl]
theorem shr_len (w : Nat → Nat) : ∀ i, (shr w i).length ≤ i
  | 0 => Nat.le_refl _
  | i + 1 => by
    have := shr_len w i
    show (match shr w i with | [] => [w i] | a :: r => if bkN a (w i) then r else w i :: a :: r).length ≤ i + 1
    split
    · simp
    · rename_i a r e
      rw [e] at this
      have : r.length + 1 ≤ i := this
      split
      · omega
      · show r.length + 1 + 1 ≤ i + 1
        omega
theorem shr_lt {w : Nat → Nat} {n : Nat} (h : ∀ i, i < n → w i < 4) : ∀ i, i ≤ n → ∀ a, a ∈ shr w i → a < 4
  | 0, _, _, m => by cases m
  | i + 1, hi, a, m => by
    have ih := shr_lt h i (by omega)
    have hw := h i (by omega)
    have m : a ∈ (match shr w i with | [] => [w i] | a :: r => if bkN a (w i) then r else w i :: a :: r) := m
    split at m
    · rw [List.mem_singleton] at m
      omega
    · rename_i b r e
      rw [e] at ih
      split at m
      · exact ih a (List.mem_cons_of_mem _ m)
      · rcases List.mem_cons.mp m with q | q
        · omega
        · exact ih a q
theorem nI_m1 (n : Nat) : nI (n + 1) + (-1) = nI n := by
  rw [← nI_pred n]
  exact (Int32.sub_eq_add_neg _ _).symm
/-- how high a walk has come -/
def risN (s : Nat) (w : Nat → Nat) : Nat → Int
  | 0 => 0
  | i + 1 => risN s w i + hsN (pos s w i) (w i)
theorem nI_n0 {n : Nat} (h : n < 2 ^ 31) : ¬ nI n < 0 := fun q => by
  have := nI_le (Nat.zero_le n) h
  exact absurd q (Int32.not_lt.mpr this)
theorem nI_inj {a b : Nat} (ha : a < 2 ^ 31) (hb : b < 2 ^ 31) : nI a = nI b ↔ a = b := ⟨fun q => by
  have := congrArg Int32.toNatClampNeg q
  rwa [nI_clamp ha, nI_clamp hb] at this, fun q => by rw [q]⟩
/-- how a step goes round a cell -/
def mnN (v w : Nat) : Nat := min v (nxN v w).toNat
def wdN (v w c : Nat) : Int := if mnN v w / 7 = c / 6 ∧ c % 6 < mnN v w % 7 then (if w = 1 then 1 else if w = 3 then -1 else 0) else 0
def wndN (s : Nat) (w : Nat → Nat) (c : Nat) : Nat → Int
  | 0 => 0
  | i + 1 => wndN s w c i + wdN (pos s w i) (w i) c
theorem iZ_p1 (z : Int) : iZ z + 1 = iZ (z + 1) := iZ_add z 1
theorem iZ_m1 (z : Int) : iZ z + (-1) = iZ (z + -1) := by
  rw [show (-1 : Int32) = iZ (-1) by decide, iZ_add]
theorem mnN_lt : ∀ v, v < 49 → ∀ w, w < 4 → mnN v w < 49 := by decide +kernel
theorem pk_div7 {a : Nat} (h : a < 2 ^ 31) : nI a / 7 = nI (a / 7) := pk_div (d := 7) h (by decide) (by decide)
theorem pk_div6 {a : Nat} (h : a < 2 ^ 31) : nI a / 6 = nI (a / 6) := pk_div (d := 6) h (by decide) (by decide)
theorem pk_rem7 {a : Nat} (h : a < 2 ^ 31) : nI a - nI a / 7 * 7 = nI (a % 7) := pk_rem (d := 7) h (by decide) (by decide)
theorem pk_rem6 {a : Nat} (h : a < 2 ^ 31) : nI a - nI a / 6 * 6 = nI (a % 6) := pk_rem (d := 6) h (by decide) (by decide)
theorem shr_e {w : Nat → Nat} {k : Nat} (h : shr w k = []) : shr w (k + 1) = [w k] := by simp [shr, h]
theorem shr_b {w : Nat → Nat} {k a : Nat} {r : List Nat} (h : shr w k = a :: r) (q : bkN a (w k) = true) : shr w (k + 1) = r := by simp [shr, h, q]
theorem shr_n {w : Nat → Nat} {k a : Nat} {r : List Nat} (h : shr w k = a :: r) (q : bkN a (w k) = false) : shr w (k + 1) = w k :: a :: r := by simp [shr, h, q]
theorem hsN_b : ∀ v, v < 49 → ∀ w, w < 4 → -1 ≤ hsN v w ∧ hsN v w ≤ 1 := by decide +kernel

set_option maxRecDepth 10000 in
theorem x_restart {rg : Int64} {ld : Int32} {mts : tA} {pw pr : tA} {se ev pg : tRo} {s n : Nat} {w : Nat → Nat} {x : Int32} (hc : call = sxE sc (d + 1)) (h : Q none (cW (rg, ld, mts, (x, 0, pw, pr), se, ev, pg) kp im ol sn sr tp (mW mk mg mt mc T))) : call 36 [.ref 3, .int x] (cW (rg, ld, mts, ((nI s), (nI n), pw, pr), se, ev, pg) kp im ol sn sr tp (mW mk mg mt mc T)) Q := by
  refine ent hc rfl (fun cl hE hm => ?_)
  refine stp hm 7 ?_
  show Q none (cW (rg, ld, mts, (x, 0, pw, pr), se, ev, pg) kp im ol sn sr tp (mW mk mg mt mc T))
  exact h
set_option maxRecDepth 10000 in
theorem x_append {rg : Int64} {ld : Int32} {mts : tA} {pw pr : tA} {se ev pg : tRo} {s n : Nat} {w : Nat → Nat} {x : Int32} (hc : call = sxE sc (d + 1)) (hn40 : n ≤ 40) (h1 : n < 40 → Q (some (.int 1)) (cW (rg, ld, mts, ((nI s), (nI (n + 1)), (upd pw n x), pr), se, ev, pg) kp im ol sn sr tp (mW mk mg mt mc T))) (h0 : n = 40 → Q (some (.int 0)) (cW (rg, ld, mts, ((nI s), (nI n), pw, pr), se, ev, pg) kp im ol sn sr tp (mW mk mg mt mc T))) : call 37 [.ref 3, .int x] (cW (rg, ld, mts, ((nI s), (nI n), pw, pr), se, ev, pg) kp im ol sn sr tp (mW mk mg mt mc T)) Q := by
  refine ent hc rfl (fun cl hE hm => ?_)
  by_cases hn : n < 40
  · refine stp hm 3 (bF (nI_n0 (by omega)) ?_)
    refine stp hm 4 (bT (nI_lt hn (by decide)) ?_)
    refine stp hm 6 (And.intro (inN hn (by decide)) (?_ : sxWP sc cl Q 37 (28, [some (.ref 3), some (.int x)], [], (cW (rg, ld, mts, ((nI s), (nI n), (upd pw (nI n).toNatClampNeg x), pr), se, ev, pg) kp im ol sn sr tp (mW mk mg mt mc T)), 0, 0)))
    refine stp hm 8 (And.intro (Or.inr rfl) ?_)
    show Q (some (.int 1)) (cW (rg, ld, mts, ((nI s), (nI n) + 1, (upd pw (nI n).toNatClampNeg x), pr), se, ev, pg) kp im ol sn sr tp (mW mk mg mt mc T))
    rw [nI_clamp (by omega), nI_1]
    exact h1 hn
  · refine stp hm 3 (bF (nI_n0 (by omega)) ?_)
    refine stp hm 4 (bF (nI_nlt (b := 40) (by omega) (by omega)) ?_)
    refine stp hm 2 (And.intro (Or.inl rfl) ?_)
    show Q (some (.int 0)) (cW (rg, ld, mts, ((nI s), (nI n), pw, pr), se, ev, pg) kp im ol sn sr tp (mW mk mg mt mc T))
    exact h0 (by omega)
set_option maxRecDepth 10000 in
theorem x_isClosed {rg : Int64} {ld : Int32} {mts : tA} {pw pr : tA} {se ev pg : tRo} {s n : Nat} {w : Nat → Nat} (hc : call = sxE sc (d + 4)) (hW : wOK s n w) (hpw : ∀ i, i < n → pw i = nI (w i)) (h1 : pos s w n = s → Q (some (.int 1)) (cW (rg, ld, mts, ((nI s), (nI n), pw, pr), se, ev, pg) kp im ol sn sr tp (mW mk mg mt mc T))) (h0 : ¬ pos s w n = s → Q (some (.int 0)) (cW (rg, ld, mts, ((nI s), (nI n), pw, pr), se, ev, pg) kp im ol sn sr tp (mW mk mg mt mc T))) : call 40 [.ref 3] (cW (rg, ld, mts, ((nI s), (nI n), pw, pr), se, ev, pg) kp im ol sn sr tp (mW mk mg mt mc T)) Q := by
  refine ent hc rfl (fun cl hE hm => ?_)
  have hp49 := pos_lt hW n (Nat.le_refl _)
  have hs49 := hW.1
  refine stp hm 2 (x_end hE hW hpw ?_)
  show sxWP sc cl Q 40 (4, [some (.ref 3)], [.int (nI (pos s w n))], (cW (rg, ld, mts, ((nI s), (nI n), pw, pr), se, ev, pg) kp im ol sn sr tp (mW mk mg mt mc T)), 0, 0)
  refine stp hm 3 (And.intro (fun c2 => ?_) (fun c2 => ?_))
  · have c2 : ¬ (nI (pos s w n)) = (nI s) := c2
    refine stp hm 2 (And.intro (Or.inl rfl) ?_)
    show Q (some (.int 0)) (cW (rg, ld, mts, ((nI s), (nI n), pw, pr), se, ev, pg) kp im ol sn sr tp (mW mk mg mt mc T))
    exact h0 (fun q => c2 (by rw [q]))
  · have c2 : (nI (pos s w n)) = (nI s) := c2
    refine stp hm 3 (And.intro (Or.inr rfl) ?_)
    show Q (some (.int 1)) (cW (rg, ld, mts, ((nI s), (nI n), pw, pr), se, ev, pg) kp im ol sn sr tp (mW mk mg mt mc T))
    exact h1 ((nI_inj (by omega) (by omega)).mp c2)
set_option maxRecDepth 10000 in
theorem x_isBack {a b : Nat} (hc : call = sxE sc (d + 1)) (ha : a < 4) (hb : b < 4) (h1 : bkN a b = true → Q (some (.int 1)) hp) (h0 : bkN a b = false → Q (some (.int 0)) hp) : call 42 [.int (nI a), .int (nI b)] hp Q := by
  refine ent hc rfl (fun cl hE hm => ?_)
  refine stp hm 5 (And.intro (fun c1 => ?_) (fun c1 => ?_))
  · have c1 : ((nI a) - (nI b)) = 2 := c1
    refine stp hm 3 (And.intro (Or.inr rfl) ?_)
    show Q (some (.int 1)) hp
    exact h1 ((bkI a ha b hb).mp (Or.inl c1))
  · have c1 : ¬ ((nI a) - (nI b)) = 2 := c1
    refine stp hm 5 (And.intro (fun c2 => ?_) (fun c2 => ?_))
    · have c2 : ¬ ((nI b) - (nI a)) = 2 := c2
      refine stp hm 2 (And.intro (Or.inl rfl) ?_)
      show Q (some (.int 0)) hp
      exact h0 (by
            cases q : bkN a b with
            | false => rfl
            | true => exact absurd ((bkI a ha b hb).mpr q) (fun o => o.elim c1 c2))
    · have c2 : ((nI b) - (nI a)) = 2 := c2
      refine stp hm 3 (And.intro (Or.inr rfl) ?_)
      show Q (some (.int 1)) hp
      exact h1 ((bkI a ha b hb).mp (Or.inr c2))
set_option maxRecDepth 10000 in
theorem x_pathRise {rg : Int64} {ld : Int32} {mts : tA} {pw pr : tA} {se ev pg : tRo} {s n : Nat} {w : Nat → Nat} (hc : call = sxE sc (d + 3)) (hW : wOK s n w) (hpw : ∀ i, i < n → pw i = nI (w i)) (h : Q (some (.int (iZ (risN s w n)))) (cW (rg, ld, mts, ((nI s), (nI n), pw, pr), se, ev, pg) kp im ol sn sr tp (mW mk mg mt mc T))) : call 43 [.ref 3] (cW (rg, ld, mts, ((nI s), (nI n), pw, pr), se, ev, pg) kp im ol sn sr tp (mW mk mg mt mc T)) Q := by
  refine ent hc rfl (fun cl hE hm => ?_)
  have hn40 := hW.2.1
  have loop : ∀ q k, k + q = n → sxWP sc cl Q 43 (9, [some (.ref 3), some (.int (iZ (risN s w k))), some (.int (nI (pos s w k))), some (.int (nI k))], [], (cW (rg, ld, mts, ((nI s), (nI n), pw, pr), se, ev, pg) kp im ol sn sr tp (mW mk mg mt mc T)), 0, 0) := by
    intro q
    induction q with
    | zero =>
      intro k hk
      have hk : n = k := by omega
      rw [← hk]
      clear hk
      refine stp hm 4 (bT (geT (Nat.le_refl _) (by omega)) ?_)
      refine stp hm 2 ?_
      show Q (some (.int (iZ (risN s w n)))) (cW (rg, ld, mts, ((nI s), (nI n), pw, pr), se, ev, pg) kp im ol sn sr tp (mW mk mg mt mc T))
      exact h
    | succ q ih =>
      intro k hk
      refine stp hm 4 (bF (geF (by omega) (by omega)) ?_)
      refine stp hm 3 (bF (geF (n := 40) (by omega) (by decide)) ?_)
      refine stp hm 6 (And.intro (inN (by omega) (by decide)) (?_ : sxWP sc cl Q 43 (31, [some (.ref 3), some (.int (iZ (risN s w k))), some (.int (nI (pos s w k))), some (.int (nI k))], [.int (pw (nI k).toNatClampNeg), .int (nI (pos s w k)), .int (iZ (risN s w k))], (cW (rg, ld, mts, ((nI s), (nI n), pw, pr), se, ev, pg) kp im ol sn sr tp (mW mk mg mt mc T)), 0, 0)))
      rw [show pw (nI k).toNatClampNeg = nI (w k) from by rw [nI_clamp (by omega)]; exact hpw k (by omega)]
      refine stp hm 1 (x_rise hE (pos_lt hW k (by omega)) (hW.2.2 k (by omega)).1 ?_)
      show sxWP sc cl Q 43 (34, [some (.ref 3), some (.int (iZ (risN s w k))), some (.int (nI (pos s w k))), some (.int (nI k))], [.int (iZ (hsN (pos s w k) (w k))), .int (iZ (risN s w k))], (cW (rg, ld, mts, ((nI s), (nI n), pw, pr), se, ev, pg) kp im ol sn sr tp (mW mk mg mt mc T)), 0, 0)
      refine stp hm 7 (And.intro (inN (by omega) (by decide)) (?_ : sxWP sc cl Q 43 (43, [some (.ref 3), some (.int ((iZ (risN s w k)) + (iZ (hsN (pos s w k) (w k))))), some (.int (nI (pos s w k))), some (.int (nI k))], [.int (pw (nI k).toNatClampNeg), .int (nI (pos s w k))], (cW (rg, ld, mts, ((nI s), (nI n), pw, pr), se, ev, pg) kp im ol sn sr tp (mW mk mg mt mc T)), 0, 0)))
      rw [show pw (nI k).toNatClampNeg = nI (w k) from by rw [nI_clamp (by omega)]; exact hpw k (by omega)]
      refine stp hm 1 (x_next hE (pos_lt hW k (by omega)) (hW.2.2 k (by omega)).1 ?_)
      show sxWP sc cl Q 43 (46, [some (.ref 3), some (.int ((iZ (risN s w k)) + (iZ (hsN (pos s w k) (w k))))), some (.int (nI (pos s w k))), some (.int (nI k))], [.int (iZ (nxN (pos s w k) (w k)))], (cW (rg, ld, mts, ((nI s), (nI n), pw, pr), se, ev, pg) kp im ol sn sr tp (mW mk mg mt mc T)), 0, 0)
      refine stp hm 3 (?_ : sxWP sc cl Q 43 (9, [some (.ref 3), some (.int ((iZ (risN s w k)) + (iZ (hsN (pos s w k) (w k))))), some (.int (iZ (nxN (pos s w k) (w k)))), some (.int ((nI k) + 1))], [], (cW (rg, ld, mts, ((nI s), (nI n), pw, pr), se, ev, pg) kp im ol sn sr tp (mW mk mg mt mc T)), 0, 0))
      rw [pos_s hW (by omega), nI_1, iZ_add]
      exact ih (k + 1) (by omega)
  refine stp hm 7 (?_ : sxWP sc cl Q 43 (9, [some (.ref 3), some (.int 0), some (.int (nI s)), some (.int 0)], [], (cW (rg, ld, mts, ((nI s), (nI n), pw, pr), se, ev, pg) kp im ol sn sr tp (mW mk mg mt mc T)), 0, 0))
  exact loop n 0 (by omega)
set_option maxRecDepth 10000 in
theorem x_shortened {rg : Int64} {ld : Int32} {mts : tA} {pw pr : tA} {se ev pg : tRo} {s n : Nat} {w : Nat → Nat} (hc : call = sxE sc (d + 2)) (hW : wOK s n w) (hpw : ∀ i, i < n → pw i = nI (w i)) (h : ∀ f, Q (some (.int (nI (shr w n).length))) (cW (rg, ld, mts, ((nI s), (nI n), pw, f), se, ev, pg) kp im ol sn sr tp (mW mk mg mt mc T))) : call 41 [.ref 3] (cW (rg, ld, mts, ((nI s), (nI n), pw, pr), se, ev, pg) kp im ol sn sr tp (mW mk mg mt mc T)) Q := by
  refine ent hc rfl (fun cl hE hm => ?_)
  have hn40 := hW.2.1
  have loop : ∀ q k, k + q = n → ∀ m f, (shr w k).length = m → stk (shr w k) f → sxWP sc cl Q 41 (4, [some (.ref 3), some (.int (nI m)), some (.int (nI k))], [], (cW (rg, ld, mts, ((nI s), (nI n), pw, f), se, ev, pg) kp im ol sn sr tp (mW mk mg mt mc T)), 0, 0) := by
    intro q
    induction q with
    | zero =>
      intro k hk m f hm0 hf
      have hk : n = k := by omega
      subst hk
      refine stp hm 4 (bT (geT (Nat.le_refl _) (by omega)) ?_)
      refine stp hm 2 ?_
      show Q (some (.int (nI m))) (cW (rg, ld, mts, ((nI s), (nI n), pw, f), se, ev, pg) kp im ol sn sr tp (mW mk mg mt mc T))
      rw [← hm0]
      exact h f
    | succ q ih =>
      intro k hk m f hm0 hf
      have hl := shr_len w k
      have hlt := shr_lt (fun i hi => (hW.2.2 i hi).1) k (by omega)
      subst hm0
      cases e : shr w k with
      | nil =>
        rw [e] at hf
        refine stp hm 4 (bF (geF (by omega) (by omega)) ?_)
        refine stp hm 3 (bF (geF (n := 40) (by omega) (by decide)) ?_)
        refine stp hm 2 (bT (by decide) ?_)
        refine stp hm 7 (And.intro (inN (by omega) (by decide)) (?_ : sxWP sc cl Q 41 (59, [some (.ref 3), some (.int 0), some (.int (nI k))], [.int (pw (nI k).toNatClampNeg), .int 0, .ref 5], (cW (rg, ld, mts, ((nI s), (nI n), pw, f), se, ev, pg) kp im ol sn sr tp (mW mk mg mt mc T)), 0, 0)))
        rw [show pw (nI k).toNatClampNeg = nI (w k) from by rw [nI_clamp (by omega)]; exact hpw k (by omega)]
        refine stp hm 1 (And.intro (inN (k := 0) (by decide) (by decide)) (?_ : sxWP sc cl Q 41 (60, [some (.ref 3), some (.int 0), some (.int (nI k))], [], (cW (rg, ld, mts, ((nI s), (nI n), pw, (upd f (0 : Int32).toNatClampNeg (nI (w k)))), se, ev, pg) kp im ol sn sr tp (mW mk mg mt mc T)), 0, 0)))
        refine stp hm 3 (?_ : sxWP sc cl Q 41 (4, [some (.ref 3), some (.int (0 + 1)), some (.int ((nI k) + 1))], [], (cW (rg, ld, mts, ((nI s), (nI n), pw, (upd f (0 : Int32).toNatClampNeg (nI (w k)))), se, ev, pg) kp im ol sn sr tp (mW mk mg mt mc T)), 0, 0))
        rw [nI_1]
        refine ih (k + 1) (by omega) 1 _ (by rw [shr_e e]; rfl) ?_
        rw [shr_e e]
        exact ⟨rfl, trivial⟩
      | cons a r =>
        rw [e] at hf hl hlt
        have ha := hlt a (List.mem_cons_self)
        have hl : r.length + 1 ≤ k := hl
        show sxWP sc cl Q 41 (4, [some (.ref 3), some (.int (nI (r.length + 1))), some (.int (nI k))], [], (cW (rg, ld, mts, ((nI s), (nI n), pw, f), se, ev, pg) kp im ol sn sr tp (mW mk mg mt mc T)), 0, 0)
        refine stp hm 4 (bF (geF (by omega) (by omega)) ?_)
        refine stp hm 3 (bF (geF (n := 40) (by omega) (by decide)) ?_)
        refine stp hm 2 (bF (nI_nle (by omega) (by omega)) ?_)
        refine stp hm 6 (And.intro (by rw [nI_pred]; exact inN (by omega) (by decide)) (?_ : sxWP sc cl Q 41 (30, [some (.ref 3), some (.int (nI (r.length + 1))), some (.int (nI k))], [.int (f ((nI (r.length + 1)) - 1).toNatClampNeg)], (cW (rg, ld, mts, ((nI s), (nI n), pw, f), se, ev, pg) kp im ol sn sr tp (mW mk mg mt mc T)), 0, 0)))
        rw [show f ((nI (r.length + 1)) - 1).toNatClampNeg = nI a from by rw [nI_pred, nI_clamp (by omega)]; exact hf.1]
        refine stp hm 4 (And.intro (inN (by omega) (by decide)) (?_ : sxWP sc cl Q 41 (36, [some (.ref 3), some (.int (nI (r.length + 1))), some (.int (nI k))], [.int (pw (nI k).toNatClampNeg), .int (nI a)], (cW (rg, ld, mts, ((nI s), (nI n), pw, f), se, ev, pg) kp im ol sn sr tp (mW mk mg mt mc T)), 0, 0)))
        rw [show pw (nI k).toNatClampNeg = nI (w k) from by rw [nI_clamp (by omega)]; exact hpw k (by omega)]
        refine stp hm 1 (x_isBack hE ha (hW.2.2 k (by omega)).1 (fun c1 => ?_) (fun c1 => ?_))
        · show sxWP sc cl Q 41 (39, [some (.ref 3), some (.int (nI (r.length + 1))), some (.int (nI k))], [.int 1], (cW (rg, ld, mts, ((nI s), (nI n), pw, f), se, ev, pg) kp im ol sn sr tp (mW mk mg mt mc T)), 0, 0)
          refine stp hm 1 (bF (by decide) ?_)
          refine stp hm 4 (?_ : sxWP sc cl Q 41 (4, [some (.ref 3), some (.int ((nI (r.length + 1)) + (-1))), some (.int ((nI k) + 1))], [], (cW (rg, ld, mts, ((nI s), (nI n), pw, f), se, ev, pg) kp im ol sn sr tp (mW mk mg mt mc T)), 0, 0))
          rw [nI_1, nI_m1]
          refine ih (k + 1) (by omega) r.length _ (by rw [shr_b e c1]) ?_
          rw [shr_b e c1]
          exact hf.2
        · show sxWP sc cl Q 41 (39, [some (.ref 3), some (.int (nI (r.length + 1))), some (.int (nI k))], [.int 0], (cW (rg, ld, mts, ((nI s), (nI n), pw, f), se, ev, pg) kp im ol sn sr tp (mW mk mg mt mc T)), 0, 0)
          refine stp hm 1 (bT (by decide) ?_)
          refine stp hm 7 (And.intro (inN (by omega) (by decide)) (?_ : sxWP sc cl Q 41 (59, [some (.ref 3), some (.int (nI (r.length + 1))), some (.int (nI k))], [.int (pw (nI k).toNatClampNeg), .int (nI (r.length + 1)), .ref 5], (cW (rg, ld, mts, ((nI s), (nI n), pw, f), se, ev, pg) kp im ol sn sr tp (mW mk mg mt mc T)), 0, 0)))
          rw [show pw (nI k).toNatClampNeg = nI (w k) from by rw [nI_clamp (by omega)]; exact hpw k (by omega)]
          refine stp hm 1 (And.intro (inN (by omega) (by decide)) (?_ : sxWP sc cl Q 41 (60, [some (.ref 3), some (.int (nI (r.length + 1))), some (.int (nI k))], [], (cW (rg, ld, mts, ((nI s), (nI n), pw, (upd f (nI (r.length + 1)).toNatClampNeg (nI (w k)))), se, ev, pg) kp im ol sn sr tp (mW mk mg mt mc T)), 0, 0)))
          refine stp hm 3 (?_ : sxWP sc cl Q 41 (4, [some (.ref 3), some (.int ((nI (r.length + 1)) + 1)), some (.int ((nI k) + 1))], [], (cW (rg, ld, mts, ((nI s), (nI n), pw, (upd f (nI (r.length + 1)).toNatClampNeg (nI (w k)))), se, ev, pg) kp im ol sn sr tp (mW mk mg mt mc T)), 0, 0))
          rw [nI_1, nI_1]
          refine ih (k + 1) (by omega) (r.length + 1 + 1) _ (by rw [shr_n e c1]; rfl) ?_
          rw [shr_n e c1, nI_clamp (by omega)]
          exact stk_push (l := a :: r) hf
  refine stp hm 4 (?_ : sxWP sc cl Q 41 (4, [some (.ref 3), some (.int 0), some (.int 0)], [], (cW (rg, ld, mts, ((nI s), (nI n), pw, pr), se, ev, pg) kp im ol sn sr tp (mW mk mg mt mc T)), 0, 0))
  exact loop n 0 (by omega) 0 pr rfl trivial
set_option maxRecDepth 10000 in
theorem x_min {a b : Nat} (hc : call = sxE sc (d + 1)) (ha : a < 2 ^ 31) (hb : b < 2 ^ 31) (h : Q (some (.int (nI (min a b)))) hp) : call 249 [.int (nI a), .int (nI b)] hp Q := by
  refine ent hc rfl (fun cl hE hm => ?_)
  refine stp hm 3 (And.intro (fun c1 => ?_) (fun c1 => ?_))
  · have c1 : (nI b) < (nI a) := c1
    refine stp hm 2 ?_
    show Q (some (.int (nI b))) hp
    have c1 := (nI_ltI hb ha).mp c1
    exact qe h (by congr 1; omega)
  · have c1 : ¬ (nI b) < (nI a) := c1
    refine stp hm 3 ?_
    show Q (some (.int (nI a))) hp
    have c1 : ¬ b < a := fun q => c1 ((nI_ltI hb ha).mpr q)
    exact qe h (by congr 1; omega)
set_option maxRecDepth 4000 in
theorem x_nextP {s n k : Nat} {w : Nat → Nat} (hc : call = sxE sc (d + 2)) (hW : wOK s n w) (hk : k < n) (h : Q (some (.int (nI (pos s w (k + 1))))) hp) : call 13 [.int (nI (pos s w k)), .int (nI (w k))] hp Q := by
  refine x_next hc (pos_lt hW k (by omega)) (hW.2.2 k hk).1 ?_
  rw [pos_s hW hk]
  exact h
theorem m_onByP {s n k : Nat} {w : Nat → Nat} (hc : call = sxE sc (d + 2)) (hW : wOK s n w) (hk : k < n) (h : Q (some (.int (nI (pos s w (k + 1))))) hp) : call 157 [.int (nI (pos s w k)), .int (nI (w k))] hp Q := by
  refine m_onBy hc (pos_lt hW k (by omega)) (hW.2.2 k hk).1 ?_
  rw [pos_s hW hk]
  exact h
set_option maxRecDepth 10000 in
theorem x_turnsRound {rg : Int64} {ld : Int32} {mts : tA} {pw pr : tA} {se ev pg : tRo} {s n : Nat} {w : Nat → Nat} {c : Nat} (hc : call = sxE sc (d + 3)) (hW : wOK s n w) (hpw : ∀ i, i < n → pw i = nI (w i)) (hc36 : c < 36) (h : Q (some (.int (iZ (wndN s w c n)))) (cW (rg, ld, mts, ((nI s), (nI n), pw, pr), se, ev, pg) kp im ol sn sr tp (mW mk mg mt mc T))) : call 44 [.ref 3, .int (nI c)] (cW (rg, ld, mts, ((nI s), (nI n), pw, pr), se, ev, pg) kp im ol sn sr tp (mW mk mg mt mc T)) Q := by
  refine ent hc rfl (fun cl hE hm => ?_)
  have hn40 := hW.2.1
  have loop : ∀ q k, k + q = n → ∀ o5 o6 o7 : Option Value, sxWP sc cl Q 44 (10, [some (.ref 3), some (.int (nI c)), some (.int (iZ (wndN s w c k))), some (.int (nI (pos s w k))), some (.int (nI k)), o5, o6, o7], [], (cW (rg, ld, mts, ((nI s), (nI n), pw, pr), se, ev, pg) kp im ol sn sr tp (mW mk mg mt mc T)), 0, 0) := by
    intro q
    induction q with
    | zero =>
      intro k hk o5 o6 o7
      have hk : n = k := by omega
      rw [← hk]
      clear hk
      refine stp hm 4 (bT (geT (Nat.le_refl _) (by omega)) ?_)
      refine stp hm 2 ?_
      show Q (some (.int (iZ (wndN s w c n)))) (cW (rg, ld, mts, ((nI s), (nI n), pw, pr), se, ev, pg) kp im ol sn sr tp (mW mk mg mt mc T))
      exact h
    | succ q ih =>
      intro k hk o5 o6 o7
      have hv := pos_lt hW k (by omega)
      have hv1 := pos_lt hW (k + 1) (by omega)
      have hw4 := (hW.2.2 k (by omega)).1
      have hmn := mnN_lt _ hv _ hw4
      refine stp hm 4 (bF (geF (by omega) (by omega)) ?_)
      refine stp hm 3 (bF (geF (n := 40) (by omega) (by decide)) ?_)
      refine stp hm 5 (And.intro (inN (by omega) (by decide)) (?_ : sxWP sc cl Q 44 (34, [some (.ref 3), some (.int (nI c)), some (.int (iZ (wndN s w c k))), some (.int (nI (pos s w k))), some (.int (nI k)), o5, o6, o7], [.int (pw (nI k).toNatClampNeg), .int (nI (pos s w k))], (cW (rg, ld, mts, ((nI s), (nI n), pw, pr), se, ev, pg) kp im ol sn sr tp (mW mk mg mt mc T)), 0, 0)))
      rw [show pw (nI k).toNatClampNeg = nI (w k) from by rw [nI_clamp (by omega)]; exact hpw k (by omega)]
      refine stp hm 1 (x_nextP hE hW (by omega) ?_)
      show sxWP sc cl Q 44 (37, [some (.ref 3), some (.int (nI c)), some (.int (iZ (wndN s w c k))), some (.int (nI (pos s w k))), some (.int (nI k)), o5, o6, o7], [.int (nI (pos s w (k + 1)))], (cW (rg, ld, mts, ((nI s), (nI n), pw, pr), se, ev, pg) kp im ol sn sr tp (mW mk mg mt mc T)), 0, 0)
      refine stp hm 4 (x_min hE (by omega) (by omega) ?_)
      show sxWP sc cl Q 44 (45, [some (.ref 3), some (.int (nI c)), some (.int (iZ (wndN s w c k))), some (.int (nI (pos s w k))), some (.int (nI k)), some (.int (nI (pos s w (k + 1)))), o6, o7], [.int (nI (mnN (pos s w k) (w k)))], (cW (rg, ld, mts, ((nI s), (nI n), pw, pr), se, ev, pg) kp im ol sn sr tp (mW mk mg mt mc T)), 0, 0)
      refine stp hm 4 (And.intro (by decide) (?_ : sxWP sc cl Q 44 (52, [some (.ref 3), some (.int (nI c)), some (.int (iZ (wndN s w c k))), some (.int (nI (pos s w k))), some (.int (nI k)), some (.int (nI (pos s w (k + 1)))), some (.int (nI (mnN (pos s w k) (w k)))), o7], [.int ((nI (mnN (pos s w k) (w k))) / 7)], (cW (rg, ld, mts, ((nI s), (nI n), pw, pr), se, ev, pg) kp im ol sn sr tp (mW mk mg mt mc T)), 0, 0)))
      rw [show (nI (mnN (pos s w k) (w k))) / 7 = nI ((mnN (pos s w k) (w k)) / 7) from pk_div7 (by omega)]
      refine stp hm 3 (And.intro (by decide) (?_ : sxWP sc cl Q 44 (56, [some (.ref 3), some (.int (nI c)), some (.int (iZ (wndN s w c k))), some (.int (nI (pos s w k))), some (.int (nI k)), some (.int (nI (pos s w (k + 1)))), some (.int (nI (mnN (pos s w k) (w k)))), o7], [.int ((nI c) / 6), .int (nI ((mnN (pos s w k) (w k)) / 7))], (cW (rg, ld, mts, ((nI s), (nI n), pw, pr), se, ev, pg) kp im ol sn sr tp (mW mk mg mt mc T)), 0, 0)))
      rw [show (nI c) / 6 = nI (c / 6) from pk_div6 (by omega)]
      refine stp hm 1 (And.intro (fun c3 => ?_) (fun c3 => ?_))
      · have c3 : ¬ (nI ((mnN (pos s w k) (w k)) / 7)) = (nI (c / 6)) := c3
        refine stp hm 4 (bT (by decide) ?_)
        refine stp hm 2 (bT (by decide) ?_)
        refine stp hm 4 (?_ : sxWP sc cl Q 44 (10, [some (.ref 3), some (.int (nI c)), some (.int (iZ (wndN s w c k))), some (.int (nI (pos s w (k + 1)))), some (.int ((nI k) + 1)), some (.int (nI (pos s w (k + 1)))), some (.int (nI (mnN (pos s w k) (w k)))), some (.int 0)], [], (cW (rg, ld, mts, ((nI s), (nI n), pw, pr), se, ev, pg) kp im ol sn sr tp (mW mk mg mt mc T)), 0, 0))
        have c3 : ¬ ((mnN (pos s w k) (w k)) / 7) = (c / 6) := fun q => c3 ((nI_eq (a := ((mnN (pos s w k) (w k)) / 7)) (b := (c / 6)) (by omega) (by omega)).mpr q)
        have ew : wdN (pos s w k) (w k) c = 0 := by
          unfold wdN
          repeat (first | rw [if_pos (by omega)] | rw [if_neg (by omega)])
        rw [nI_1]
        have e2 : wndN s w c (k + 1) = wndN s w c k + 0 := by rw [← ew]; rfl
        rw [Int.add_zero] at e2
        rw [← e2]
        exact ih (k + 1) (by omega) _ _ _
      · have c3 : (nI ((mnN (pos s w k) (w k)) / 7)) = (nI (c / 6)) := c3
        refine stp hm 3 (And.intro (by decide) (?_ : sxWP sc cl Q 44 (64, [some (.ref 3), some (.int (nI c)), some (.int (iZ (wndN s w c k))), some (.int (nI (pos s w k))), some (.int (nI k)), some (.int (nI (pos s w (k + 1)))), some (.int (nI (mnN (pos s w k) (w k)))), o7], [.int ((nI (mnN (pos s w k) (w k))) - (nI (mnN (pos s w k) (w k))) / 7 * 7)], (cW (rg, ld, mts, ((nI s), (nI n), pw, pr), se, ev, pg) kp im ol sn sr tp (mW mk mg mt mc T)), 0, 0)))
        rw [show (nI (mnN (pos s w k) (w k))) - (nI (mnN (pos s w k) (w k))) / 7 * 7 = nI ((mnN (pos s w k) (w k)) % 7) from pk_rem7 (by omega)]
        refine stp hm 3 (And.intro (by decide) (?_ : sxWP sc cl Q 44 (68, [some (.ref 3), some (.int (nI c)), some (.int (iZ (wndN s w c k))), some (.int (nI (pos s w k))), some (.int (nI k)), some (.int (nI (pos s w (k + 1)))), some (.int (nI (mnN (pos s w k) (w k)))), o7], [.int ((nI c) - (nI c) / 6 * 6), .int (nI ((mnN (pos s w k) (w k)) % 7))], (cW (rg, ld, mts, ((nI s), (nI n), pw, pr), se, ev, pg) kp im ol sn sr tp (mW mk mg mt mc T)), 0, 0)))
        rw [show (nI c) - (nI c) / 6 * 6 = nI (c % 6) from pk_rem6 (by omega)]
        refine stp hm 1 (And.intro (fun c4 => ?_) (fun c4 => ?_))
        · have c4 : (nI ((mnN (pos s w k) (w k)) % 7)) ≤ (nI (c % 6)) := c4
          refine stp hm 4 (bT (by decide) ?_)
          refine stp hm 2 (bT (by decide) ?_)
          refine stp hm 4 (?_ : sxWP sc cl Q 44 (10, [some (.ref 3), some (.int (nI c)), some (.int (iZ (wndN s w c k))), some (.int (nI (pos s w (k + 1)))), some (.int ((nI k) + 1)), some (.int (nI (pos s w (k + 1)))), some (.int (nI (mnN (pos s w k) (w k)))), some (.int 0)], [], (cW (rg, ld, mts, ((nI s), (nI n), pw, pr), se, ev, pg) kp im ol sn sr tp (mW mk mg mt mc T)), 0, 0))
          have c3 : ((mnN (pos s w k) (w k)) / 7) = (c / 6) := (nI_eq (a := ((mnN (pos s w k) (w k)) / 7)) (b := (c / 6)) (by omega) (by omega)).mp c3
          have c4 : ((mnN (pos s w k) (w k)) % 7) ≤ (c % 6) := (nI_leI (a := ((mnN (pos s w k) (w k)) % 7)) (b := (c % 6)) (by omega) (by omega)).mp c4
          have ew : wdN (pos s w k) (w k) c = 0 := by
            unfold wdN
            repeat (first | rw [if_pos (by omega)] | rw [if_neg (by omega)])
          rw [nI_1]
          have e2 : wndN s w c (k + 1) = wndN s w c k + 0 := by rw [← ew]; rfl
          rw [Int.add_zero] at e2
          rw [← e2]
          exact ih (k + 1) (by omega) _ _ _
        · have c4 : ¬ (nI ((mnN (pos s w k) (w k)) % 7)) ≤ (nI (c % 6)) := c4
          refine stp hm 5 (bF (by decide) ?_)
          refine stp hm 4 (And.intro (inN (by omega) (by decide)) (?_ : sxWP sc cl Q 44 (90, [some (.ref 3), some (.int (nI c)), some (.int (iZ (wndN s w c k))), some (.int (nI (pos s w k))), some (.int (nI k)), some (.int (nI (pos s w (k + 1)))), some (.int (nI (mnN (pos s w k) (w k)))), some (.int 1)], [.int (pw (nI k).toNatClampNeg)], (cW (rg, ld, mts, ((nI s), (nI n), pw, pr), se, ev, pg) kp im ol sn sr tp (mW mk mg mt mc T)), 0, 0)))
          rw [show pw (nI k).toNatClampNeg = nI (w k) from by rw [nI_clamp (by omega)]; exact hpw k (by omega)]
          refine stp hm 2 (And.intro (fun c5 => ?_) (fun c5 => ?_))
          · have c5 : ¬ (nI (w k)) = 1 := c5
            refine stp hm 2 (bF (by decide) ?_)
            refine stp hm 4 (And.intro (inN (by omega) (by decide)) (?_ : sxWP sc cl Q 44 (109, [some (.ref 3), some (.int (nI c)), some (.int (iZ (wndN s w c k))), some (.int (nI (pos s w k))), some (.int (nI k)), some (.int (nI (pos s w (k + 1)))), some (.int (nI (mnN (pos s w k) (w k)))), some (.int 1)], [.int (pw (nI k).toNatClampNeg)], (cW (rg, ld, mts, ((nI s), (nI n), pw, pr), se, ev, pg) kp im ol sn sr tp (mW mk mg mt mc T)), 0, 0)))
            rw [show pw (nI k).toNatClampNeg = nI (w k) from by rw [nI_clamp (by omega)]; exact hpw k (by omega)]
            refine stp hm 2 (And.intro (fun c6 => ?_) (fun c6 => ?_))
            · have c6 : ¬ (nI (w k)) = 3 := c6
              refine stp hm 4 (?_ : sxWP sc cl Q 44 (10, [some (.ref 3), some (.int (nI c)), some (.int (iZ (wndN s w c k))), some (.int (nI (pos s w (k + 1)))), some (.int ((nI k) + 1)), some (.int (nI (pos s w (k + 1)))), some (.int (nI (mnN (pos s w k) (w k)))), some (.int 1)], [], (cW (rg, ld, mts, ((nI s), (nI n), pw, pr), se, ev, pg) kp im ol sn sr tp (mW mk mg mt mc T)), 0, 0))
              have c3 : ((mnN (pos s w k) (w k)) / 7) = (c / 6) := (nI_eq (a := ((mnN (pos s w k) (w k)) / 7)) (b := (c / 6)) (by omega) (by omega)).mp c3
              have c4 : ¬ ((mnN (pos s w k) (w k)) % 7) ≤ (c % 6) := fun q => c4 ((nI_leI (a := ((mnN (pos s w k) (w k)) % 7)) (b := (c % 6)) (by omega) (by omega)).mpr q)
              have c5 : ¬ (w k) = 1 := fun q => c5 ((nI_eq (a := (w k)) (b := 1) (by omega) (by omega)).mpr q)
              have c6 : ¬ (w k) = 3 := fun q => c6 ((nI_eq (a := (w k)) (b := 3) (by omega) (by omega)).mpr q)
              have ew : wdN (pos s w k) (w k) c = 0 := by
                unfold wdN
                repeat (first | rw [if_pos (by omega)] | rw [if_neg (by omega)])
              rw [nI_1]
              have e2 : wndN s w c (k + 1) = wndN s w c k + 0 := by rw [← ew]; rfl
              rw [Int.add_zero] at e2
              rw [← e2]
              exact ih (k + 1) (by omega) _ _ _
            · have c6 : (nI (w k)) = 3 := c6
              refine stp hm 5 (?_ : sxWP sc cl Q 44 (10, [some (.ref 3), some (.int (nI c)), some (.int ((iZ (wndN s w c k)) + (-1))), some (.int (nI (pos s w (k + 1)))), some (.int ((nI k) + 1)), some (.int (nI (pos s w (k + 1)))), some (.int (nI (mnN (pos s w k) (w k)))), some (.int 1)], [], (cW (rg, ld, mts, ((nI s), (nI n), pw, pr), se, ev, pg) kp im ol sn sr tp (mW mk mg mt mc T)), 0, 0))
              have c3 : ((mnN (pos s w k) (w k)) / 7) = (c / 6) := (nI_eq (a := ((mnN (pos s w k) (w k)) / 7)) (b := (c / 6)) (by omega) (by omega)).mp c3
              have c4 : ¬ ((mnN (pos s w k) (w k)) % 7) ≤ (c % 6) := fun q => c4 ((nI_leI (a := ((mnN (pos s w k) (w k)) % 7)) (b := (c % 6)) (by omega) (by omega)).mpr q)
              have c5 : ¬ (w k) = 1 := fun q => c5 ((nI_eq (a := (w k)) (b := 1) (by omega) (by omega)).mpr q)
              have c6 : (w k) = 3 := (nI_eq (a := (w k)) (b := 3) (by omega) (by omega)).mp c6
              have ew : wdN (pos s w k) (w k) c = -1 := by
                unfold wdN
                repeat (first | rw [if_pos (by omega)] | rw [if_neg (by omega)])
              rw [iZ_m1, nI_1]
              have e2 : wndN s w c (k + 1) = wndN s w c k + (-1) := by rw [← ew]; rfl
              rw [← e2]
              exact ih (k + 1) (by omega) _ _ _
          · have c5 : (nI (w k)) = 1 := c5
            refine stp hm 3 (bF (by decide) ?_)
            refine stp hm 4 (And.intro (inN (by omega) (by decide)) (?_ : sxWP sc cl Q 44 (109, [some (.ref 3), some (.int (nI c)), some (.int ((iZ (wndN s w c k)) + 1)), some (.int (nI (pos s w k))), some (.int (nI k)), some (.int (nI (pos s w (k + 1)))), some (.int (nI (mnN (pos s w k) (w k)))), some (.int 1)], [.int (pw (nI k).toNatClampNeg)], (cW (rg, ld, mts, ((nI s), (nI n), pw, pr), se, ev, pg) kp im ol sn sr tp (mW mk mg mt mc T)), 0, 0)))
            rw [show pw (nI k).toNatClampNeg = nI (w k) from by rw [nI_clamp (by omega)]; exact hpw k (by omega)]
            refine stp hm 2 (And.intro (fun c7 => ?_) (fun c7 => ?_))
            · have c7 : ¬ (nI (w k)) = 3 := c7
              refine stp hm 4 (?_ : sxWP sc cl Q 44 (10, [some (.ref 3), some (.int (nI c)), some (.int ((iZ (wndN s w c k)) + 1)), some (.int (nI (pos s w (k + 1)))), some (.int ((nI k) + 1)), some (.int (nI (pos s w (k + 1)))), some (.int (nI (mnN (pos s w k) (w k)))), some (.int 1)], [], (cW (rg, ld, mts, ((nI s), (nI n), pw, pr), se, ev, pg) kp im ol sn sr tp (mW mk mg mt mc T)), 0, 0))
              have c3 : ((mnN (pos s w k) (w k)) / 7) = (c / 6) := (nI_eq (a := ((mnN (pos s w k) (w k)) / 7)) (b := (c / 6)) (by omega) (by omega)).mp c3
              have c4 : ¬ ((mnN (pos s w k) (w k)) % 7) ≤ (c % 6) := fun q => c4 ((nI_leI (a := ((mnN (pos s w k) (w k)) % 7)) (b := (c % 6)) (by omega) (by omega)).mpr q)
              have c5 : (w k) = 1 := (nI_eq (a := (w k)) (b := 1) (by omega) (by omega)).mp c5
              have c7 : ¬ (w k) = 3 := fun q => c7 ((nI_eq (a := (w k)) (b := 3) (by omega) (by omega)).mpr q)
              have ew : wdN (pos s w k) (w k) c = 1 := by
                unfold wdN
                repeat (first | rw [if_pos (by omega)] | rw [if_neg (by omega)])
              rw [iZ_p1, nI_1]
              have e2 : wndN s w c (k + 1) = wndN s w c k + 1 := by rw [← ew]; rfl
              rw [← e2]
              exact ih (k + 1) (by omega) _ _ _
            · have c7 : (nI (w k)) = 3 := c7
              refine stp hm 5 (?_ : sxWP sc cl Q 44 (10, [some (.ref 3), some (.int (nI c)), some (.int (((iZ (wndN s w c k)) + 1) + (-1))), some (.int (nI (pos s w (k + 1)))), some (.int ((nI k) + 1)), some (.int (nI (pos s w (k + 1)))), some (.int (nI (mnN (pos s w k) (w k)))), some (.int 1)], [], (cW (rg, ld, mts, ((nI s), (nI n), pw, pr), se, ev, pg) kp im ol sn sr tp (mW mk mg mt mc T)), 0, 0))
              have c3 : ((mnN (pos s w k) (w k)) / 7) = (c / 6) := (nI_eq (a := ((mnN (pos s w k) (w k)) / 7)) (b := (c / 6)) (by omega) (by omega)).mp c3
              have c4 : ¬ ((mnN (pos s w k) (w k)) % 7) ≤ (c % 6) := fun q => c4 ((nI_leI (a := ((mnN (pos s w k) (w k)) % 7)) (b := (c % 6)) (by omega) (by omega)).mpr q)
              have c5 : (w k) = 1 := (nI_eq (a := (w k)) (b := 1) (by omega) (by omega)).mp c5
              have c7 : (w k) = 3 := (nI_eq (a := (w k)) (b := 3) (by omega) (by omega)).mp c7
              exfalso
              omega
  refine stp hm 7 (?_ : sxWP sc cl Q 44 (10, [some (.ref 3), some (.int (nI c)), some (.int 0), some (.int (nI s)), some (.int 0), none, none, none], [], (cW (rg, ld, mts, ((nI s), (nI n), pw, pr), se, ev, pg) kp im ol sn sr tp (mW mk mg mt mc T)), 0, 0))
  exact loop n 0 (by omega) _ _ _
end PT
