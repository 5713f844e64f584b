/-! bits of a region: has, holds, how many -/
theorem b6_test {w : Int64} {k : Nat} (hk : k < 64) : ((w.toUInt64 >>> ((nI k).toInt64.toUInt64 &&& Int64.toUInt64 63)).toInt64 &&& 1 = 0) ↔ b6 w k = false := by
  constructor
  · intro h
    have h1 := congrArg (fun x => b6 x 0) h
    simp only [b6_and, b6_ushr k hk, b6_0, b6_1] at h1
    simpa using h1
  · intro h
    apply b6_ext
    intro i hi
    rw [b6_and, b6_ushr k hk, b6_0, b6_1]
    by_cases q : i = 0
    · subst q; simp [h]
    · simp [q]
theorem b6_testS {w : Int64} {k : Nat} (hk : k < 64) : (w >>> ((nI k).toInt64 &&& 63)) &&& 1 = 1 ↔ b6 w k = true := by
  constructor
  · intro h
    have h1 := congrArg (fun x => b6 x 0) h
    simp only [b6_and, b6_sshr k hk w (i := 0) (by decide), b6_1] at h1
    simpa [hk] using h1
  · intro h
    apply b6_ext
    intro i hi
    rw [b6_and, b6_1]
    by_cases q : i = 0
    · subst q
      rw [b6_sshr k hk w (i := 0) (by decide)]
      simp [h, hk]
    · simp [q]
theorem wbind {α β : Type} {o : Option α} {r : α} {k : α → Option β} (h : o = some r) : Option.bind o k = k r := by rw [h]; rfl
def bI (b : Bool) : Int32 := if b then 1 else 0
theorem has_eq {k : Nat} (hk : k < 64) (w : Int64) : M_has (nI k) w = bI (b6 w k) := by
  unfold M_has bI
  cases h : b6 w k with
  | true => rw [if_pos ((b6_testS hk).mpr h)]; rfl
  | false => rw [if_neg (fun q => by rw [(b6_testS hk).mp q] at h; cases h)]; rfl
theorem holds_eq {k : Nat} (hk : k < 36) (w : Int64) : G_holds w (nI k) = bI (b6 w k) := by
  unfold G_holds bI
  rw [show G_isCell (nI k) = 1 from (by decide : ∀ k, k < 36 → G_isCell (nI k) = 1) k hk]
  cases h : b6 w k with
  | true => rw [if_neg (show ¬ (1 : Int32) = 0 by decide), if_neg (fun q => by rw [(b6_test (by omega)).mp q] at h; cases h)]; rfl
  | false => rw [if_neg (show ¬ (1 : Int32) = 0 by decide), if_pos ((b6_test (by omega)).mpr h)]; rfl
theorem holds_m1 (w : Int64) : G_holds w (-1) = 0 := by
  unfold G_holds
  rw [if_pos (by decide)]
/-- how many places below n have it -/
def cnt (f : Nat → Bool) : Nat → Nat
  | 0 => 0
  | n + 1 => cnt f n + (if f n then 1 else 0)
theorem cnt_le (f : Nat → Bool) : ∀ n, cnt f n ≤ n
  | 0 => Nat.le_refl _
  | n + 1 => by
    have := cnt_le f n
    unfold cnt
    split <;> omega
def by8 : List Nat → Nat
  | [] => 0
  | b :: r => b + 256 * by8 r
theorem and8 {b m : Nat} (hb : b < 256) (hm : m < 256) (r M : Nat) : (b + 256 * r) &&& (m + 256 * M) = (b &&& m) + 256 * (r &&& M) := by
  apply Nat.eq_of_testBit_eq
  intro j
  have hbm : b &&& m < 2 ^ 8 := Nat.lt_of_le_of_lt Nat.and_le_left hb
  rw [Nat.testBit_and, Nat.add_comm b, Nat.add_comm m, Nat.add_comm (b &&& m), show 256 = 2 ^ 8 from rfl, Nat.testBit_two_pow_mul_add _ hb, Nat.testBit_two_pow_mul_add _ hm, Nat.testBit_two_pow_mul_add _ hbm]
  by_cases h : j < 8 <;> simp [h, Nat.testBit_and]
def f1 (b : Nat) : Nat := b - ((b / 2) &&& 85)
def f2 (b : Nat) : Nat := (b &&& 51) + ((b / 4) &&& 51)
def f3 (b : Nat) : Nat := b / 16 + b % 16
theorem f1_k : ∀ b, b < 256 → (∀ e, e < 2 → (b / 2 + 128 * e) &&& 85 = (b / 2) &&& 85) ∧ (b / 2) &&& 85 ≤ b := by decide +kernel
theorem f2_k : ∀ b, b < 256 → (∀ e, e < 4 → (b / 4 + 64 * e) &&& 51 = (b / 4) &&& 51) ∧ f2 b < 256 := by decide +kernel
theorem f2_n : ∀ b, b < 256 → f2 (f1 b) / 16 ≤ 4 ∧ f2 (f1 b) % 16 ≤ 4 := by decide +kernel
theorem f3_c : ∀ b, b < 256 → f3 (f2 (f1 b)) = cnt b.testBit 8 := by decide +kernel
def allB (l : List Nat) : Prop := ∀ b, b ∈ l → b < 256
theorem allB_h {b : Nat} {r : List Nat} (h : allB (b :: r)) : b < 256 := h b List.mem_cons_self
theorem allB_t {b : Nat} {r : List Nat} (h : allB (b :: r)) : allB r := fun x hx => h x (List.mem_cons_of_mem _ hx)
theorem st1 : ∀ l, allB l → by8 l / 2 &&& by8 (l.map (fun _ => 85)) ≤ by8 l ∧ by8 l - (by8 l / 2 &&& by8 (l.map (fun _ => 85))) = by8 (l.map f1)
  | [], _ => ⟨by simp [by8], by simp [by8]⟩
  | b :: r, h => by
    obtain ⟨i1, i2⟩ := st1 r (allB_t h)
    have hb := allB_h h
    obtain ⟨k1, k2⟩ := f1_k b hb
    have k1 := k1 (by8 r % 2) (Nat.mod_lt _ (by decide))
    have e : by8 (b :: r) / 2 = (b / 2 + 128 * (by8 r % 2)) + 256 * (by8 r / 2) := by
      show (b + 256 * by8 r) / 2 = _
      omega
    have e2 : by8 (b :: r) / 2 &&& by8 ((b :: r).map (fun _ => 85)) = (b / 2 &&& 85) + 256 * (by8 r / 2 &&& by8 (r.map (fun _ => 85))) := by
      rw [e]
      show _ &&& (85 + 256 * by8 (r.map (fun _ => 85))) = _
      rw [and8 (by omega) (by decide), k1]
    rw [e2]
    refine ⟨?_, ?_⟩
    · show _ ≤ b + 256 * by8 r
      omega
    · show b + 256 * by8 r - _ = f1 b + 256 * by8 (r.map f1)
      rw [← i2]
      unfold f1
      omega
theorem st2 : ∀ l, allB l → (by8 l &&& by8 (l.map (fun _ => 51))) + (by8 l / 4 &&& by8 (l.map (fun _ => 51))) = by8 (l.map f2)
  | [], _ => by simp [by8]
  | b :: r, h => by
    have i2 := st2 r (allB_t h)
    have hb := allB_h h
    have k1 := (f2_k b hb).1 (by8 r % 4) (Nat.mod_lt _ (by decide))
    have e : by8 (b :: r) / 4 = (b / 4 + 64 * (by8 r % 4)) + 256 * (by8 r / 4) := by
      show (b + 256 * by8 r) / 4 = _
      omega
    rw [e]
    show ((b + 256 * by8 r) &&& (51 + 256 * by8 (r.map (fun _ => 51)))) + (_ &&& (51 + 256 * by8 (r.map (fun _ => 51)))) = f2 b + 256 * by8 (r.map f2)
    rw [and8 hb (by decide), and8 (by omega) (by decide), k1, ← i2]
    unfold f2
    omega
def nib (l : List Nat) : Prop := ∀ b, b ∈ l → b / 16 ≤ 4 ∧ b % 16 ≤ 4
theorem nib_m : ∀ l, nib l → by8 l % 16 ≤ 4
  | [], _ => by simp [by8]
  | b :: r, h => by
    have := (h b List.mem_cons_self).2
    show (b + 256 * by8 r) % 16 ≤ 4
    omega
theorem st3 : ∀ l, nib l → (by8 l + by8 l / 16) &&& by8 (l.map (fun _ => 15)) = by8 (l.map f3)
  | [], _ => by simp [by8]
  | b :: r, h => by
    have hr : nib r := fun x hx => h x (List.mem_cons_of_mem _ hx)
    have i2 := st3 r hr
    obtain ⟨n1, n2⟩ := h b List.mem_cons_self
    have n3 := nib_m r hr
    have e : by8 (b :: r) + by8 (b :: r) / 16 = (b + b / 16 + 16 * (by8 r % 16)) + 256 * (by8 r + by8 r / 16) := by
      show (b + 256 * by8 r) + (b + 256 * by8 r) / 16 = _
      omega
    rw [e]
    show _ &&& (15 + 256 * by8 (r.map (fun _ => 15))) = f3 b + 256 * by8 (r.map f3)
    rw [and8 (by omega) (by decide), i2, show (15 : Nat) = 2 ^ 4 - 1 from rfl, Nat.and_two_pow_sub_one_eq_mod]
    unfold f3
    omega
theorem cnt_add (f : Nat → Bool) (m : Nat) : ∀ n, cnt f (m + n) = cnt f m + cnt (fun i => f (m + i)) n
  | 0 => rfl
  | n + 1 => by
    show cnt f (m + n) + (if f (m + n) then 1 else 0) = cnt f m + (cnt (fun i => f (m + i)) n + (if f (m + n) then 1 else 0))
    rw [cnt_add f m n]
    exact Nat.add_assoc _ _ _
theorem cnt_congr {f g : Nat → Bool} : ∀ n, (∀ i, i < n → f i = g i) → cnt f n = cnt g n
  | 0, _ => rfl
  | n + 1, h => by
    show cnt f n + _ = cnt g n + _
    rw [cnt_congr n (fun i hi => h i (by omega)), h n (by omega)]
theorem cnt_by8 {b : Nat} (hb : b < 256) (r n : Nat) : cnt (b + 256 * r).testBit (8 + n) = cnt b.testBit 8 + cnt r.testBit n := by
  rw [cnt_add]
  congr 1
  · refine cnt_congr 8 (fun i hi => ?_)
    rw [Nat.add_comm b, show 256 = 2 ^ 8 from rfl, Nat.testBit_two_pow_mul_add _ hb, if_pos hi]
  · refine cnt_congr n (fun i _ => ?_)
    show (b + 256 * r).testBit (8 + i) = r.testBit i
    rw [Nat.add_comm b, show 256 = 2 ^ 8 from rfl, Nat.testBit_two_pow_mul_add _ hb, if_neg (by omega)]
    congr 1
    omega
/-- a long as a whole number -/
def U (w : Int64) : Nat := w.toBitVec.toNat
theorem U_lt (w : Int64) : U w < 2 ^ 64 := w.toBitVec.isLt
theorem U_add (x y : Int64) : U (x + y) = (U x + U y) % 2 ^ 64 := by unfold U; rw [Int64.toBitVec_add, BitVec.toNat_add]
theorem U_sub (x y : Int64) : U (x - y) = (2 ^ 64 - U y + U x) % 2 ^ 64 := by unfold U; rw [Int64.toBitVec_sub, BitVec.toNat_sub]
theorem U_and (x y : Int64) : U (x &&& y) = U x &&& U y := by unfold U; rw [Int64.toBitVec_and, BitVec.toNat_and]
theorem U_shr (n : Nat) (hn : n < 64) (x : Int64) : U ((x.toUInt64 >>> ((nI n).toInt64.toUInt64 &&& Int64.toUInt64 63)).toInt64) = U x / 2 ^ n := by
  unfold U
  rw [UInt64.toBitVec_toInt64, UInt64.toBitVec_shiftRight, BitVec.ushiftRight_eq', s6_u n hn, BitVec.toNat_ushiftRight, Nat.shiftRight_eq_div_pow]
  rfl
theorem dvA {a m : Nat} (h : a < m) (R : Nat) : (a + m * R) / m = R := by
  rw [Nat.add_mul_div_left _ _ (by omega), Nat.div_eq_of_lt h, Nat.zero_add]
theorem bc_nat (b0 b1 b2 b3 b4 b5 b6_ b7 x y z i1 i2 i3 x0 : Nat) (h : allB [b0, b1, b2, b3, b4, b5, b6_, b7]) (h0 : x0 = by8 [b0, b1, b2, b3, b4, b5, b6_, b7])
    (hx : x = (2 ^ 64 - (x0 / 2 &&& 6148914691236517205) + x0) % 2 ^ 64) (hy : y = ((x &&& 3689348814741910323) + (x / 4 &&& 3689348814741910323)) % 2 ^ 64) (hz : z = (y + y / 16) % 2 ^ 64 &&& 1085102592571150095)
    (h1 : i1 = (z + z / 256) % 2 ^ 64) (h2 : i2 = (i1 + i1 / 65536) % 2 ^ 64) (h3 : i3 = (i2 + i2 / 4294967296) % 2 ^ 64) : i3 % 2 ^ 32 % 2 ^ 7 = cnt x0.testBit 64 := by
  have q : ∀ {p : Nat → Nat} {b : Nat}, b ∈ [b0, b1, b2, b3, b4, b5, b6_, b7] → b < 256 := fun hb => h _ hb
  have g0 := h b0 (by simp); have g1 := h b1 (by simp); have g2 := h b2 (by simp); have g3 := h b3 (by simp)
  have g4 := h b4 (by simp); have g5 := h b5 (by simp); have g6 := h b6_ (by simp); have g7 := h b7 (by simp)
  have e5 : by8 ([b0, b1, b2, b3, b4, b5, b6_, b7].map (fun _ => 85)) = 6148914691236517205 := by simp [by8]
  have e3 : ∀ f : Nat → Nat, by8 (([b0, b1, b2, b3, b4, b5, b6_, b7].map f).map (fun _ => 51)) = 3689348814741910323 := fun _ => by simp [by8]
  have ef : ∀ f g : Nat → Nat, by8 ((([b0, b1, b2, b3, b4, b5, b6_, b7].map f).map g).map (fun _ => 15)) = 1085102592571150095 := fun _ _ => by simp [by8]
  obtain ⟨s1a, s1b⟩ := st1 _ h
  rw [e5] at s1a s1b
  rw [← h0] at s1a s1b
  have m1 : ∀ b, b < 256 → f1 b < 256 := fun b hb => by unfold f1; omega
  have hx1 : x = by8 ([b0, b1, b2, b3, b4, b5, b6_, b7].map f1) := by
    rw [← s1b, hx]
    have hl : x0 < 2 ^ 64 := by rw [h0]; simp only [by8]; omega
    omega
  have a1 : allB ([b0, b1, b2, b3, b4, b5, b6_, b7].map f1) := by
    intro b hb
    obtain ⟨c, hc, e⟩ := List.mem_map.mp hb
    subst e
    exact m1 c (h c hc)
  have s2 := st2 _ a1
  rw [e3 f1, ← hx1] at s2
  have m2 : ∀ b, b < 256 → f2 (f1 b) ≤ 68 := fun b hb => by have := f2_n b hb; omega
  have k0 := m2 _ g0; have k1 := m2 _ g1; have k2 := m2 _ g2; have k3 := m2 _ g3
  have k4 := m2 _ g4; have k5 := m2 _ g5; have k6 := m2 _ g6; have k7 := m2 _ g7
  have hy1 : y = by8 (([b0, b1, b2, b3, b4, b5, b6_, b7].map f1).map f2) := by
    rw [hy, s2]
    simp only [List.map, by8]
    omega
  have a2 : nib (([b0, b1, b2, b3, b4, b5, b6_, b7].map f1).map f2) := by
    intro b hb
    obtain ⟨c, hc, e⟩ := List.mem_map.mp hb
    obtain ⟨c', hc', e'⟩ := List.mem_map.mp hc
    subst e'
    subst e
    exact f2_n c' (h c' hc')
  have s3 := st3 _ a2
  rw [ef f1 f2, ← hy1] at s3
  have hyl : y + y / 16 < 2 ^ 64 := by
    rw [hy1]
    simp only [List.map, by8]
    omega
  rw [Nat.mod_eq_of_lt hyl, s3] at hz
  simp only [List.map, by8] at hz
  have c0 := f3_c _ g0; have c1 := f3_c _ g1; have c2 := f3_c _ g2; have c3 := f3_c _ g3
  have c4 := f3_c _ g4; have c5 := f3_c _ g5; have c6 := f3_c _ g6; have c7 := f3_c _ g7
  rw [c0, c1, c2, c3, c4, c5, c6, c7] at hz
  have l0 := cnt_le b0.testBit 8; have l1 := cnt_le b1.testBit 8; have l2 := cnt_le b2.testBit 8; have l3 := cnt_le b3.testBit 8
  have l4 := cnt_le b4.testBit 8; have l5 := cnt_le b5.testBit 8; have l6 := cnt_le b6_.testBit 8; have l7 := cnt_le b7.testBit 8
  have ec : cnt x0.testBit 64 = cnt b0.testBit 8 + (cnt b1.testBit 8 + (cnt b2.testBit 8 + (cnt b3.testBit 8 + (cnt b4.testBit 8 + (cnt b5.testBit 8 + (cnt b6_.testBit 8 + (cnt b7.testBit 8 + 0))))))) := by
    rw [h0]
    show cnt (b0 + 256 * (b1 + 256 * (b2 + 256 * (b3 + 256 * (b4 + 256 * (b5 + 256 * (b6_ + 256 * (b7 + 256 * 0)))))))).testBit (8 + (8 + (8 + (8 + (8 + (8 + (8 + (8 + 0)))))))) = _
    rw [cnt_by8 g0, cnt_by8 g1, cnt_by8 g2, cnt_by8 g3, cnt_by8 g4, cnt_by8 g5, cnt_by8 g6, cnt_by8 g7]
    rfl
  rw [ec]
  generalize cnt b0.testBit 8 = p0 at *; generalize cnt b1.testBit 8 = p1 at *; generalize cnt b2.testBit 8 = p2 at *; generalize cnt b3.testBit 8 = p3 at *
  generalize cnt b4.testBit 8 = p4 at *; generalize cnt b5.testBit 8 = p5 at *; generalize cnt b6_.testBit 8 = p6 at *; generalize cnt b7.testBit 8 = p7 at *
  clear s3 hyl a2 hy1 k0 k1 k2 k3 k4 k5 k6 k7 m2 s2 a1 hx1 m1 s1a s1b e5 e3 ef q hx hy h0 h ec c0 c1 c2 c3 c4 c5 c6 c7
  have d1 : z / 256 = p1 + 256 * (p2 + 256 * (p3 + 256 * (p4 + 256 * (p5 + 256 * (p6 + 256 * (p7 + 256 * 0)))))) := by
    rw [hz]
    exact dvA (by omega) _
  have j1 : i1 = ((p0 + p1) + 256 * (p1 + p2)) + 65536 * ((p2 + p3) + 256 * ((p3 + p4) + 256 * ((p4 + p5) + 256 * ((p5 + p6) + 256 * ((p6 + p7) + 256 * p7))))) := by
    rw [h1, d1, hz, Nat.mod_eq_of_lt (by omega)]
    omega
  clear h1 hz d1
  have d2 : i1 / 65536 = (p2 + p3) + 256 * ((p3 + p4) + 256 * ((p4 + p5) + 256 * ((p5 + p6) + 256 * ((p6 + p7) + 256 * p7)))) := by
    rw [j1]
    exact dvA (by omega) _
  have j2 : i2 = ((p0 + p1 + p2 + p3) + 256 * ((p1 + p2 + p3 + p4) + 256 * ((p2 + p3 + p4 + p5) + 256 * (p3 + p4 + p5 + p6)))) + 4294967296 * ((p4 + p5 + p6 + p7) + 256 * ((p5 + p6 + p7) + 256 * ((p6 + p7) + 256 * p7))) := by
    rw [h2, d2, j1, Nat.mod_eq_of_lt (by omega)]
    omega
  clear h2 j1 d2
  have d3 : i2 / 4294967296 = (p4 + p5 + p6 + p7) + 256 * ((p5 + p6 + p7) + 256 * ((p6 + p7) + 256 * p7)) := by
    rw [j2]
    exact dvA (by omega) _
  have j3 : ∃ K, i3 = (p0 + (p1 + (p2 + (p3 + (p4 + (p5 + (p6 + (p7 + 0)))))))) + 128 * K := by
    refine ⟨2 * ((p1 + p2 + p3 + p4) + 256 * ((p2 + p3 + p4 + p5) + 256 * (p3 + p4 + p5 + p6))) + 33554432 * ((p4 + p5 + p6 + p7) + 256 * ((p5 + p6 + p7) + 256 * ((p6 + p7) + 256 * p7))) + 2 * ((p5 + p6 + p7) + 256 * ((p6 + p7) + 256 * p7)), ?_⟩
    rw [h3, d3, j2, Nat.mod_eq_of_lt (by omega)]
    omega
  obtain ⟨K, j3⟩ := j3
  rw [Nat.mod_mod_of_dvd _ (by decide), j3]
  clear h3 j2 d3 j3
  omega
theorem U_by8 (n : Nat) (h : n < 2 ^ 64) : ∃ b0 b1 b2 b3 b4 b5 b6_ b7, allB [b0, b1, b2, b3, b4, b5, b6_, b7] ∧ n = by8 [b0, b1, b2, b3, b4, b5, b6_, b7] := by
  refine ⟨n % 256, n / 256 % 256, n / 256 / 256 % 256, n / 256 / 256 / 256 % 256, n / 256 / 256 / 256 / 256 % 256, n / 256 / 256 / 256 / 256 / 256 % 256, n / 256 / 256 / 256 / 256 / 256 / 256 % 256, n / 256 / 256 / 256 / 256 / 256 / 256 / 256, ?_, ?_⟩
  · intro b hb
    simp only [List.mem_cons, List.mem_nil_iff, or_false] at hb
    omega
  · simp only [by8]
    omega

theorem bc_int {w x y z i1 i2 i3 : Int64} (hx : w - ((w.toUInt64 >>> ((1 : Int32).toInt64.toUInt64 &&& Int64.toUInt64 63)).toInt64 &&& (6148914691236517205)) = x) (hy : (x &&& (3689348814741910323)) + ((x.toUInt64 >>> ((2 : Int32).toInt64.toUInt64 &&& Int64.toUInt64 63)).toInt64 &&& (3689348814741910323)) = y)
    (hz : (y + (y.toUInt64 >>> ((4 : Int32).toInt64.toUInt64 &&& Int64.toUInt64 63)).toInt64) &&& (1085102592571150095) = z) (h1 : z + (z.toUInt64 >>> ((8 : Int32).toInt64.toUInt64 &&& Int64.toUInt64 63)).toInt64 = i1) (h2 : i1 + (i1.toUInt64 >>> ((16 : Int32).toInt64.toUInt64 &&& Int64.toUInt64 63)).toInt64 = i2) (h3 : i2 + (i2.toUInt64 >>> ((32 : Int32).toInt64.toUInt64 &&& Int64.toUInt64 63)).toInt64 = i3) : i3.toInt32 &&& 127 = nI (cnt (b6 w) 64) := by
  have hx := congrArg U hx
  have hy := congrArg U hy
  have hz := congrArg U hz
  have h1 := congrArg U h1
  have h2 := congrArg U h2
  have h3 := congrArg U h3
  rw [U_sub, U_and, show (1 : Int32) = nI 1 from rfl, U_shr 1 (by decide)] at hx
  rw [U_add, U_and, U_and, show (2 : Int32) = nI 2 from rfl, U_shr 2 (by decide)] at hy
  rw [U_and, U_add, show (4 : Int32) = nI 4 from rfl, U_shr 4 (by decide)] at hz
  rw [U_add, show (8 : Int32) = nI 8 from rfl, U_shr 8 (by decide)] at h1
  rw [U_add, show (16 : Int32) = nI 16 from rfl, U_shr 16 (by decide)] at h2
  rw [U_add, show (32 : Int32) = nI 32 from rfl, U_shr 32 (by decide)] at h3
  rw [show U 6148914691236517205 = 6148914691236517205 by decide +kernel] at hx
  rw [show U 3689348814741910323 = 3689348814741910323 by decide +kernel] at hy
  rw [show U 1085102592571150095 = 1085102592571150095 by decide +kernel] at hz
  obtain ⟨b0, b1, b2, b3, b4, b5, b6_, b7, q1, q2⟩ := U_by8 (U w) (U_lt w)
  have := bc_nat b0 b1 b2 b3 b4 b5 b6_ b7 _ _ _ _ _ _ (U w) q1 q2 hx.symm hy.symm hz.symm h1.symm h2.symm h3.symm
  rw [pk_and _ 7 (by decide +kernel)]
  have e : i3.toInt32.toBitVec.toNat = U i3 % 2 ^ 32 := by
    unfold U
    rw [Int64.toBitVec_toInt32, BitVec.signExtend_eq_setWidth_of_le _ (by decide), BitVec.toNat_setWidth]
  rw [e, this]
  rfl
theorem bitCount_eq (w : Int64) : J_Long_bitCount w = nI (cnt (b6 w) 64) := by
  unfold J_Long_bitCount
  exact bc_int rfl rfl rfl rfl rfl rfl
theorem cnt_zero {f : Nat → Bool} {m : Nat} (h : ∀ i, m ≤ i → f i = false) : ∀ n, cnt f (m + n) = cnt f m
  | 0 => rfl
  | n + 1 => by
    show cnt f (m + n) + (if f (m + n) then 1 else 0) = cnt f m
    rw [cnt_zero h n, h (m + n) (by omega)]
    rfl
theorem bitCount_36 {w : Int64} (h : R36 w) : J_Long_bitCount w = nI (cnt (b6 w) 36) := by
  rw [bitCount_eq]
  congr 1
  exact cnt_zero h 28
theorem cells_eq (w : Int64) : M_cells w = some (nI (cnt (b6 w) 36)) := by
  unfold M_cells
  have h := wh_for (st := M_cells_s4 w) (r := nI (cnt (b6 w) 36)) (fun k => (nI (cnt (b6 w) k), nI k)) 36 (fun k hk => by
      unfold M_cells_s4
      dsimp only
      rw [if_neg (show ¬ (36 : Int32) ≤ nI k from nI_ge (a := k) (b := 36) hk (by decide)), has_eq (by omega), nI_1]
      congr 3
      unfold bI
      show _ = nI (cnt (b6 w) k + (if b6 w k then 1 else 0))
      cases b6 w k with
      | true => exact nI_1 _
      | false => exact Int32.add_zero _) (by
      unfold M_cells_s4
      dsimp only
      rw [if_pos (by decide)]) (by decide)
  exact wbind h
def blN (c : Nat) : Bool := decide ((c / 6 + c % 6) % 2 = 0)
theorem isBlack_eq {k : Nat} (hk : k < 36) : M_isBlack (nI k) = bI (blN k) := (by decide +kernel : ∀ k, k < 36 → M_isBlack (nI k) = bI (blN k)) k hk
theorem bI_0 (b : Bool) : (bI b = 0) ↔ b = false := by cases b <;> decide
theorem bI_if {α : Type} (b : Bool) (x y : α) : (if bI b = 0 then x else y) = if b then y else x := by cases b <;> rfl
theorem cnt_step (f : Nat → Bool) (k : Nat) : nI (cnt f k) + (if f k then 1 else 0) = nI (cnt f (k + 1)) := by
  show _ = nI (cnt f k + (if f k then 1 else 0))
  cases f k with
  | true => exact nI_1 _
  | false => exact Int32.add_zero _
theorem blacks_eq (w : Int64) : M_blacks w = some (nI (cnt (fun k => b6 w k && blN k) 36)) := by
  unfold M_blacks
  have h := wh_for (st := M_blacks_s4 w) (r := nI (cnt (fun k => b6 w k && blN k) 36)) (fun k => (nI (cnt (fun k => b6 w k && blN k) k), nI k)) 36 (fun k hk => by
      unfold M_blacks_s4
      dsimp only
      rw [if_neg (show ¬ (36 : Int32) ≤ nI k from nI_ge (a := k) (b := 36) hk (by decide)), has_eq (by omega), isBlack_eq hk, nI_1, bI_if, bI_if, ← cnt_step (fun k => b6 w k && blN k) k]
      congr 4
      cases b6 w k <;> cases blN k <;> rfl) (by
      unfold M_blacks_s4
      dsimp only
      rw [if_pos (by decide)]) (by decide)
  exact wbind h
theorem black_bits : ∀ k, k < 64 → b6 45460576917 k = (decide (k < 36) && blN k) := by decide +kernel
