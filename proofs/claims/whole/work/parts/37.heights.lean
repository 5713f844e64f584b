/-! HEIGHTS: up steps hang together, how far, LOW and HIGH differ by 1 or 3 over a side -/
theorem bp_trans {G : Nat → Nat → Bool} {m a b : Nat} (h1 : bp G m a b) : ∀ {n c : Nat}, bp G n b c → bp G (m + n) a c
  | 0, _, h => by cases (show b = _ from h); exact h1
  | n + 1, _, ⟨d, w, h, hw, hd, hg, e⟩ => ⟨d, w, bp_trans h1 h, hw, hd, hg, e⟩
theorem bp_one {G : Nat → Nat → Bool} {a w : Nat} (ha : a < 49) (hw : w < 4) (h : G a w = true) : bp G 1 a (tg_nx a w) := ⟨a, w, rfl, hw, ha, h, rfl⟩
theorem b_alt : ∀ v, v < 49 → ∀ w, w < 4 → tg_b (tg_rp v w) = !tg_b (tg_lp v w) := by decide +kernel
theorem tg_UD {F : Nat → Bool} {v w : Nat} (hv : v < 49) (hw : w < 4) (hd : tg_vd v w = true) : tg_D F (tg_nx v w) ((w + 2) % 4) = tg_U F v w := by
  obtain ⟨s1, s2⟩ := tg_sw hw hd
  unfold tg_D tg_U tg_A
  rw [s1, s2, b_alt v hv w hw, Bool.not_not, Bool.or_comm]
theorem tg_DU {F : Nat → Bool} {v w : Nat} (hv : v < 49) (hw : w < 4) (hd : tg_vd v w = true) : tg_U F (tg_nx v w) ((w + 2) % 4) = tg_D F v w := by
  obtain ⟨s1, s2⟩ := tg_sw hw hd
  unfold tg_D tg_U tg_A
  rw [s1, s2, b_alt v hv w hw, Bool.or_comm]
theorem bp_lt {G : Nat → Nat → Bool} (hG : bG G) {a b : Nat} (ha : a < 49) : ∀ {m : Nat}, bp G m a b → b < 49
  | 0, h => by cases (show a = b from h); exact ha
  | _ + 1, ⟨_, w, _, hw, hc, hg, e⟩ => by rw [← e]; exact tg_vd_lt hc hw (hG _ w hc hw hg)
theorem bp_front {G : Nat → Nat → Bool} {a c : Nat} {w : Nat} (ha : a < 49) (hw : w < 4) (hg : G a w = true) (hc : tg_nx a w = c) {m b : Nat} (h : bp G m c b) : bp G (m + 1) a b := by
  have := bp_trans (bp_one ha hw hg) (hc ▸ h)
  rwa [Nat.add_comm] at this
/-- the way back -/
theorem bp_rev {F : Nat → Bool} (hF : tg_Fr F) {a : Nat} (ha : a < 49) : ∀ {m b : Nat}, bp (tg_G F 4) m a b → bp (tg_G F 0) m b a
  | 0, _, h => by cases (show a = _ from h); exact rfl
  | m + 1, _, ⟨c, w, h, hw, hc, hg, e⟩ => by
    have hd := tg_bG hF (Or.inr rfl) c w hc hw hg
    rw [tg_G4 F hw] at hg
    have h1 := bp_rev hF ha h
    refine bp_front (by rw [← e]; exact tg_vd_lt hc hw hd) (show (w + 2) % 4 < 4 by omega) (by rw [tg_G0 F (by omega), ← e, tg_DU hc hw hd]; exact hg) ?_ h1
    rw [← e]
    exact (tg_back hc hw hd).1
theorem bp_rev' {F : Nat → Bool} (hF : tg_Fr F) {a : Nat} (ha : a < 49) : ∀ {m b : Nat}, bp (tg_G F 0) m a b → bp (tg_G F 4) m b a
  | 0, _, h => by cases (show a = _ from h); exact rfl
  | m + 1, _, ⟨c, w, h, hw, hc, hg, e⟩ => by
    have hd := tg_bG hF (Or.inl rfl) c w hc hw hg
    rw [tg_G0 F hw] at hg
    have h1 := bp_rev' hF ha h
    refine bp_front (by rw [← e]; exact tg_vd_lt hc hw hd) (show (w + 2) % 4 < 4 by omega) (by rw [tg_G4 F (by omega), ← e, tg_UD hc hw hd]; exact hg) ?_ h1
    rw [← e]
    exact (tg_back hc hw hd).1
/-- the corners of a position -/
def tg_u (p : Nat) : Nat := 7 * (p / 8 - 1) + (p % 8 - 1)
def tg_ii (p : Nat) : Prop := 1 ≤ p / 8 ∧ p / 8 ≤ 6 ∧ 1 ≤ p % 8 ∧ p % 8 ≤ 6
theorem ring_tbl {p : Nat} (h : tg_ii p) : tg_u p + 8 < 49 ∧ tg_rp (tg_u p) 0 = p ∧ tg_rp (tg_u p + 1) 1 = p ∧ tg_rp (tg_u p + 8) 2 = p ∧ tg_rp (tg_u p + 7) 3 = p ∧ tg_lp (tg_u p + 1) 2 = p ∧ tg_lp (tg_u p + 8) 3 = p ∧ tg_lp (tg_u p + 7) 0 = p ∧ tg_lp (tg_u p) 1 = p := by
  unfold tg_ii at h
  have e : tg_q (tg_u p) + 9 = p := by unfold tg_q tg_u; omega
  have e1 : tg_q (tg_u p + 1) + 8 = p := by unfold tg_q tg_u; omega
  have e7 : tg_q (tg_u p + 7) + 1 = p := by unfold tg_q tg_u; omega
  have e8 : tg_q (tg_u p + 8) = p := by unfold tg_q tg_u; omega
  exact ⟨by unfold tg_u; omega, e, e1, e8, e7, e1, e8, e7, e⟩
section TGH
variable {F : Nat → Bool}
theorem tg_U_r {v w : Nat} (hv : v < 49) (hw : w < 4) (h : F (tg_rp v w) = true) (hb : tg_b (tg_rp v w) = false) : tg_G F 0 v w = true := by
  rw [tg_G0 F hw]
  unfold tg_U tg_A
  have := b_alt v hv w hw
  rw [hb] at this
  rw [h, Bool.or_true, Bool.and_true]
  simpa using this.symm
theorem tg_U_l {v w : Nat} (hw : w < 4) (h : F (tg_lp v w) = true) (hb : tg_b (tg_lp v w) = true) : tg_G F 0 v w = true := by
  rw [tg_G0 F hw]
  unfold tg_U tg_A
  rw [h, hb]; rfl
def tg_r (F : Nat → Bool) (a b : Nat) : Prop := ∃ m, bp (tg_G F 0) m a b
theorem tg_r_t {a b c : Nat} (h1 : tg_r F a b) (h2 : tg_r F b c) : tg_r F a c := by
  obtain ⟨m, h1⟩ := h1
  obtain ⟨n, h2⟩ := h2
  exact ⟨m + n, bp_trans h1 h2⟩
/-- all round a cell -/
theorem tg_ring (hF : tg_Fr F) {p : Nat} (hp : F p = true) : (tg_r F (tg_u p) (tg_u p + 1) ∧ tg_r F (tg_u p + 1) (tg_u p)) ∧ (tg_r F (tg_u p) (tg_u p + 7) ∧ tg_r F (tg_u p + 7) (tg_u p)) ∧ (tg_r F (tg_u p) (tg_u p + 8) ∧ tg_r F (tg_u p + 8) (tg_u p)) := by
  obtain ⟨h8, r0, r1, r2, r3, l1, l2, l3, l0⟩ := ring_tbl (tg_in hF hp)
  cases hb : tg_b p with
  | false =>
    have s0 : tg_r F (tg_u p) (tg_u p + 1) := ⟨1, bp_one (by omega) (show 0 < 4 by decide) (tg_U_r (by omega) (by decide) (by rw [r0]; exact hp) (by rw [r0]; exact hb))⟩
    have s1 : tg_r F (tg_u p + 1) (tg_u p + 8) := ⟨1, bp_one (w := 1) (by omega) (by decide) (tg_U_r (by omega) (by decide) (by rw [r1]; exact hp) (by rw [r1]; exact hb))⟩
    have s2 : tg_r F (tg_u p + 8) (tg_u p + 7) := ⟨1, bp_one (w := 2) (by omega) (by decide) (tg_U_r (by omega) (by decide) (by rw [r2]; exact hp) (by rw [r2]; exact hb))⟩
    have s3 : tg_r F (tg_u p + 7) (tg_u p) := ⟨1, by
      have := bp_one (G := tg_G F 0) (a := tg_u p + 7) (w := 3) (by omega) (by decide) (tg_U_r (by omega) (by decide) (by rw [r3]; exact hp) (by rw [r3]; exact hb))
      rw [tg_nx3, Nat.add_sub_cancel] at this
      exact this⟩
    exact ⟨⟨s0, tg_r_t s1 (tg_r_t s2 s3)⟩, ⟨tg_r_t s0 (tg_r_t s1 s2), s3⟩, ⟨tg_r_t s0 s1, tg_r_t s2 s3⟩⟩
  | true =>
    have s0 : tg_r F (tg_u p + 1) (tg_u p) := ⟨1, by
      have := bp_one (G := tg_G F 0) (a := tg_u p + 1) (w := 2) (by omega) (by decide) (tg_U_l (by decide) (by rw [l1]; exact hp) (by rw [l1]; exact hb))
      rw [tg_nx2, Nat.add_sub_cancel] at this
      exact this⟩
    have s1 : tg_r F (tg_u p + 8) (tg_u p + 1) := ⟨1, by
      have := bp_one (G := tg_G F 0) (a := tg_u p + 8) (w := 3) (by omega) (by decide) (tg_U_l (by decide) (by rw [l2]; exact hp) (by rw [l2]; exact hb))
      rw [tg_nx3, show tg_u p + 8 - 7 = tg_u p + 1 by omega] at this
      exact this⟩
    have s2 : tg_r F (tg_u p + 7) (tg_u p + 8) := ⟨1, bp_one (w := 0) (by omega) (by decide) (tg_U_l (by decide) (by rw [l3]; exact hp) (by rw [l3]; exact hb))⟩
    have s3 : tg_r F (tg_u p) (tg_u p + 7) := ⟨1, bp_one (w := 1) (by omega) (by decide) (tg_U_l (by decide) (by rw [l0]; exact hp) (by rw [l0]; exact hb))⟩
    exact ⟨⟨tg_r_t s3 (tg_r_t s2 s1), s0⟩, ⟨s3, tg_r_t s2 (tg_r_t s1 s0)⟩, ⟨tg_r_t s3 s2, tg_r_t s1 s0⟩⟩
/-- a corner of the region is a corner of a cell of it -/
theorem of_cell (hF : tg_Fr F) {v : Nat} (h : tg_of F v = true) : ∃ p, F p = true ∧ (v = tg_u p ∨ v = tg_u p + 1 ∨ v = tg_u p + 7 ∨ v = tg_u p + 8) := by
  unfold tg_of at h
  rw [Bool.or_eq_true, Bool.or_eq_true, Bool.or_eq_true] at h
  rcases h with ((h | h) | h) | h
  · have := tg_in hF h
    exact ⟨_, h, by unfold tg_u; unfold tg_q at this ⊢; omega⟩
  · have := tg_in hF h
    exact ⟨_, h, by unfold tg_u; unfold tg_q at this ⊢; omega⟩
  · have := tg_in hF h
    exact ⟨_, h, by unfold tg_u; unfold tg_q at this ⊢; omega⟩
  · have := tg_in hF h
    exact ⟨_, h, by unfold tg_u; unfold tg_q at this ⊢; omega⟩
theorem ring_all (hF : tg_Fr F) {p a : Nat} (hp : F p = true) (ha : a = tg_u p ∨ a = tg_u p + 1 ∨ a = tg_u p + 7 ∨ a = tg_u p + 8) : tg_r F a (tg_u p) ∧ tg_r F (tg_u p) a := by
  obtain ⟨⟨a1, a2⟩, ⟨a3, a4⟩, ⟨a5, a6⟩⟩ := tg_ring hF hp
  rcases ha with q | q | q | q <;> subst q
  · exact ⟨⟨0, rfl⟩, ⟨0, rfl⟩⟩
  · exact ⟨a2, a1⟩
  · exact ⟨a4, a3⟩
  · exact ⟨a6, a5⟩
/-- up steps lead from each corner to each -/
theorem tg_reach (hF : tg_Fr F) (hC : tg_Cn F) {a b : Nat} (ha : tg_of F a = true) (hb : tg_of F b = true) : tg_r F a b := by
  obtain ⟨p, hp, ap⟩ := of_cell hF ha
  obtain ⟨q, hq, bq⟩ := of_cell hF hb
  have hp64 : p < 64 := by have := tg_in hF hp; omega
  have hq64 : q < 64 := by have := tg_in hF hq; omega
  have one : ∀ p q, F p = true → F q = true → tg_ad p q → tg_r F (tg_u p) (tg_u q) := fun p q hp hq h => by
    have i1 := tg_in hF hp
    have i2 := tg_in hF hq
    obtain ⟨⟨a1, a2⟩, ⟨a3, a4⟩, _⟩ := tg_ring hF hp
    obtain ⟨⟨b1, b2⟩, ⟨b3, b4⟩, _⟩ := tg_ring hF hq
    unfold tg_ad at h
    rcases h with ⟨h, _⟩ | ⟨h, _⟩ | h | h
    · rw [show tg_u q = tg_u p + 1 by unfold tg_u; omega]; exact a1
    · rw [show tg_u p = tg_u q + 1 by unfold tg_u; omega]; exact b2
    · rw [show tg_u q = tg_u p + 7 by unfold tg_u; omega]; exact a3
    · rw [show tg_u p = tg_u q + 7 by unfold tg_u; omega]; exact b4
  have key := hC (fun p => @decide (tg_r F a (tg_u p)) (Classical.propDecidable _)) (fun x y _ _ had hx hy => by
    rw [Bool.eq_iff_iff]
    constructor
    · intro k
      exact @decide_eq_true _ (Classical.propDecidable _) (tg_r_t (@of_decide_eq_true _ (Classical.propDecidable _) k) (one x y hx hy had))
    · intro k
      exact @decide_eq_true _ (Classical.propDecidable _) (tg_r_t (@of_decide_eq_true _ (Classical.propDecidable _) k) (one y x hy hx (ad_sym had)))) p q hp64 hq64 hp hq
  have k1 : (@decide (tg_r F a (tg_u p)) (Classical.propDecidable _)) = true := @decide_eq_true _ (Classical.propDecidable _) (ring_all hF hp ap).1
  have key : (@decide (tg_r F a (tg_u p)) (Classical.propDecidable _)) = (@decide (tg_r F a (tg_u q)) (Classical.propDecidable _)) := key
  rw [k1] at key
  exact tg_r_t (@of_decide_eq_true _ (Classical.propDecidable _) key.symm) (ring_all hF hq bq).2
end TGH
/-! how far, as a number -/
noncomputable def dd (w : Int64) (a b : Nat) : Nat := @dite _ (∃ m, bp (tg_G (fr w) 0) m a b) (Classical.propDecidable _) (fun h => Classical.choose (tg_least h)) (fun _ => 0)
theorem dd_spec {w : Int64} {a b : Nat} (h : tg_r (fr w) a b) : bp (tg_G (fr w) 0) (dd w a b) a b ∧ ∀ m, bp (tg_G (fr w) 0) m a b → dd w a b ≤ m := by
  have := Classical.choose_spec (tg_least h)
  have h' : ∃ m, bp (tg_G (fr w) 0) m a b := h
  unfold dd
  rw [dif_pos h']
  exact ⟨this.1, fun m hm => Nat.le_of_not_lt fun c => this.2 m c hm⟩
theorem dd_bD {w : Int64} {a b : Nat} {z : Int32} (h : tg_r (fr w) a b) (hz : bD (tg_G (fr w) 0) a b z) : z = nI (dd w a b) ∧ dd w a b < 49 := by
  obtain ⟨d1, d2⟩ := dd_spec h
  rcases hz with ⟨_, q⟩ | ⟨m, q1, q2, q3, q4⟩
  · exact absurd d1 (q _)
  · have : m = dd w a b := by
      have := q4 _ d1
      have := d2 m q3
      omega
    subst this
    exact ⟨q1, q2⟩
theorem dd_bD4 {w : Int64} {a b : Nat} {z : Int32} (ha : a < 49) (hb : b < 49) (h : tg_r (fr w) b a) (hz : bD (tg_G (fr w) 4) a b z) : z = nI (dd w b a) ∧ dd w b a < 49 := by
  obtain ⟨d1, d2⟩ := dd_spec h
  have d1' := bp_rev' (fr_Fr w) hb d1
  rcases hz with ⟨_, q⟩ | ⟨m, q1, q2, q3, q4⟩
  · exact absurd d1' (q _)
  · have q3' := bp_rev (fr_Fr w) ha q3
    have : m = dd w b a := by
      have := q4 _ d1'
      have := d2 m q3'
      omega
    subst this
    exact ⟨q1, q2⟩
theorem dd_tri {w : Int64} {a b c : Nat} (h1 : tg_r (fr w) a b) (h2 : tg_r (fr w) b c) : dd w a c ≤ dd w a b + dd w b c := (dd_spec (tg_r_t h1 h2)).2 _ (bp_trans (dd_spec h1).1 (dd_spec h2).1)
theorem dd_self {w : Int64} (a : Nat) : dd w a a = 0 := Nat.le_zero.mp ((dd_spec ⟨0, rfl⟩).2 0 rfl)
/-! colours by four -/
def k4 (v : Nat) : Nat := if v / 7 % 2 = 0 then (if v % 7 % 2 = 0 then 0 else 3) else (if v % 7 % 2 = 0 then 1 else 2)
theorem k4_tbl : ∀ v, v < 49 → ∀ w, w < 4 → tg_vd v w = true → (tg_b (tg_lp v w) = true → k4 (tg_nx v w) % 4 = (k4 v + 1) % 4) ∧ (tg_b (tg_lp v w) = false → k4 v % 4 = (k4 (tg_nx v w) + 1) % 4) := by decide +kernel
theorem k4_bp {F : Nat → Bool} (hF : tg_Fr F) {a : Nat} (ha : a < 49) : ∀ {m b : Nat}, bp (tg_G F 0) m a b → k4 b % 4 = (k4 a + m) % 4
  | 0, _, h => by cases (show a = _ from h); rfl
  | m + 1, _, ⟨c, w, h, hw, hc, hg, e⟩ => by
    have ih := k4_bp hF ha h
    have hd := tg_bG hF (Or.inl rfl) c w hc hw hg
    rw [tg_G0 F hw] at hg
    have := (k4_tbl c hc w hw hd).1 (tg_UA hg).1
    rw [← e]
    omega
theorem k4_wd {w : Int64} (h : smp w = true) : ∀ i, (wd_h w i - k4 (wdv w i) + k4 (wdv w 0)) % 4 = 0
  | 0 => by show ((0:Int) - k4 (wdv w 0) + k4 (wdv w 0)) % 4 = 0; omega
  | i + 1 => by
    have ih := k4_wd h i
    obtain ⟨a, b, c, d, e⟩ := wd_ok h i
    have t := k4_tbl _ a _ b d
    show (wd_h w i + sgZ _ - _ + _) % 4 = 0
    rw [e]
    cases hb : tg_b (tg_lp (wdv w i) (wdw w i)) with
    | true =>
      have := t.1 hb
      show (wd_h w i + 1 - _ + _) % 4 = 0
      omega
    | false =>
      have := t.2 hb
      show (wd_h w i + -1 - _ + _) % 4 = 0
      omega
/-! vertices of the word are corners -/
theorem E_of {F : Nat → Bool} {v w : Nat} (hw : w < 4) (h : tg_E F v w = true) : tg_of F v = true := by
  have := (tg_Eand h).1
  unfold tg_of
  rcases w4 hw with q | q | q | q <;> subst q
  · rw [show F (tg_q v + 9) = true from this, Bool.or_true]
  · rw [show F (tg_q v + 8) = true from this, Bool.or_true, Bool.true_or]
  · rw [show F (tg_q v) = true from this]; rfl
  · rw [show F (tg_q v + 1) = true from this, Bool.or_true]; rfl
theorem A_of {F : Nat → Bool} {v w : Nat} (hw : w < 4) (h : tg_A F v w = true) : tg_of F v = true := by
  unfold tg_A at h
  rw [Bool.or_eq_true] at h
  unfold tg_of
  rcases w4 hw with q | q | q | q <;> subst q <;> rcases h with h | h
  · rw [show F (tg_q v + 1) = true from h, Bool.or_true]; rfl
  · rw [show F (tg_q v + 9) = true from h, Bool.or_true]
  · rw [show F (tg_q v + 9) = true from h, Bool.or_true]
  · rw [show F (tg_q v + 8) = true from h, Bool.or_true, Bool.true_or]
  · rw [show F (tg_q v + 8) = true from h, Bool.or_true, Bool.true_or]
  · rw [show F (tg_q v) = true from h]; rfl
  · rw [show F (tg_q v) = true from h]; rfl
  · rw [show F (tg_q v + 1) = true from h, Bool.or_true]; rfl
theorem wd_of {w : Int64} (h : smp w = true) (i : Nat) : tg_of (fr w) (wdv w i) = true := E_of (wd_ok h i).2.1 (wd_ok h i).2.2.1
theorem A_nx {F : Nat → Bool} (hF : tg_Fr F) {v w : Nat} (hv : v < 49) (hw : w < 4) (h : tg_A F v w = true) : tg_of F (tg_nx v w) = true := by
  have hd := tg_A_vd hF hv hw h
  obtain ⟨s1, s2⟩ := tg_sw hw hd
  refine A_of (w := (w + 2) % 4) (by omega) ?_
  unfold tg_A at h ⊢
  rw [s1, s2, Bool.or_comm]
  exact h
theorem reach_w {w : Int64} (h : smp w = true) {a b : Nat} (ha : tg_of (fr w) a = true) (hb : tg_of (fr w) b = true) : tg_r (fr w) a b := tg_reach (fr_Fr w) (smp_t h).2.1 ha hb
/-- back over a side in three -/
def iiB (p : Nat) : Bool := decide (1 ≤ p / 8) && decide (p / 8 ≤ 6) && decide (1 ≤ p % 8) && decide (p % 8 ≤ 6)
theorem iiB_of {p : Nat} (h : tg_ii p) : iiB p = true := by
  unfold iiB
  rw [decide_eq_true h.1, decide_eq_true h.2.1, decide_eq_true h.2.2.1, decide_eq_true h.2.2.2]
  rfl
theorem rot_t2 : ∀ v, v < 49 → ∀ w, w < 4 → tg_vd v w = true → iiB (tg_rp v w) = true → tg_vd (tg_nx v w) ((w + 1) % 4) = true ∧ tg_rp (tg_nx v w) ((w + 1) % 4) = tg_rp v w := by decide +kernel
theorem rot_t3 : ∀ v, v < 49 → ∀ w, w < 4 → tg_vd v w = true → iiB (tg_lp v w) = true → tg_vd (tg_nx v w) ((w + 3) % 4) = true ∧ tg_lp (tg_nx v w) ((w + 3) % 4) = tg_lp v w := by decide +kernel
theorem rot_tbl (v : Nat) (hv : v < 49) (w : Nat) (hw : w < 4) (h : tg_vd v w = true) : tg_nx v w < 49 ∧ (tg_ii (tg_rp v w) → tg_vd (tg_nx v w) ((w + 1) % 4) = true ∧ tg_rp (tg_nx v w) ((w + 1) % 4) = tg_rp v w) ∧ (tg_ii (tg_lp v w) → tg_vd (tg_nx v w) ((w + 3) % 4) = true ∧ tg_lp (tg_nx v w) ((w + 3) % 4) = tg_lp v w) :=
  ⟨tg_vd_lt hv hw h, fun q => rot_t2 v hv w hw h (iiB_of q), fun q => rot_t3 v hv w hw h (iiB_of q)⟩
theorem rot_nx : ∀ v, v < 49 → ∀ w, w < 4 → tg_vd v w = true → (tg_vd (tg_nx v w) ((w + 1) % 4) = true → tg_nx (tg_nx (tg_nx (tg_nx v w) ((w + 1) % 4)) ((w + 2) % 4)) ((w + 3) % 4) = v) ∧ (tg_vd (tg_nx v w) ((w + 3) % 4) = true → tg_nx (tg_nx (tg_nx (tg_nx v w) ((w + 3) % 4)) ((w + 2) % 4)) ((w + 1) % 4) = v) := by decide +kernel
theorem bp_3 {G : Nat → Nat → Bool} {a b c d x y z : Nat} (ha : a < 49) (hb : b < 49) (hc : c < 49) (hx : x < 4) (hy : y < 4) (hz : z < 4) (h1 : G a x = true) (h2 : G b y = true) (h3 : G c z = true) (e1 : tg_nx a x = b) (e2 : tg_nx b y = c) (e3 : tg_nx c z = d) : bp G 3 a d :=
  ⟨c, z, ⟨b, y, ⟨a, x, rfl, hx, ha, h1, e1⟩, hy, hb, h2, e2⟩, hz, hc, h3, e3⟩
theorem up_back {F : Nat → Bool} (hF : tg_Fr F) {v w : Nat} (hv : v < 49) (hw : w < 4) (h : tg_U F v w = true) : bp (tg_G F 0) 3 (tg_nx v w) v := by
  obtain ⟨hb, hA⟩ := tg_UA h
  have hd := tg_A_vd hF hv hw hA
  unfold tg_A at hA
  rw [Bool.or_eq_true] at hA
  obtain ⟨t1, t2, t3⟩ := rot_tbl v hv w hw hd
  obtain ⟨n1, n2⟩ := rot_nx v hv w hw hd
  rcases hA with hA | hA
  · -- the cell on the left
    have hi : tg_ii (tg_lp v w) := tg_in hF hA
    obtain ⟨d1, l1⟩ := t3 hi
    obtain ⟨a1, _, a3⟩ := rot_tbl _ t1 ((w + 3) % 4) (by omega) d1
    obtain ⟨d2, l2⟩ := a3 (by rw [l1]; exact hi)
    have ew2 : ((w + 3) % 4 + 3) % 4 = (w + 2) % 4 := by omega
    rw [ew2] at d2 l2
    obtain ⟨b1, _, b3⟩ := rot_tbl _ a1 ((w + 2) % 4) (by omega) d2
    obtain ⟨d3, l3⟩ := b3 (by rw [l2, l1]; exact hi)
    have ew3 : ((w + 2) % 4 + 3) % 4 = (w + 1) % 4 := by omega
    rw [ew3] at d3 l3
    exact bp_3 t1 a1 b1 (by omega) (by omega) (by omega) (tg_U_l (by omega) (by rw [l1]; exact hA) (by rw [l1]; exact hb)) (tg_U_l (by omega) (by rw [l2, l1]; exact hA) (by rw [l2, l1]; exact hb)) (tg_U_l (by omega) (by rw [l3, l2, l1]; exact hA) (by rw [l3, l2, l1]; exact hb)) rfl rfl (n2 d1)
  · have hi : tg_ii (tg_rp v w) := tg_in hF hA
    have hbr : tg_b (tg_rp v w) = false := by rw [b_alt v hv w hw, hb]; rfl
    obtain ⟨d1, l1⟩ := t2 hi
    obtain ⟨a1, a2, _⟩ := rot_tbl _ t1 ((w + 1) % 4) (by omega) d1
    obtain ⟨d2, l2⟩ := a2 (by rw [l1]; exact hi)
    have ew2 : ((w + 1) % 4 + 1) % 4 = (w + 2) % 4 := by omega
    rw [ew2] at d2 l2
    obtain ⟨b1, b2, _⟩ := rot_tbl _ a1 ((w + 2) % 4) (by omega) d2
    obtain ⟨d3, l3⟩ := b2 (by rw [l2, l1]; exact hi)
    have ew3 : ((w + 2) % 4 + 1) % 4 = (w + 3) % 4 := by omega
    rw [ew3] at d3 l3
    exact bp_3 t1 a1 b1 (by omega) (by omega) (by omega) (tg_U_r t1 (by omega) (by rw [l1]; exact hA) (by rw [l1]; exact hbr)) (tg_U_r a1 (by omega) (by rw [l2, l1]; exact hA) (by rw [l2, l1]; exact hbr)) (tg_U_r b1 (by omega) (by rw [l3, l2, l1]; exact hA) (by rw [l3, l2, l1]; exact hbr)) rfl rfl (n1 d1)
/-! LOW and HIGH -/
def mnZ (f : Nat → Int) : Nat → Int
  | 0 => f 0
  | n + 1 => if f (n + 1) < mnZ f n then f (n + 1) else mnZ f n
theorem mnZ_spec (f : Nat → Int) : ∀ n, (∃ i, i ≤ n ∧ mnZ f n = f i) ∧ ∀ i, i ≤ n → mnZ f n ≤ f i
  | 0 => ⟨⟨0, Nat.le_refl _, rfl⟩, fun i hi => by rw [show i = 0 by omega]; exact Int.le_refl _⟩
  | n + 1 => by
    obtain ⟨⟨i, i1, i2⟩, h⟩ := mnZ_spec f n
    unfold mnZ
    by_cases c : f (n + 1) < mnZ f n
    · rw [if_pos c]
      refine ⟨⟨n + 1, Nat.le_refl _, rfl⟩, fun j hj => ?_⟩
      by_cases e : j = n + 1
      · rw [e]; exact Int.le_refl _
      · have := h j (by omega); omega
    · rw [if_neg c]
      refine ⟨⟨i, by omega, i2⟩, fun j hj => ?_⟩
      by_cases e : j = n + 1
      · rw [e]; omega
      · exact h j (by omega)
noncomputable def hiZ (w : Int64) (v : Nat) : Int := mnZ (fun i => wd_h w i + dd w (wdv w i) v) (wd_p w - 1)
noncomputable def loZ (w : Int64) (v : Nat) : Int := -mnZ (fun i => -(wd_h w i - dd w v (wdv w i))) (wd_p w - 1)
theorem hiZ_spec {w : Int64} (h : smp w = true) (v : Nat) : (∃ i, i < wd_p w ∧ hiZ w v = wd_h w i + dd w (wdv w i) v) ∧ ∀ i, i < wd_p w → hiZ w v ≤ wd_h w i + dd w (wdv w i) v := by
  have hp := (wd_pP h).1
  obtain ⟨⟨i, i1, i2⟩, h2⟩ := mnZ_spec (fun i => wd_h w i + dd w (wdv w i) v) (wd_p w - 1)
  exact ⟨⟨i, by omega, i2⟩, fun i hi => h2 i (by omega)⟩
theorem loZ_spec {w : Int64} (h : smp w = true) (v : Nat) : (∃ i, i < wd_p w ∧ loZ w v = wd_h w i - dd w v (wdv w i)) ∧ ∀ i, i < wd_p w → wd_h w i - dd w v (wdv w i) ≤ loZ w v := by
  have hp := (wd_pP h).1
  obtain ⟨⟨i, i1, i2⟩, h2⟩ := mnZ_spec (fun i => -(wd_h w i - dd w v (wdv w i))) (wd_p w - 1)
  unfold loZ
  refine ⟨⟨i, by omega, by rw [i2]; omega⟩, fun i hi => ?_⟩
  have := h2 i (by omega)
  omega
def tilP (w : Int64) : Prop := smp w = true ∧ wd_h w (wd_p w) = 0 ∧ ∀ i j, i < wd_p w → j < wd_p w → wd_h w j ≤ wd_h w i + dd w (wdv w i) (wdv w j)
noncomputable def til (w : Int64) : Bool := @decide (tilP w) (Classical.propDecidable _)
theorem til_t {w : Int64} (h : til w = true) : tilP w := @of_decide_eq_true _ (Classical.propDecidable _) h
theorem til_of {w : Int64} (h : tilP w) : til w = true := @decide_eq_true _ (Classical.propDecidable _) h
theorem til_f {w : Int64} (h : ¬ tilP w) : til w = false := @decide_eq_false _ (Classical.propDecidable _) h
/-- over an up step: 1 more, or 3 less -/
def upZ (w : Int64) (H : Nat → Int) : Prop := ∀ v k, v < 49 → k < 4 → tg_U (fr w) v k = true → H (tg_nx v k) = H v + 1 ∨ H (tg_nx v k) = H v - 3
theorem hi_up {w : Int64} (h : smp w = true) : upZ w (hiZ w) := fun v k hv hk hU => by
  have hA := (tg_UA hU).2
  have ov := A_of hk hA
  have oy := A_nx (fr_Fr w) hv hk hA
  have hy := tg_vd_lt hv hk (tg_A_vd (fr_Fr w) hv hk hA)
  have d1 : dd w v (tg_nx v k) ≤ 1 := (dd_spec (reach_w h ov oy)).2 1 (bp_one hv hk (by rw [tg_G0 _ hk]; exact hU))
  have d3 : dd w (tg_nx v k) v ≤ 3 := (dd_spec (reach_w h oy ov)).2 3 (up_back (fr_Fr w) hv hk hU)
  obtain ⟨⟨i, i1, i2⟩, a⟩ := hiZ_spec h v
  obtain ⟨⟨j, j1, j2⟩, b⟩ := hiZ_spec h (tg_nx v k)
  have oi := wd_of h i
  have oj := wd_of h j
  have t1 := dd_tri (reach_w h oi ov) (reach_w h ov oy)
  have t2 := dd_tri (reach_w h oj oy) (reach_w h oy ov)
  have b1 := b i i1
  have a1 := a j j1
  have m1 := k4_wd h i
  have m2 := k4_wd h j
  have p1 := k4_bp (fr_Fr w) (wd_ok h i).1 (dd_spec (reach_w h oi ov)).1
  have p2 := k4_bp (fr_Fr w) (wd_ok h j).1 (dd_spec (reach_w h oj oy)).1
  have p3 := (k4_tbl v hv k hk (tg_A_vd (fr_Fr w) hv hk hA)).1 (tg_UA hU).1
  omega
theorem lo_up {w : Int64} (h : smp w = true) : upZ w (loZ w) := fun v k hv hk hU => by
  have hA := (tg_UA hU).2
  have ov := A_of hk hA
  have oy := A_nx (fr_Fr w) hv hk hA
  have hy := tg_vd_lt hv hk (tg_A_vd (fr_Fr w) hv hk hA)
  have d1 : dd w v (tg_nx v k) ≤ 1 := (dd_spec (reach_w h ov oy)).2 1 (bp_one hv hk (by rw [tg_G0 _ hk]; exact hU))
  have d3 : dd w (tg_nx v k) v ≤ 3 := (dd_spec (reach_w h oy ov)).2 3 (up_back (fr_Fr w) hv hk hU)
  obtain ⟨⟨i, i1, i2⟩, a⟩ := loZ_spec h v
  obtain ⟨⟨j, j1, j2⟩, b⟩ := loZ_spec h (tg_nx v k)
  have oi := wd_of h i
  have oj := wd_of h j
  have t1 := dd_tri (reach_w h ov oy) (reach_w h oy oj)
  have t2 := dd_tri (reach_w h oy ov) (reach_w h ov oi)
  have b1 := b i i1
  have a1 := a j j1
  have m1 := k4_wd h i
  have m2 := k4_wd h j
  have p1 := k4_bp (fr_Fr w) hv (dd_spec (reach_w h ov oi)).1
  have p2 := k4_bp (fr_Fr w) hy (dd_spec (reach_w h oy oj)).1
  have p3 := (k4_tbl v hv k hk (tg_A_vd (fr_Fr w) hv hk hA)).1 (tg_UA hU).1
  omega
/-- on the word they are its heights -/
theorem hi_word {w : Int64} (h : tilP w) {i : Nat} (hi : i < wd_p w) : hiZ w (wdv w i) = wd_h w i := by
  obtain ⟨hs, _, ht⟩ := h
  obtain ⟨⟨j, j1, j2⟩, b⟩ := hiZ_spec hs (wdv w i)
  have := b i hi
  rw [dd_self] at this
  have := ht j i j1 hi
  omega
theorem lo_word {w : Int64} (h : tilP w) {i : Nat} (hi : i < wd_p w) : loZ w (wdv w i) = wd_h w i := by
  obtain ⟨hs, _, ht⟩ := h
  obtain ⟨⟨j, j1, j2⟩, b⟩ := loZ_spec hs (wdv w i)
  have := b i hi
  rw [dd_self] at this
  have := ht i j hi j1
  omega
