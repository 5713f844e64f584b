/-! fill, events, what fits, what bars -/
theorem TI_become {rg : Int64} {ld : Int32} {mt : Nat → Int32} (h : TI rg ld mt) (w : Int64) : TI w (if w = rg then ld else 0) mt := by
  by_cases c : w = rg
  · rw [if_pos c, c]; exact h
  · rw [if_neg c]
    exact fun q => absurd q (by decide)
theorem bitAt {w' : Int64} {r1 r2 c1 c2 : Nat} (h : isB w' 0 true (inB r1 r2 c1 c2)) {i : Nat} (hi : i < 64) : b6 w' i = inB r1 r2 c1 c2 i := by
  rw [h i hi, b6_0]
  cases inB r1 r2 c1 c2 i <;> rfl
theorem cellc (a : Int32) : (G_isCell a = 0 ∧ M_isCell a = 0) ∨ ∃ k, k < 36 ∧ a = nI k ∧ G_isCell a = 1 ∧ M_isCell a = 1 := by
  rcases triv a (n := 35) (by decide) with ⟨y1, y3⟩ | ⟨y4, y7, y1, y5⟩ | ⟨k, hk, ek, y7⟩
  · left
    unfold G_isCell M_isCell
    rw [if_pos y1]
    exact ⟨rfl, y3⟩
  · left
    unfold G_isCell M_isCell
    rw [if_neg y1, if_pos (show (36:Int32) ≤ a from y5)]
    exact ⟨rfl, y7⟩
  · exact Or.inr ⟨k, by omega, ek, by rw [ek]; exact (by decide : ∀ k, k < 36 → G_isCell (nI k) = 1) k (by omega), y7⟩
theorem bitc (a : Int32) : (X_isBit a = 0 ∧ M_isIn a 0 1 = 0) ∨ ∃ b : Bool, a = bI b ∧ X_isBit a = 1 ∧ M_isIn a 0 1 = 1 ∧ (if a = (1:Int32) then (1:Int32) else 0) = bI b := by
  rcases triv a (n := 1) (by decide) with ⟨y1, y3⟩ | ⟨y4, y7, y1, y5⟩ | ⟨k, hk, ek, y7⟩
  · left
    refine ⟨?_, y3⟩
    unfold X_isBit
    rw [if_neg (show ¬ a = 0 from fun q => by rw [q] at y1; exact absurd y1 (by decide)), if_neg (show ¬ a = 1 from fun q => by rw [q] at y1; exact absurd y1 (by decide))]
  · left
    refine ⟨?_, y7⟩
    unfold X_isBit
    rw [if_neg (show ¬ a = 0 from fun q => by rw [q] at y5; exact absurd y5 (by decide)), if_neg (show ¬ a = 1 from fun q => by rw [q] at y5; exact absurd y5 (by decide))]
  · right
    rcases (show k = 0 ∨ k = 1 by omega) with q | q <;> subst q <;> subst ek
    · exact ⟨false, rfl, by decide, y7, by decide⟩
    · exact ⟨true, rfl, by decide, y7, by decide⟩
section EVN
variable {rg mrg : Int64} {ld ps pl ss es gs : Int32} {mt pw so sq eo eq go gq ms : Nat → Int32}
variable {okn : Int32} {org : Int64} {osi oti ole oto : Int32} {oow oco : Int64} {ost owa owv owh olo ohi : Nat → Int32}
theorem p_fill (a b c : Int32) (h : St rg ld mt ps pl pw ss so sq es eo eq gs go gq mrg ms) (hI : TI rg ld mt) : ∃ q, X_fill a b c rg ld = some q ∧ ∃ q', M_fill a b c mrg ms = some q' ∧ q'.1 = q.1 ∧ St q.2.1 q.2.2 mt ps pl pw ss so sq es eo eq gs go gq q'.2.1 q'.2.2 ∧ TI q.2.1 q.2.2 mt := by
  have e := h.1.1
  have hw := h.1.2
  subst e
  unfold X_fill M_fill
  rcases cellc a with ⟨a1, a2⟩ | ⟨f, hf, ea, a1, a2⟩
  · rw [a1, a2, if_pos rfl, if_pos rfl]
    exact ⟨_, rfl, _, rfl, rfl, h, hI⟩
  rw [a1, a2, if_neg (show ¬ (1:Int32) = 0 by decide), if_neg (show ¬ (1:Int32) = 0 by decide)]
  rcases cellc b with ⟨b1, b2⟩ | ⟨t, ht, eb, b1, b2⟩
  · rw [b1, b2, if_pos rfl, if_pos rfl]
    exact ⟨_, rfl, _, rfl, rfl, h, hI⟩
  rw [b1, b2, if_neg (show ¬ (1:Int32) = 0 by decide), if_neg (show ¬ (1:Int32) = 0 by decide)]
  subst ea
  subst eb
  obtain ⟨blk, e1, hB⟩ := block_eq hf ht
  rw [e1, wbind rfl]
  rcases bitc c with ⟨c1, c2⟩ | ⟨bb, ec, c1, c2, c3⟩
  · rw [c1, c2, if_pos rfl, if_pos rfl]
    exact ⟨_, rfl, _, rfl, rfl, h, hI⟩
  rw [c1, c2, c3, if_neg (show ¬ (1:Int32) = 0 by decide), if_neg (show ¬ (1:Int32) = 0 by decide), mod6 hf, mod6 ht, div6 hf, div6 ht]
  by_cases l1 : f / 6 ≤ t / 6
  · rw [if_neg (nI_nlt (a := t / 6) (b := f / 6) l1 (by omega))]
    by_cases l2 : f % 6 ≤ t % 6
    · rw [if_pos (nI_le l2 (by omega))]
      have hne : ¬ blk = 0 := fun q => by
        have := bitAt hB (i := f) (by omega)
        rw [q, b6_0] at this
        unfold inB at this
        rw [decide_eq_true (by omega)] at this
        cases this
      obtain ⟨w', e2, hB2⟩ := filled_eq hf ht bb l1 l2 mrg
      have ew : G_with mrg blk (bI bb) = w' := with_eq hB hB2
      have hR := R36_isB hw hB2
      rw [if_neg hne, ew, S_become_eq, wbind rfl, e2, wbind rfl, M_becomes_eq, wbind rfl]
      dsimp only
      rw [cells_eq, wbind rfl]
      refine ⟨_, rfl, _, rfl, ?_, St_become w' hR h, TI_become hI w'⟩
      dsimp only
      rw [bitCount_36 hR]
    · have hz : blk = 0 := b6_none (fun i hi => by
        rw [bitAt hB hi]
        unfold inB
        exact decide_eq_false (by omega))
      rw [if_neg (show ¬ nI (f % 6) ≤ nI (t % 6) from nI_ge (by omega) (by omega)), if_pos hz]
      exact ⟨_, rfl, _, rfl, rfl, h, hI⟩
  · have hz : blk = 0 := b6_none (fun i hi => by
      rw [bitAt hB hi]
      unfold inB
      exact decide_eq_false (by omega))
    rw [if_pos (show nI (t / 6) < nI (f / 6) from nI_lt (by omega) (by omega)), if_pos hz]
    exact ⟨_, rfl, _, rfl, rfl, h, hI⟩
end EVN
theorem row_bits : ∀ n, n < 6 → ∀ i, i < 64 → b6 ((63:Int64) <<< ((nI (n * 6)).toInt64 &&& 63)) i = inB n (n + 1) 0 6 i := by decide +kernel
theorem col_bits : ∀ n, n < 6 → ∀ i, i < 64 → b6 ((1090785345:Int64) <<< ((nI n).toInt64 &&& 63)) i = inB 0 6 n (n + 1) i := by decide +kernel
theorem happ_eq {w : Int64} (hw : R36 w) {a b : Nat} (hv : vEvent a b) : ∃ r, X_happened w (nI a) (nI b) = some r ∧ M_happens (nI a) (nI b) w = some r ∧ R36 r := by
  obtain ⟨v1, v2, v3, v4⟩ := hv
  unfold X_happened M_happens M_happens_j93
  rcases (show a = 0 ∨ a = 1 ∨ a = 2 ∨ a = 3 by omega) with q | q | q | q <;> subst q
  · have := v2 rfl
    rw [if_pos (show nI 0 = 0 from rfl), if_pos (show nI 0 = 0 from rfl)]
    exact ⟨_, rfl, rfl, R36_xor hw this⟩
  · have hb := v3 (Or.inl rfl)
    rw [if_neg (show ¬ nI 1 = 0 by decide), if_neg (show ¬ nI 1 = 0 by decide), if_pos (show nI 1 = 1 from rfl), if_pos (show nI 1 = 1 from rfl)]
    have e1 : (6:Int32) * nI b = nI (6 * b) := pk_mul 6 b
    have e2 : nI (6 * b) + (6:Int32) - 1 = nI (6 * b + 5) := by
      rw [show nI (6 * b) + (6:Int32) = nI (6 * b + 6) from nI_add (6 * b) 6, ← nI_1 (6 * b + 5)]
      exact Int32.add_sub_cancel _ _
    obtain ⟨w', f1, f2⟩ := filled_eq (f := 6 * b) (t := 6 * b + 5) (by omega) (by omega) true (by omega) (by omega) w
    have f1 : M_filled (nI (6 * b)) (nI (6 * b + 5)) 1 w = some w' := f1
    rw [e1, e2, f1, wbind rfl, show nI b * (6:Int32) = nI (b * 6) from pk_mul b 6]
    have g : isB ((63:Int64) <<< ((nI (b * 6)).toInt64 &&& 63)) 0 true (inB (6 * b / 6) ((6 * b + 5) / 6 + 1) (6 * b % 6) ((6 * b + 5) % 6 + 1)) := fun i hi => by
      rw [row_bits b hb i hi, b6_0, show 6 * b / 6 = b by omega, show (6 * b + 5) / 6 + 1 = b + 1 by omega, show 6 * b % 6 = 0 by omega, show (6 * b + 5) % 6 + 1 = 6 by omega]
      cases inB b (b + 1) 0 6 i <;> rfl
    exact ⟨w', congrArg some (with_eq (b := true) g f2), rfl, R36_isB hw f2⟩
  · have hb := v3 (Or.inr rfl)
    rw [if_neg (show ¬ nI 2 = 0 by decide), if_neg (show ¬ nI 2 = 0 by decide), if_neg (show ¬ nI 2 = 1 by decide), if_neg (show ¬ nI 2 = 1 by decide), if_pos (show nI 2 = 2 from rfl), if_pos (show nI 2 = 2 from rfl)]
    have e1 : (30:Int32) + nI b = nI (30 + b) := nI_add 30 b
    obtain ⟨w', f1, f2⟩ := filled_eq (f := b) (t := 30 + b) (by omega) (by omega) false (by omega) (by omega) w
    have f1 : M_filled (nI b) (nI (30 + b)) 0 w = some w' := f1
    rw [e1, f1, wbind rfl]
    have g : isB ((1090785345:Int64) <<< ((nI b).toInt64 &&& 63)) 0 true (inB (b / 6) ((30 + b) / 6 + 1) (b % 6) ((30 + b) % 6 + 1)) := fun i hi => by
      rw [col_bits b hb i hi, b6_0, show b / 6 = 0 by omega, show (30 + b) / 6 + 1 = 6 by omega, show b % 6 = b by omega, show (30 + b) % 6 + 1 = b + 1 by omega]
      cases inB 0 6 b (b + 1) i <;> rfl
    exact ⟨w', congrArg some (with_eq (b := false) g f2), rfl, R36_isB hw f2⟩
  · rw [if_neg (show ¬ nI 3 = 0 by decide), if_neg (show ¬ nI 3 = 0 by decide), if_neg (show ¬ nI 3 = 1 by decide), if_neg (show ¬ nI 3 = 1 by decide), if_neg (show ¬ nI 3 = 2 by decide), if_neg (show ¬ nI 3 = 2 by decide)]
    obtain ⟨r, m1, m2, m3⟩ := mirror_eq w
    rw [m1, m2]
    exact ⟨r, rfl, rfl, m3⟩
def evR (rg : Int64) (eo eq : Nat → Int32) : Nat → Int64
  | 0 => rg
  | k + 1 => (X_happened (evR rg eo eq k) (eo k) (eq k)).getD 0
section EVN2
variable {rg mrg : Int64} {ld ps pl ss es gs : Int32} {mt pw so sq eo eq go gq ms : Nat → Int32}
variable {okn : Int32} {org : Int64} {osi oti ole oto : Int32} {oow oco : Int64} {ost owa owv owh olo ohi : Nat → Int32}
theorem ev_ok (hR : R36 rg) {l : Nat} (h4 : ∀ i, i < l → ∃ a b : Nat, vEvent a b ∧ eo i = nI a ∧ eq i = nI b ∧ ms (90 + 2 * i) = nI a ∧ ms (90 + 2 * i + 1) = nI b) : ∀ k, k ≤ l → R36 (evR rg eo eq k) ∧ (∀ i, i < k → X_happened (evR rg eo eq i) (eo i) (eq i) = some (evR rg eo eq (i + 1)) ∧ M_happens (ms (90 + 2 * i)) (ms (90 + 2 * i + 1)) (evR rg eo eq i) = some (evR rg eo eq (i + 1)))
  | 0, _ => ⟨hR, fun i hi => absurd hi (Nat.not_lt_zero _)⟩
  | k + 1, hk => by
    obtain ⟨r1, r2⟩ := ev_ok hR h4 k (by omega)
    obtain ⟨a, b, v, e1, e2, e3, e4⟩ := h4 k (by omega)
    obtain ⟨r, x1, x2, x3⟩ := happ_eq r1 v
    have er : evR rg eo eq (k + 1) = r := by
      show (X_happened (evR rg eo eq k) (eo k) (eq k)).getD 0 = r
      rw [e1, e2, x1]; rfl
    refine ⟨by rw [er]; exact x3, fun i hi => ?_⟩
    by_cases c : i = k
    · subst c
      rw [er, e1, e2, e3, e4]
      exact ⟨x1, x2⟩
    · exact r2 i (by omega)
theorem p_after (a : Int32) (h : St rg ld mt ps pl pw ss so sq es eo eq gs go gq mrg ms) (hO : IOk okn org osi oti ole oto oow oco ost owa owv owh olo ohi) (ora odi oqu : Nat → Int32) (gle gsu : Int32) (gma gpi gst ghe gow gfa gqu glo ghi : Nat → Int32) : ∃ q, X_after a rg es eo eq okn org osi oti ole oto oow oco ost owa owv owh olo ohi ora odi oqu = some q ∧ ∃ q', M_after a mrg gle gsu ms gma gpi gst ghe gow gfa gqu glo ghi = some q' ∧ q'.1 = q.1 ∧ q'.2.1 = mrg ∧ IOt q.2 := by
  have e := h.1.1
  have hR := h.1.2
  subst e
  obtain ⟨l, l1, l2, l3, l4⟩ := h.2.2.2.2.1
  obtain ⟨r1, r2⟩ := ev_ok hR l4 l (Nat.le_refl _)
  unfold X_after M_after
  rcases triv a (n := 2) (by decide) with ⟨y1, y3⟩ | ⟨y4, y7, y1, y5⟩ | ⟨k, hk, ek, y7⟩
  · rw [if_pos y1, show M_isIn a 0 2 = 0 from y3, if_pos rfl]
    exact ⟨_, rfl, _, rfl, rfl, rfl, hO⟩
  · rw [if_neg y1, if_neg (show ¬ a ≤ 2 from Int32.not_le.mpr y4), show M_isIn a 0 2 = 0 from y7, if_pos rfl]
    exact ⟨_, rfl, _, rfl, rfl, rfl, hO⟩
  subst ek
  rw [if_neg (nI_pos (by omega)), if_pos (show nI k ≤ (2:Int32) from nI_le (b := 2) hk (by decide)), show M_isIn (nI k) 0 2 = 1 from y7, if_neg (show ¬ (1:Int32) = 0 by decide)]
  have w1 : wh (X_after_s22 es eo eq) FU (mrg, (0:Int32)) = some (evR mrg eo eq l) := by
    refine wh_for (st := X_after_s22 es eo eq) (fun k => (evR mrg eo eq k, nI k)) l (fun i hi => ?_) ?_ (by omega)
    · unfold X_after_s22
      dsimp only
      rw [l2, if_neg (nI_ge hi (by omega)), R_one_2_eq (by omega), wbind rfl, R_other_2_eq (by omega), wbind rfl, (r2 i hi).1, wbind rfl, nI_1]
    · unfold X_after_s22
      dsimp only
      rw [l2, if_pos (nI_le (Nat.le_refl _) (by omega))]
  have w2 : wh (M_after_s19 ms) FU ((0:Int32), mrg) = some (evR mrg eo eq l) := by
    refine wh_for (st := M_after_s19 ms) (fun k => (nI k, evR mrg eo eq k)) l (fun i hi => ?_) ?_ (by omega)
    · unfold M_after_s19
      dsimp only
      rw [grd_t (by decide), show (4 : Int32).toNatClampNeg = 4 from rfl, l3, if_neg (nI_ge hi (by omega)), show (90 : Int32) = nI 90 from rfl, row_eq 90 i (by omega), nI_1, grd_t (gi_nI (by omega) (by decide)), grd_t (gi_nI (by omega) (by decide)), nI_clamp (by omega), nI_clamp (by omega), (r2 i hi).2, wbind rfl, nI_1]
    · unfold M_after_s19
      dsimp only
      rw [grd_t (by decide), show (4 : Int32).toNatClampNeg = 4 from rfl, l3, if_pos (nI_le (Nat.le_refl _) (by omega))]
  rw [w1, wbind rfl, w2, wbind rfl]
  by_cases k0 : k = 0
  · subst k0
    rw [if_pos (show nI 0 = 0 from rfl), if_pos (show nI 0 = 0 from rfl), cells_eq, wbind rfl]
    refine ⟨_, rfl, _, rfl, ?_, rfl, hO⟩
    dsimp only
    rw [bitCount_36 r1]
  have k0' : ¬ nI k = 0 := nI_ne0 (by omega) (by omega)
  obtain ⟨le, to, ow, co, st, wa, wv, wh', lo, hi, d, q, e, hL⟩ := look_eq hO (evR mrg eo eq l) ora odi oqu
  rw [if_neg k0', if_neg k0', e, wbind rfl]
  dsimp only
  by_cases k1 : k = 1
  · subst k1
    rw [if_pos (show nI 1 = 1 from rfl), if_pos (show nI 1 = 1 from rfl)]
    obtain ⟨ma, pi, e2⟩ := M_isSimple_eq (evR mrg eo eq l) gma gpi
    rw [e2, wbind rfl]
    exact ⟨_, rfl, _, rfl, by (dsimp only; rw [bI_bI, bit_bI]), rfl, Or.inr ⟨rfl, hL⟩⟩
  · have k1' : ¬ nI k = 1 := fun q => k1 ((nI_eq (by omega) (by omega)).mp (q.trans (show (1:Int32) = nI 1 from rfl)))
    rw [if_neg k1', if_neg k1']
    obtain ⟨le', su', ma, pi, st', he, ow', fa, qu, lo', hi', e2, hM⟩ := isTilable_eq (evR mrg eo eq l) gle gsu gma gpi gst ghe gow gfa gqu glo ghi
    rw [e2, wbind rfl]
    exact ⟨_, rfl, _, rfl, by (dsimp only; rw [bI_bI, bit_bI]), rfl, Or.inr ⟨rfl, hL⟩⟩
theorem seen_eq {w : Int64} (hw : R36 w) (h : IL vSeen 4 3 82 ss so sq ms) : ∃ z, X_isAsSeen w ss so sq = some z ∧ M_isAsSeen w ms = some z := by
  obtain ⟨l, l1, l2, l3, l4⟩ := h
  unfold X_isAsSeen M_isAsSeen
  have key := wh_cnt2 (st1 := X_isAsSeen_s2 w ss so sq) (st2 := M_isAsSeen_s2 w ms) l (by omega) ⟨Sum.inr (), by
      unfold X_isAsSeen_s2
      rw [l2, if_pos (nI_le (Nat.le_refl _) (by omega))], by
      unfold M_isAsSeen_s2
      rw [grd_t (by decide), show (3 : Int32).toNatClampNeg = 3 from rfl, l3, if_pos (nI_le (Nat.le_refl _) (by omega))]⟩ (fun k hk => by
      obtain ⟨a, b, v, e1, e2, e3, e4⟩ := l4 k hk
      have E1 : X_isAsSeen_s2 w ss so sq (nI k) = if G_amount w (nI a) = nI b then some (Sum.inl (nI (k + 1))) else some (Sum.inr (Sum.inl ())) := by
        unfold X_isAsSeen_s2
        rw [l2, if_neg (nI_ge hk (by omega)), R_one_eq (by omega), wbind rfl, R_other_eq (by omega), wbind rfl, e1, e2, nI_1]
      have E2 : M_isAsSeen_s2 w ms (nI k) = if G_amount w (nI a) = nI b then some (Sum.inl (nI (k + 1))) else some (Sum.inr (Sum.inl ())) := by
        obtain ⟨m1, m2, m3⟩ := amount_M hw v.1
        have j51 : ∀ x, M_isAsSeen_j51 (nI k) x ms = if x = nI b then some (Sum.inl (nI (k + 1))) else some (Sum.inr (Sum.inl ())) := fun x => by
          unfold M_isAsSeen_j51
          rw [show (82 : Int32) = nI 82 from rfl, row_eq 82 k (by omega), nI_1, grd_t (gi_nI (by omega) (by decide)), nI_clamp (by omega), e4, nI_1]
        have v1 := v.1
        unfold M_isAsSeen_s2
        rw [grd_t (by decide), show (3 : Int32).toNatClampNeg = 3 from rfl, l3, if_neg (nI_ge hk (by omega)), show (82 : Int32) = nI 82 from rfl, row_eq 82 k (by omega), grd_t (gi_nI (by omega) (by decide)), nI_clamp (by omega), e3]
        rcases (show a = 0 ∨ a = 1 ∨ a = 2 by omega) with q | q | q <;> subst q
        · rw [if_pos (show nI 0 = 0 from rfl), m1 rfl, wbind rfl, j51]
        · rw [if_neg (show ¬ nI 1 = 0 by decide), if_pos (show nI 1 = 1 from rfl), m2 rfl, wbind rfl, j51]
        · rw [if_neg (show ¬ nI 2 = 0 by decide), if_neg (show ¬ nI 2 = 1 by decide), m3 rfl, wbind rfl, j51]
      rw [E1, E2]
      by_cases c : G_amount w (nI a) = nI b
      · rw [if_pos c]; exact Or.inr ⟨rfl, rfl⟩
      · rw [if_neg c]; exact Or.inl ⟨_, rfl, rfl⟩)
  obtain ⟨r, x1, x2⟩ := key
  rw [x1, x2]
  cases r with
  | inl x => exact ⟨_, rfl, rfl⟩
  | inr x => exact ⟨_, rfl, rfl⟩
def ftR (w : Int64) (ss : Int32) (so sq : Nat → Int32) : Nat → Int64
  | 0 => 0
  | k + 1 => if X_isAsSeen (w ^^^ ((1:Int64) <<< ((nI k).toInt64 &&& 63))) ss so sq = some 0 then ftR w ss so sq k else ftR w ss so sq k ||| ((1:Int64) <<< ((nI k).toInt64 &&& 63))
theorem p_fits (h : St rg ld mt ps pl pw ss so sq es eo eq gs go gq mrg ms) : ∃ q, X_fits rg ss so sq = some q ∧ M_fits mrg ms = some (q, mrg) := by
  have e := h.1.1
  have hR := h.1.2
  subst e
  unfold X_fits M_fits
  have w1 : wh (X_fits_s4 mrg ss so sq) FU ((0:Int64), (0:Int32)) = some (ftR mrg ss so sq 36) := by
    refine wh_for (st := X_fits_s4 mrg ss so sq) (fun k => (ftR mrg ss so sq k, nI k)) 36 (fun k hk => ?_) ?_ (by decide)
    · obtain ⟨z, z1, z2⟩ := seen_eq (R36_xor hR hk) h.2.2.2.1
      unfold X_fits_s4
      dsimp only
      rw [if_neg (show ¬ (36 : Int32) ≤ nI k from nI_ge (a := k) (b := 36) hk (by decide)), z1, wbind rfl, nI_1]
      show _ = some (Sum.inl (if X_isAsSeen (mrg ^^^ ((1:Int64) <<< ((nI k).toInt64 &&& 63))) ss so sq = some 0 then ftR mrg ss so sq k else ftR mrg ss so sq k ||| ((1:Int64) <<< ((nI k).toInt64 &&& 63)), nI (k + 1)))
      rw [z1]
      by_cases c : z = 0
      · rw [if_pos c, if_pos (by rw [c])]
      · rw [if_neg c, if_neg (fun q => c (Option.some.inj q))]
    · unfold X_fits_s4
      dsimp only
      rw [if_pos (by decide)]
  have w2 : wh (M_fits_s10 mrg ms) FU ((0:Int64), (0:Int32), mrg) = some (ftR mrg ss so sq 36, mrg ^^^ ((1:Int64) <<< ((nI 35).toInt64 &&& 63))) := by
    refine wh_for (st := M_fits_s10 mrg ms) (fun k => (ftR mrg ss so sq k, nI k, if k = 0 then mrg else mrg ^^^ ((1:Int64) <<< ((nI (k - 1)).toInt64 &&& 63)))) 36 (fun k hk => ?_) ?_ (by decide)
    · obtain ⟨z, z1, z2⟩ := seen_eq (R36_xor hR hk) h.2.2.2.1
      unfold M_fits_s10
      dsimp only
      rw [if_neg (show ¬ (36 : Int32) ≤ nI k from nI_ge (a := k) (b := 36) hk (by decide)), z2, wbind rfl, nI_1, if_neg (Nat.succ_ne_zero k), Nat.add_sub_cancel]
      show _ = some (Sum.inl (if X_isAsSeen (mrg ^^^ ((1:Int64) <<< ((nI k).toInt64 &&& 63))) ss so sq = some 0 then ftR mrg ss so sq k else ftR mrg ss so sq k ||| ((1:Int64) <<< ((nI k).toInt64 &&& 63)), nI (k + 1), mrg ^^^ ((1:Int64) <<< ((nI k).toInt64 &&& 63))))
      rw [z1]
      by_cases c : z = 0
      · rw [if_pos c, if_pos (by rw [c]), Int64.or_zero]
      · rw [if_neg c, if_neg (fun q => c (Option.some.inj q))]
    · unfold M_fits_s10
      dsimp only
      rw [if_pos (by decide)]
      rfl
  rw [w1, w2]
  exact ⟨_, rfl, rfl⟩
end EVN2
