/-! BARRED -/
def mrN (i : Nat) : Nat := i / 6 * 6 + 5 - i % 6
theorem mirror_b (w : Int64) : ∃ r, G_mirror w = some r ∧ ∀ i, i < 36 → b6 r i = b6 w (mrN i) := by
  unfold G_mirror
  obtain ⟨r, h1, h2⟩ := wh_tot (st := G_mirror_s5 w) (fun m s => ∃ k, k + m = 36 ∧ s.2 = nI k ∧ ∀ i, i < 36 → b6 s.1 i = (decide (mrN i < k) && b6 w (mrN i))) (B := fun r => ∀ i, i < 36 → b6 r i = b6 w (mrN i)) (fun m s ⟨k, hk, e, hr⟩ => by
    obtain ⟨x, y⟩ := s
    dsimp only at e hr
    subst e
    rcases Nat.lt_or_ge k 36 with q | q
    · right
      have g : ¬ (36 : Int32) ≤ nI k := nI_ge (a := k) (b := 36) q (by decide)
      refine ⟨m - 1, (if b6 w k then x ||| ((1:Int64) <<< ((nI (k / 6 * 6 + 5 - k % 6)).toInt64 &&& 63)) else x, nI (k + 1)), by omega, ?_, k + 1, by omega, rfl, fun i hi => ?_⟩
      · unfold G_mirror_s5
        dsimp only
        rw [if_neg g, holds_eq q, mir_ix k q, nI_1]
        cases b6 w k <;> rfl
      · show b6 (if b6 w k then x ||| ((1:Int64) <<< ((nI (k / 6 * 6 + 5 - k % 6)).toInt64 &&& 63)) else x) i = _
        cases hb : b6 w k with
        | false =>
          rw [if_neg (show ¬ false = true by decide), hr i hi]
          by_cases c : mrN i = k
          · rw [c, hb, Bool.and_false, Bool.and_false]
          · have : (mrN i < k + 1) ↔ (mrN i < k) := by omega
            rw [decide_eq_decide.mpr this]
        | true =>
          rw [if_pos rfl, b6_or, hr i hi, b6_bit (by omega) (by omega)]
          by_cases c : mrN i = k
          · rw [decide_eq_true (show i = k / 6 * 6 + 5 - k % 6 by unfold mrN at c; omega), decide_eq_true (show mrN i < k + 1 by omega), c, hb]
            exact Bool.or_true _
          · have : (mrN i < k + 1) ↔ (mrN i < k) := by omega
            rw [decide_eq_false (show ¬ i = k / 6 * 6 + 5 - k % 6 by unfold mrN at c; omega), decide_eq_decide.mpr this, Bool.or_false]
    · left
      refine ⟨x, ?_, fun i hi => ?_⟩
      · unfold G_mirror_s5
        dsimp only
        rw [if_pos (show (36:Int32) ≤ nI k from nI_le (a := 36) (b := k) q (by omega))]
      · rw [hr i hi, decide_eq_true (show mrN i < k by unfold mrN; omega), Bool.true_and]) FU 36 ((0:Int64), (0:Int32)) (by have := FU_big; omega) ⟨0, rfl, rfl, fun i hi => by rw [b6_0, decide_eq_false (Nat.not_lt_zero _), Bool.false_and]⟩
  exact ⟨r, by rw [h1, wbind rfl], h2⟩
def dgN (dn : Bool) (c : Nat) : Nat := (c / 6 + (if dn then 5 - c % 6 else c % 6)) % 3
noncomputable def cdN (dn : Bool) (w : Int64) (j n : Nat) : Nat := cnt (fun i => b6 w i && decide (dgN dn i = j)) n
theorem cd_s (dn : Bool) (w : Int64) (j n : Nat) : cdN dn w j (n + 1) = cdN dn w j n + (if b6 w n && decide (dgN dn n = j) then 1 else 0) := rfl
noncomputable def evB (dn : Bool) (w : Int64) : Bool := decide (cdN dn w 0 36 = cdN dn w 1 36 ∧ cdN dn w 1 36 = cdN dn w 2 36)
theorem dgN_3 (dn : Bool) (c : Nat) : dgN dn c = 0 ∨ dgN dn c = 1 ∨ dgN dn c = 2 := by
  unfold dgN
  omega
theorem cd_sum (dn : Bool) (w : Int64) : ∀ n, cdN dn w 0 n + cdN dn w 1 n + cdN dn w 2 n = cnt (b6 w) n
  | 0 => rfl
  | n + 1 => by
    have ih := cd_sum dn w n
    rw [cd_s, cd_s, cd_s]
    show _ = cnt (b6 w) n + (if b6 w n then 1 else 0)
    cases b : b6 w n with
    | false => simp only [Bool.false_and]; simp; omega
    | true =>
      rcases dgN_3 dn n with e | e | e <;> rw [e] <;> simp <;> omega
theorem cd_le (dn : Bool) (w : Int64) (j n : Nat) : cdN dn w j n ≤ n := cnt_le _ n
theorem cnt_rev6 (h : Nat → Bool) : cnt (fun i => h (5 - i)) 6 = cnt h 6 := by
  show 0 + (if h 5 then 1 else 0) + (if h 4 then 1 else 0) + (if h 3 then 1 else 0) + (if h 2 then 1 else 0) + (if h 1 then 1 else 0) + (if h 0 then 1 else 0) = 0 + (if h 0 then 1 else 0) + (if h 1 then 1 else 0) + (if h 2 then 1 else 0) + (if h 3 then 1 else 0) + (if h 4 then 1 else 0) + (if h 5 then 1 else 0)
  generalize (if h 0 = true then 1 else 0) = a0
  generalize (if h 1 = true then 1 else 0) = a1
  generalize (if h 2 = true then 1 else 0) = a2
  generalize (if h 3 = true then 1 else 0) = a3
  generalize (if h 4 = true then 1 else 0) = a4
  generalize (if h 5 = true then 1 else 0) = a5
  omega
theorem cnt_mir (f g : Nat → Bool) (h : ∀ i, i < 36 → f i = g (mrN i)) : ∀ r, r ≤ 6 → cnt f (6 * r) = cnt g (6 * r)
  | 0, _ => rfl
  | r + 1, hr => by
    rw [show 6 * (r + 1) = 6 * r + 6 by omega, cnt_add, cnt_add, cnt_mir f g h r (by omega), ← cnt_rev6 (fun i => g (6 * r + i))]
    congr 1
    refine cnt_congr 6 (fun i hi => ?_)
    rw [h (6 * r + i) (by omega)]
    congr 1
    unfold mrN
    omega
theorem ev_mir {w r : Int64} (h : ∀ i, i < 36 → b6 r i = b6 w (mrN i)) : evB false r = evB true w := by
  have key : ∀ j, cdN false r j 36 = cdN true w j 36 := fun j => cnt_mir _ _ (fun i hi => by
    rw [h i hi]
    congr 2
    unfold dgN mrN
    rw [if_neg (show ¬ false = true by decide), if_pos rfl]
    rw [show (i / 6 * 6 + 5 - i % 6) / 6 = i / 6 by omega, show 5 - (i / 6 * 6 + 5 - i % 6) % 6 = i % 6 by omega]) 6 (Nat.le_refl 6)
  unfold evB
  rw [key, key, key]
theorem ev_ix : ∀ c, c < 36 → (nI c / (6:Int32) + (nI c - nI c / (6:Int32) * (6:Int32))) - (nI c / (6:Int32) + (nI c - nI c / (6:Int32) * (6:Int32))) / (3:Int32) * (3:Int32) = nI (dgN false c) := by decide +kernel
theorem un_ix : ∀ dn : Bool, ∀ c, c < 36 → (nI c / (6:Int32) + (if bI dn = (0:Int32) then nI c - nI c / (6:Int32) * (6:Int32) else (5:Int32) - (nI c - nI c / (6:Int32) * (6:Int32)))) - (nI c / (6:Int32) + (if bI dn = (0:Int32) then nI c - nI c / (6:Int32) * (6:Int32) else (5:Int32) - (nI c - nI c / (6:Int32) * (6:Int32)))) / (3:Int32) * (3:Int32) = nI (dgN dn c) := by decide +kernel
theorem isEven_eq {w : Int64} (hR : R36 w) : N_isEven w = some (bI (evB false w)) := by
  unfold N_isEven
  have w1 : wh (N_isEven_s7 w) FU ((0:Int32), (0:Int32), (0:Int32)) = some (nI (cdN false w 0 36), nI (cdN false w 1 36)) := by
    refine wh_for (st := N_isEven_s7 w) (fun k => (nI (cdN false w 0 k), nI (cdN false w 1 k), nI k)) 36 (fun k hk => ?_) ?_ (by decide)
    · unfold N_isEven_s7
      dsimp only
      rw [if_neg (show ¬ (36:Int32) ≤ nI k from nI_ge (a := k) (b := 36) hk (by decide)), holds_eq hk, ev_ix k hk, cd_s, cd_s, bI_if, bI_if, nI_1, nI_1, nI_1]
      rcases dgN_3 false k with e | e | e <;> rw [e] <;> cases b6 w k <;> rfl
    · unfold N_isEven_s7
      dsimp only
      rw [if_pos (by decide)]
  have s := cd_sum false w 36
  have l0 := cd_le false w 0 36
  have l1 := cd_le false w 1 36
  have l2 := cd_le false w 2 36
  rw [w1, wbind rfl]
  dsimp only
  rw [bitCount_36 hR, nI_add, nI_add]
  unfold evB
  generalize cdN false w 0 36 = A at *
  generalize cdN false w 1 36 = B at *
  generalize cdN false w 2 36 = C at *
  generalize cnt (b6 w) 36 = D at *
  by_cases c : A = B
  · rw [if_pos (show nI A = nI B by rw [c])]
    by_cases d : B = C
    · rw [if_pos (show nI (A + B + B) = nI D from congrArg nI (by omega)), decide_eq_true (show A = B ∧ B = C from ⟨c, d⟩)]; rfl
    · rw [if_neg (show ¬ nI (A + B + B) = nI D from fun q => by
        have := (nI_eq (by omega) (by omega)).mp q
        omega), decide_eq_false (show ¬ (A = B ∧ B = C) from fun q => d q.2)]; rfl
  · rw [if_neg (show ¬ nI A = nI B from fun q => c ((nI_eq (by omega) (by omega)).mp q)), decide_eq_false (show ¬ (A = B ∧ B = C) from fun q => c q.1)]; rfl
theorem isUneven_eq (w : Int64) (dn : Bool) (ccl : Nat → Int32) : ∃ g, M_isUneven (bI dn) w ccl = some (bI (!evB dn w), g) := by
  have w1 : wh M_isUneven_s2 FU ((0:Int32), ccl) = some (fun j => if j < 3 then 0 else ccl j) := by
    rw [show ((0:Int32), ccl) = (nI 0, fun j => if j < 0 then 0 else ccl j) from rfl]
    refine wh_for (st := M_isUneven_s2) (fun k => (nI k, fun j => if j < k then 0 else ccl j)) 3 (fun k hk => ?_) ?_ (by decide)
    · unfold M_isUneven_s2
      dsimp only
      rw [if_neg (show ¬ (3:Int32) ≤ nI k from nI_ge (a := k) (b := 3) hk (by decide)), grd_t (gi_nI hk (by decide)), nI_clamp (by omega), nI_1]
      congr 3
      funext c
      unfold upd
      by_cases q : c = k
      · subst q
        rw [if_pos rfl, if_pos (Nat.lt_succ_self c)]
      · rw [if_neg q]
        dsimp only
        by_cases q2 : c < k
        · rw [if_pos q2, if_pos (show c < k + 1 by omega)]
        · rw [if_neg q2, if_neg (show ¬ c < k + 1 by omega)]
    · unfold M_isUneven_s2
      dsimp only
      rw [if_pos (by decide)]
  have w2 : wh (M_isUneven_s22 (bI dn) w) FU ((0:Int32), fun j => if j < 3 then 0 else ccl j) = some (fun j => if j < 3 then nI (cdN dn w j 36) else ccl j) := by
    refine wh_for (st := M_isUneven_s22 (bI dn) w) (fun k => (nI k, fun j => if j < 3 then nI (cdN dn w j k) else ccl j)) 36 (fun k hk => ?_) ?_ (by decide)
    · have d3 := dgN_3 dn k
      unfold M_isUneven_s22 M_isUneven_j69
      dsimp only
      rw [if_neg (show ¬ (36:Int32) ≤ nI k from nI_ge (a := k) (b := 36) hk (by decide)), has_eq (by omega), bI_if, un_ix dn k hk, grd_t (gi_nI (by omega) (by decide)), grd_t (gi_nI (by omega) (by decide)), nI_clamp (by omega), if_pos (show dgN dn k < 3 by omega), nI_1, nI_1]
      cases b : b6 w k with
      | false =>
        rw [if_neg (show ¬ false = true by decide)]
        congr 3
        funext j
        rw [cd_s, b, Bool.false_and]
        rfl
      | true =>
        rw [if_pos rfl]
        congr 3
        funext j
        unfold upd
        by_cases q : j = dgN dn k
        · subst q
          rw [if_pos rfl, if_pos (by omega), cd_s, b, decide_eq_true rfl]
          rfl
        · rw [if_neg q]
          dsimp only
          by_cases q3 : j < 3
          · rw [if_pos q3, if_pos q3, cd_s, b, decide_eq_false (fun e => q e.symm)]
            rfl
          · rw [if_neg q3, if_neg q3]
    · unfold M_isUneven_s22
      dsimp only
      rw [if_pos (by decide)]
  have l0 := cd_le dn w 0 36
  have l1 := cd_le dn w 1 36
  have l2 := cd_le dn w 2 36
  unfold M_isUneven
  rw [w1, wbind rfl, w2, wbind rfl, grd_t (by decide), grd_t (by decide), grd_t (by decide), grd_t (by decide)]
  refine ⟨fun j => if j < 3 then nI (cdN dn w j 36) else ccl j, ?_⟩
  generalize hG : (fun j => if j < 3 then nI (cdN dn w j 36) else ccl j) = G
  have e0 : G 0 = nI (cdN dn w 0 36) := by rw [← hG]; rfl
  have e1 : G 1 = nI (cdN dn w 1 36) := by rw [← hG]; rfl
  have e2 : G 2 = nI (cdN dn w 2 36) := by rw [← hG]; rfl
  clear hG w1 w2
  rw [show (0:Int32).toNatClampNeg = 0 from rfl, show (1:Int32).toNatClampNeg = 1 from rfl, show (2:Int32).toNatClampNeg = 2 from rfl, e0, e1, e2]
  unfold evB
  generalize cdN dn w 0 36 = A at *
  generalize cdN dn w 1 36 = B at *
  generalize cdN dn w 2 36 = C at *
  by_cases c : A = B
  · rw [if_pos (show nI A = nI B by rw [c])]
    by_cases d : B = C
    · rw [if_pos (show nI B = nI C by rw [d]), decide_eq_true (show A = B ∧ B = C from ⟨c, d⟩)]; rfl
    · rw [if_neg (show ¬ nI B = nI C from fun q => d ((nI_eq (by omega) (by omega)).mp q)), decide_eq_false (show ¬ (A = B ∧ B = C) from fun q => d q.2)]; rfl
  · rw [if_neg (show ¬ nI A = nI B from fun q => c ((nI_eq (by omega) (by omega)).mp q)), decide_eq_false (show ¬ (A = B ∧ B = C) from fun q => c q.1)]
    unfold M_isUneven_j105 M_isUneven_j110
    rw [grd_t (by decide)]
    rfl
noncomputable def blC (w : Int64) : Nat := cnt (fun k => b6 w k && blN k) 36
noncomputable def brB (k : Nat) (w : Int64) : Bool := if k = 0 then decide (¬ 2 * blC w = cnt (b6 w) 36) else if k = 1 then !(evB false w && evB true w) else false
theorem colours_eq {k : Nat} (hk : k < 3) {w : Int64} (hR : R36 w) : N_coloursBar (nI k) w = some (bI (brB k w)) := by
  unfold N_coloursBar brB
  rcases (show k = 0 ∨ k = 1 ∨ k = 2 by omega) with e | e | e <;> subst e
  · have hb : J_Long_bitCount (w &&& (45460576917:Int64)) = nI (blC w) := by
      rw [bitCount_36 (R36_and hR _)]
      congr 1
      refine cnt_congr 36 (fun i hi => ?_)
      rw [b6_and, black_bits i (by omega), decide_eq_true hi, Bool.true_and]
    have l1 : blC w ≤ 36 := cnt_le _ 36
    have l2 : cnt (b6 w) 36 ≤ 36 := cnt_le _ 36
    rw [if_pos (show nI 0 = 0 from rfl), if_pos rfl, hb, bitCount_36 hR, show nI (blC w) * (2:Int32) = nI (blC w * 2) from pk_mul _ 2]
    generalize blC w = A at *
    generalize cnt (b6 w) 36 = D at *
    by_cases c : 2 * A = D
    · rw [if_pos (show nI (A * 2) = nI D from congrArg nI (by omega)), decide_eq_false (show ¬ ¬ 2 * A = D from fun q => q c)]; rfl
    · rw [if_neg (show ¬ nI (A * 2) = nI D from fun q => by
        have := (nI_eq (by omega) (by omega)).mp q
        omega), decide_eq_true c]; rfl
  · rw [if_neg (show ¬ nI 1 = 0 by decide), if_pos (show nI 1 = 1 from rfl), if_neg (show ¬ 1 = 0 by decide), if_pos rfl, isEven_eq hR, wbind rfl, bI_if]
    cases c : evB false w with
    | false =>
      unfold N_coloursBar_j49 N_coloursBar_j54
      rw [if_neg (show ¬ false = true by decide), grd_t (by decide)]
      rfl
    | true =>
      obtain ⟨r, m1, m2⟩ := mirror_b w
      obtain ⟨r', m3, _, m4⟩ := mirror_eq w
      have er : r' = r := Option.some.inj (m3.symm.trans m1)
      subst er
      rw [if_pos rfl, m1, wbind rfl, isEven_eq m4, wbind rfl, ev_mir m2]
      cases evB true w <;> rfl
  · unfold N_coloursBar_j53 N_coloursBar_j54
    rw [if_neg (show ¬ nI 2 = 0 by decide), if_neg (show ¬ nI 2 = 1 by decide), grd_t (by decide), if_neg (show ¬ 2 = 0 by decide), if_neg (show ¬ 2 = 1 by decide)]
    rfl
section BARR
variable {rg : Int64} {okn : Int32} {org : Int64} {osi oti ole oto : Int32} {oow oco : Int64} {ost owa owv owh olo ohi : Nat → Int32}
theorem m67_eq (w : Int64) {k : Nat} (hk : k < 3) (gle gsu : Int32) (gma gpi gst ghe gow gfa gqu glo ghi ccl : Nat → Int32) : ∃ q, M_barred_j67 (nI k) gle gsu gma gpi gst ghe gow gfa gqu glo ghi ccl w = some q ∧ q.1 = if k = 0 then (if smp w then (if til w then -5 else 2) else -5) else -5 := by
  unfold M_barred_j67 M_barred_j89 M_barred_j91
  by_cases e : k = 0
  · subst e
    obtain ⟨ma, pi, e2⟩ := M_isSimple_eq w gma gpi
    rw [if_pos (show nI 0 = 0 from rfl), if_pos rfl, e2, wbind rfl]
    dsimp only
    rw [bI_if]
    cases smp w with
    | false => exact ⟨_, rfl, rfl⟩
    | true =>
      obtain ⟨le2, su2, ma2, pi2, st2, he2, ow2, fa2, qu2, lo2, hi2, e2, hM⟩ := isTilable_eq w gle gsu ma pi gst ghe gow gfa gqu glo ghi
      rw [if_pos rfl, e2, wbind rfl]
      refine ⟨_, rfl, ?_⟩
      dsimp only
      cases til w <;> rfl
  · rw [if_neg (show ¬ nI k = 0 from fun q => e ((nI_eq (b := 0) (by omega) (by decide)).mp q)), if_neg e]
    exact ⟨_, rfl, rfl⟩
theorem p_barred (hR : R36 rg) (hO : IOk okn org osi oti ole oto oow oco ost owa owv owh olo ohi) (a : Int32) (ora odi oqu : Nat → Int32) (gle gsu : Int32) (gma gpi gst ghe gow gfa gqu glo ghi ccl : Nat → Int32) : ∃ q, X_barred a rg okn org osi oti ole oto oow oco ost owa owv owh olo ohi ora odi oqu = some q ∧ ∃ q', M_barred a rg gle gsu gma gpi gst ghe gow gfa gqu glo ghi ccl = some q' ∧ q'.1 = q.1 ∧ IOt q.2 := by
  unfold X_barred M_barred
  rcases kindc a with ⟨k1, k2⟩ | ⟨k, hk, ek, k1, k2⟩
  · rw [k1, k2, if_pos rfl, if_pos rfl]
    exact ⟨_, rfl, _, rfl, rfl, hO⟩
  subst ek
  have l2 : cnt (b6 rg) 36 ≤ 36 := cnt_le _ 36
  have l1 : blC rg ≤ 36 := cnt_le _ 36
  have sz : (if nI k = (0:Int32) then (2:Int32) else (3:Int32)) = nI (szN k) := (by decide : ∀ k, k < 3 → (if nI k = (0:Int32) then (2:Int32) else (3:Int32)) = nI (szN k)) k hk
  have sz2 := szN_ge k
  have sz3 : szN k ≤ 3 := by unfold szN; split <;> omega
  have n0 : ¬ nI (szN k) = 0 := nI_ne0 (by omega) (by omega)
  rw [k1, k2, if_neg (show ¬ (1:Int32) = 0 by decide), if_neg (show ¬ (1:Int32) = 0 by decide), cells_eq, wbind rfl, sz, grd_t (decide_eq_true n0), grd_t (decide_eq_true n0), bitCount_36 hR, pk_rem (by omega) (by omega) (by omega)]
  by_cases c : nI (cnt (b6 rg) 36 % szN k) = 0
  · rw [if_pos c, if_pos c, colours_eq hk hR, wbind rfl, bI_if]
    obtain ⟨le, to, ow, co, st, wa, wv, wh', lo, hi', d, q, e, hL⟩ := look_eq hO rg ora odi oqu
    have key : ∀ (v : Int32), v = (if nI k = (0:Int32) then (if bI (smp rg) = (0:Int32) then (-5:Int32) else (if bI (til rg) = (0:Int32) then (2:Int32) else (-5:Int32))) else (-5:Int32)) ↔ v = (if k = 0 then (if smp rg then (if til rg then -5 else 2) else -5) else -5) := fun v => by
      by_cases e : k = 0
      · subst e
        rw [if_pos (show nI 0 = 0 from rfl), if_pos rfl, bI_if, bI_if]
      · rw [if_neg (show ¬ nI k = 0 from fun q => e ((nI_eq (b := 0) (by omega) (by decide)).mp q)), if_neg e]
    have X0 : brB k rg = false → ∃ q, (if brB k rg = true then some ((1:Int32), okn, org, osi, oti, ole, oto, oow, oco, ost, owa, owv, owh, olo, ohi, odi, oqu) else Option.bind (O_look rg okn org osi oti ole oto oow oco ost owa owv owh olo ohi ora odi oqu) (fun q7 => some (if nI k = (0:Int32) then (if q7.2.2.1 = (0:Int32) then (-5:Int32) else (if q7.2.2.2.1 = (0:Int32) then (2:Int32) else (-5:Int32))) else (-5:Int32), q7.1, q7.2.1, q7.2.2.1, q7.2.2.2.1, q7.2.2.2.2.1, q7.2.2.2.2.2.1, q7.2.2.2.2.2.2.1, q7.2.2.2.2.2.2.2.1, q7.2.2.2.2.2.2.2.2.1, q7.2.2.2.2.2.2.2.2.2.1, q7.2.2.2.2.2.2.2.2.2.2.1, q7.2.2.2.2.2.2.2.2.2.2.2.1, q7.2.2.2.2.2.2.2.2.2.2.2.2.1, q7.2.2.2.2.2.2.2.2.2.2.2.2.2.1, q7.2.2.2.2.2.2.2.2.2.2.2.2.2.2.1, q7.2.2.2.2.2.2.2.2.2.2.2.2.2.2.2))) = some q ∧ q.1 = (if k = 0 then (if smp rg then (if til rg then -5 else 2) else -5) else -5) ∧ IOt q.2 := fun hb => by
      rw [hb, if_neg (show ¬ false = true by decide), e, wbind rfl]
      exact ⟨_, rfl, (key _).mp rfl, Or.inr ⟨rfl, hL⟩⟩
    have X1 : brB k rg = true → ∃ q, (if brB k rg = true then some ((1:Int32), okn, org, osi, oti, ole, oto, oow, oco, ost, owa, owv, owh, olo, ohi, odi, oqu) else Option.bind (O_look rg okn org osi oti ole oto oow oco ost owa owv owh olo ohi ora odi oqu) (fun q7 => some (if nI k = (0:Int32) then (if q7.2.2.1 = (0:Int32) then (-5:Int32) else (if q7.2.2.2.1 = (0:Int32) then (2:Int32) else (-5:Int32))) else (-5:Int32), q7.1, q7.2.1, q7.2.2.1, q7.2.2.2.1, q7.2.2.2.2.1, q7.2.2.2.2.2.1, q7.2.2.2.2.2.2.1, q7.2.2.2.2.2.2.2.1, q7.2.2.2.2.2.2.2.2.1, q7.2.2.2.2.2.2.2.2.2.1, q7.2.2.2.2.2.2.2.2.2.2.1, q7.2.2.2.2.2.2.2.2.2.2.2.1, q7.2.2.2.2.2.2.2.2.2.2.2.2.1, q7.2.2.2.2.2.2.2.2.2.2.2.2.2.1, q7.2.2.2.2.2.2.2.2.2.2.2.2.2.2.1, q7.2.2.2.2.2.2.2.2.2.2.2.2.2.2.2))) = some q ∧ q.1 = 1 ∧ IOt q.2 := fun hb => by
      rw [hb, if_pos rfl]
      exact ⟨_, rfl, rfl, hO⟩
    have hM : ∃ q', (if nI k = (0:Int32) then (Option.bind (M_blacks rg) (fun q18 => if ((2:Int32) * q18) = nI (cnt (b6 rg) 36) then (M_barred_j44 (nI k) gle gsu gma gpi gst ghe gow gfa gqu glo ghi ccl rg) else (M_barred_j65 gle gsu gma gpi gst ghe gow gfa gqu glo ghi ccl))) else (M_barred_j44 (nI k) gle gsu gma gpi gst ghe gow gfa gqu glo ghi ccl rg)) = some q' ∧ q'.1 = if brB k rg = true then 1 else (if k = 0 then (if smp rg then (if til rg then -5 else 2) else -5) else -5) := by
      rcases (show k = 0 ∨ k = 1 ∨ k = 2 by omega) with e | e | e <;> subst e
      · obtain ⟨q, q1, q2⟩ := m67_eq rg (k := 0) (by decide) gle gsu gma gpi gst ghe gow gfa gqu glo ghi ccl
        rw [if_pos (show nI 0 = 0 from rfl), blacks_eq, wbind rfl, show (2:Int32) * nI (cnt (fun k => b6 rg k && blN k) 36) = nI (2 * blC rg) from pk_mul 2 _]
        unfold brB
        rw [if_pos rfl]
        by_cases d : 2 * blC rg = cnt (b6 rg) 36
        · rw [if_pos (by rw [d]), decide_eq_false (fun q => q d), if_neg (show ¬ false = true by decide)]
          unfold M_barred_j44
          rw [if_neg (show ¬ nI 0 = 1 by decide)]
          exact ⟨q, q1, q2⟩
        · rw [if_neg (fun q => d ((nI_eq (by omega) (by omega)).mp q)), decide_eq_true d, if_pos rfl]
          exact ⟨_, rfl, rfl⟩
      · rw [if_neg (show ¬ nI 1 = 0 by decide)]
        unfold brB M_barred_j44
        rw [if_pos (show nI 1 = 1 from rfl), if_neg (show ¬ 1 = 0 by decide), if_pos rfl]
        obtain ⟨g1, u1⟩ := isUneven_eq rg false ccl
        have u1 : M_isUneven (0:Int32) rg ccl = _ := u1
        rw [u1, wbind rfl]
        dsimp only
        rw [bI_if]
        cases c1 : evB false rg with
        | false => exact ⟨_, rfl, rfl⟩
        | true =>
          obtain ⟨g2, u2⟩ := isUneven_eq rg true g1
          have u2 : M_isUneven (1:Int32) rg g1 = _ := u2
          rw [show (!true) = false from rfl, if_neg (show ¬ false = true by decide), u2, wbind rfl]
          dsimp only
          rw [bI_if]
          cases c2 : evB true rg with
          | false => exact ⟨_, rfl, rfl⟩
          | true =>
            obtain ⟨q, q1, q2⟩ := m67_eq rg (k := 1) (by decide) gle gsu gma gpi gst ghe gow gfa gqu glo ghi g2
            rw [show (!true) = false from rfl, if_neg (show ¬ false = true by decide)]
            exact ⟨q, q1, q2⟩
      · obtain ⟨q, q1, q2⟩ := m67_eq rg (k := 2) (by decide) gle gsu gma gpi gst ghe gow gfa gqu glo ghi ccl
        rw [if_neg (show ¬ nI 2 = 0 by decide)]
        unfold brB M_barred_j44
        rw [if_neg (show ¬ nI 2 = 1 by decide), if_neg (show ¬ 2 = 0 by decide), if_neg (show ¬ 2 = 1 by decide), if_neg (show ¬ false = true by decide)]
        exact ⟨q, q1, q2⟩
    obtain ⟨q', m1, m2⟩ := hM
    cases hb : brB k rg with
    | false =>
      obtain ⟨q, x1, x2, x3⟩ := X0 hb
      rw [hb] at x1 m2
      exact ⟨q, x1, q', m1, by rw [m2, x2, if_neg (show ¬ false = true by decide)], x3⟩
    | true =>
      obtain ⟨q, x1, x2, x3⟩ := X1 hb
      rw [hb] at x1 m2
      exact ⟨q, x1, q', m1, by rw [m2, x2, if_pos rfl], x3⟩
  · rw [if_neg c, if_neg c]
    exact ⟨_, rfl, _, rfl, rfl, hO⟩
end BARR
