/-! told, word, height, far -/
def IOt {ρ : Type} (q : Int32 × Int64 × Int32 × Int32 × Int32 × Int32 × Int64 × Int64 × (Nat → Int32) × (Nat → Int32) × (Nat → Int32) × (Nat → Int32) × (Nat → Int32) × (Nat → Int32) × ρ) : Prop := IOk q.1 q.2.1 q.2.2.1 q.2.2.2.1 q.2.2.2.2.1 q.2.2.2.2.2.1 q.2.2.2.2.2.2.1 q.2.2.2.2.2.2.2.1 q.2.2.2.2.2.2.2.2.1 q.2.2.2.2.2.2.2.2.2.1 q.2.2.2.2.2.2.2.2.2.2.1 q.2.2.2.2.2.2.2.2.2.2.2.1 q.2.2.2.2.2.2.2.2.2.2.2.2.1 q.2.2.2.2.2.2.2.2.2.2.2.2.2.1
theorem wordTold_eq (b : Bool) (w : Int64) (gle gsu : Int32) (gma gpi gst ghe gow : Nat → Int32) : ∃ q, M_wordTold (bI b) w gle gsu gma gpi gst ghe gow = some q ∧ ((smp w = false ∧ q.1 = -5) ∨ (smp w = true ∧ q.1 = (if b then iZ (wd_h w (wd_p w)) + 1000 else nI (wd_p w)) ∧ wd_M w q.2.2.2.2.2.1 q.2.2.2.2.2.2.1 q.2.2.2.2.2.2.2)) := by
  unfold M_wordTold
  obtain ⟨ma, pi, e⟩ := M_isSimple_eq w gma gpi
  rw [e, wbind rfl]
  dsimp only
  rw [bI_if]
  cases hs : smp w with
  | false => exact ⟨_, rfl, Or.inl ⟨rfl, rfl⟩⟩
  | true =>
    obtain ⟨st, he, ow, e2, hM⟩ := writesWord_eq hs gst ghe gow
    rw [if_pos rfl, e2, wbind rfl]
    refine ⟨_, rfl, Or.inr ⟨rfl, ?_, hM⟩⟩
    dsimp only
    rw [bI_if]
section TOLD
variable {rg mrg : Int64} {ld ps pl ss es gs : Int32} {mt pw so sq eo eq go gq ms : Nat → Int32}
variable {okn : Int32} {org : Int64} {osi oti ole oto : Int32} {oow oco : Int64} {ost owa owv owh olo ohi : Nat → Int32}
theorem p_told (a : Int32) (h : St rg ld mt ps pl pw ss so sq es eo eq gs go gq mrg ms) (hI : TI rg ld mt) (hO : IOk okn org osi oti ole oto oow oco ost owa owv owh olo ohi) (ora odi oqu : Nat → Int32) (gle gsu : Int32) (gma gpi gst ghe gow gfa gqu glo ghi gby gib : Nat → Int32) : ∃ q, X_told a rg ld mt okn org osi oti ole oto oow oco ost owa owv owh olo ohi ora odi oqu = some q ∧ ∃ q', M_told a mrg gle gsu ms gma gpi gst ghe gow gfa gqu glo ghi gby gib = some q' ∧ q'.1 = q.1 ∧ IOt q.2 := by
  have e := h.1.1
  have hR := h.1.2
  subst e
  rcases tri a (m := 2) (m1 := 3) (n := 2) rfl rfl (by decide) with ⟨y1, y2, y3⟩ | ⟨y1, y2, y3, y4, y5, y6, y7⟩ | ⟨k, hk, ek, y1, y2, y3, y4, y5, y6, y7⟩
  rotate_right
  · -- amounts
    unfold X_told
    rw [if_neg y1, if_neg y4]
    obtain ⟨m1, m2, m3⟩ := amount_M hR hk
    have g0 : ∀ x : Int32, (Option.bind (some x) (fun q2 => some (q2, gle, gsu, gma, gpi, gst, ghe, gow, gfa, gqu, glo, ghi, gby, gib))) = some (x, gle, gsu, gma, gpi, gst, ghe, gow, gfa, gqu, glo, ghi, gby, gib) := fun _ => rfl
    unfold M_told
    rcases (show k = 0 ∨ k = 1 ∨ k = 2 by omega) with q | q | q <;> subst q <;> subst ek
    · rw [if_pos (show nI 0 = 0 from rfl), m1 rfl, g0]
      exact ⟨_, rfl, _, rfl, rfl, hO⟩
    · rw [if_neg (show ¬ nI 1 = 0 by decide), if_pos (show nI 1 = 1 from rfl), m2 rfl, g0]
      exact ⟨_, rfl, _, rfl, rfl, hO⟩
    · rw [if_neg (show ¬ nI 2 = 0 by decide), if_neg (show ¬ nI 2 = 1 by decide), if_pos (show nI 2 = 2 from rfl), m3 rfl, g0]
      exact ⟨_, rfl, _, rfl, rfl, hO⟩
  all_goals
    obtain ⟨le, to, ow, co, st, wa, wv, wh', lo, hi, d, q, e, hL⟩ := look_eq hO mrg ora odi oqu
    have hx : X_told a mrg ld mt okn org osi oti ole oto oow oco ost owa owv owh olo ohi ora odi oqu = X_told_j21 a okn org osi oti ole oto oow oco ost owa owv owh olo ohi ora odi oqu mrg ld mt := by
      unfold X_told
      first
      | rw [if_pos y1]
      | rw [if_neg y1, if_pos y4]
    rw [hx]
    have n0 : ¬ a = 0 := fun q => by subst q; first | exact absurd y1 (by decide) | exact absurd y4 (by decide)
    have n1 : ¬ a = 1 := fun q => by subst q; first | exact absurd y1 (by decide) | exact absurd y4 (by decide)
    have n2 : ¬ a = 2 := fun q => by subst q; first | exact absurd y1 (by decide) | exact absurd y4 (by decide)
    unfold X_told_j21 M_told
    rw [e, wbind rfl, if_neg n0, if_neg n1, if_neg n2]
    dsimp only
    by_cases c3 : a = 3
    · rw [if_pos c3, if_pos c3]
      obtain ⟨ma, pi, e2⟩ := M_isSimple_eq mrg gma gpi
      rw [e2, wbind rfl]
      exact ⟨_, rfl, _, rfl, by (dsimp only; rw [bI_bI, bit_bI]), Or.inr ⟨rfl, hL⟩⟩
    rw [if_neg c3, if_neg c3]
    by_cases c4 : a = 4
    · rw [if_pos c4, if_pos c4]
      obtain ⟨le', su', ma, pi, st', he, ow', fa, qu, lo', hi', e2, hM⟩ := isTilable_eq mrg gle gsu gma gpi gst ghe gow gfa gqu glo ghi
      rw [e2, wbind rfl]
      exact ⟨_, rfl, _, rfl, by (dsimp only; rw [bI_bI, bit_bI]), Or.inr ⟨rfl, hL⟩⟩
    rw [if_neg c4, if_neg c4]
    by_cases c5 : a = 5
    · rw [if_pos c5, if_pos c5]
      obtain ⟨q', e2, h2⟩ := wordTold_eq false mrg gle gsu gma gpi gst ghe gow
      have e2 : M_wordTold 0 mrg gle gsu gma gpi gst ghe gow = some q' := e2
      rw [e2, wbind rfl]
      refine ⟨_, rfl, _, rfl, ?_, Or.inr ⟨rfl, hL⟩⟩
      dsimp only
      rw [bI_if]
      rcases h2 with ⟨s, z⟩ | ⟨s, z, _⟩
      · rw [s, z]; rfl
      · rw [s, z, if_pos rfl, (hL.2.2.2.2.1 s).1]; rfl
    rw [if_neg c5, if_neg c5]
    by_cases c6 : a = 6
    · rw [if_pos c6, if_pos c6]
      obtain ⟨q', e2, h2⟩ := wordTold_eq true mrg gle gsu gma gpi gst ghe gow
      have e2 : M_wordTold 1 mrg gle gsu gma gpi gst ghe gow = some q' := e2
      rw [e2, wbind rfl]
      refine ⟨_, rfl, _, rfl, ?_, Or.inr ⟨rfl, hL⟩⟩
      dsimp only
      rw [bI_if]
      rcases h2 with ⟨s, z⟩ | ⟨s, z, _⟩
      · rw [s, z]; rfl
      · rw [s, z, if_pos rfl, (hL.2.2.2.2.1 s).2.1]; rfl
    rw [if_neg c6, if_neg c6]
    by_cases c7 : a = 7
    · rw [if_pos c7, if_pos c7, grd_t (by decide), show (0:Int32).toNatClampNeg = 0 from rfl]
      rcases IA_01 h.2.1 with ⟨l0, m0⟩ | ⟨l1, m1, hms⟩
      · rw [l0, m0, if_pos rfl, if_pos rfl]
        exact ⟨_, rfl, _, rfl, rfl, Or.inr ⟨rfl, hL⟩⟩
      · subst l1
        obtain ⟨H, hT⟩ := hI rfl
        obtain ⟨le2, to2, ow2, co2, st2, wa2, wv2, wh2, lo2, hi2, ra2, d2, q2, e3, hL2⟩ := srank_eq hT (Or.inr ⟨rfl, hL⟩) ora d q
        obtain ⟨z, e4, _⟩ := mrank_eq hT hms gle gsu gma gpi gst ghe gow gfa gqu glo ghi gby gib
        rw [m1, if_neg (show ¬ (1:Int32) = 0 by decide), if_neg (show ¬ (1:Int32) = 0 by decide), e3, wbind rfl, e4, wbind rfl]
        exact ⟨_, rfl, _, rfl, rfl, Or.inr ⟨rfl, hL2⟩⟩
    rw [if_neg c7, if_neg c7]
    by_cases c8 : a = 8
    · rw [if_pos c8, if_pos c8]
      obtain ⟨le', su', ma, pi, st', he, ow', fa, qu, lo', hi', e2, hM⟩ := isTilable_eq mrg gle gsu gma gpi gst ghe gow gfa gqu glo ghi
      unfold M_rankOfGreatest
      rw [e2, wbind rfl]
      dsimp only
      rw [bI_if, bI_if]
      cases ht : til mrg with
      | false =>
        rw [ht] at hL
        exact ⟨_, rfl, _, rfl, rfl, Or.inr ⟨rfl, hL⟩⟩
      | true =>
        have hlo := hL.2.2.2.2.2.2 ht
        have hlo' := hM.2 ht
        rw [if_pos rfl, if_pos rfl, above_eq (w := mrg) (H := hiZ mrg) (lv := hi) hL.2.2.2.1 (fun v hv => level2 hv _ _ _ _) (fun v hv ov => (hlo v hv ov).2) (fun v hv ov => (hlo v hv ov).1), wbind rfl, mgreat_sum (H := hiZ mrg) (fun v hv ov => (hlo' v hv ov).2) (fun v hv ov => (hlo' v hv ov).1), wbind rfl]
        rw [ht] at hL
        exact ⟨_, rfl, _, rfl, rfl, Or.inr ⟨rfl, hL⟩⟩
    · rw [if_neg c8, if_neg c8]
      exact ⟨_, rfl, _, rfl, rfl, Or.inr ⟨rfl, hL⟩⟩
theorem p_word (a : Int32) (h : St rg ld mt ps pl pw ss so sq es eo eq gs go gq mrg ms) (hO : IOk okn org osi oti ole oto oow oco ost owa owv owh olo ohi) (ora odi oqu : Nat → Int32) (gle gsu : Int32) (gma gpi gst ghe gow : Nat → Int32) : ∃ q, X_word a rg okn org osi oti ole oto oow oco ost owa owv owh olo ohi ora odi oqu = some q ∧ ∃ q', M_word a mrg gle gsu gma gpi gst ghe gow = some q' ∧ q'.1 = q.1 ∧ IOt q.2 := by
  have e := h.1.1
  subst e
  unfold X_word M_word
  by_cases c : (0:Int32) ≤ a
  rotate_left
  · rw [if_neg c, if_neg c]
    exact ⟨_, rfl, _, rfl, rfl, hO⟩
  rw [if_pos c, if_pos c]
  obtain ⟨i, hi, ei⟩ := nI_of (show ¬ a < 0 from Int32.not_lt.mpr c)
  subst ei
  obtain ⟨le, to, ow, co, st, wa, wv, wh', lo, hi', d, q, e, hL⟩ := look_eq hO mrg ora odi oqu
  obtain ⟨q', e2, h2⟩ := wordTold_eq false mrg gle gsu gma gpi gst ghe gow
  have e2 : M_wordTold 0 mrg gle gsu gma gpi gst ghe gow = some q' := e2
  rw [e, wbind rfl, e2, wbind rfl]
  dsimp only
  rw [bI_if]
  rcases h2 with ⟨s, z⟩ | ⟨s, z, hM⟩
  · rw [s] at hL ⊢
    rw [z, if_neg (by decide), if_pos (show (-5:Int32) ≤ nI i by
      rw [Int32.le_iff_toInt_le, nI_toInt hi]
      have : (-5 : Int32).toInt = -5 := by decide
      omega)]
    exact ⟨_, rfl, _, rfl, rfl, Or.inr ⟨rfl, hL⟩⟩
  · have P2 := (wd_pP s).2.1
    obtain ⟨l1, l2, hX⟩ := hL.2.2.2.2.1 s
    rw [s] at hL ⊢
    rw [z, if_pos rfl, l1]
    rw [l1] at hL
    by_cases ci : wd_p mrg ≤ i
    · rw [if_pos (nI_le ci hi), if_pos (show (if false = true then iZ (wd_h mrg (wd_p mrg)) + 1000 else nI (wd_p mrg)) ≤ nI i from nI_le ci hi)]
      exact ⟨_, rfl, _, rfl, rfl, Or.inr ⟨rfl, hL⟩⟩
    · have hlt : i < wd_p mrg := by omega
      rw [if_neg (show ¬ nI (wd_p mrg) ≤ nI i from nI_ge hlt (by omega)), if_neg (show ¬ (if false = true then iZ (wd_h mrg (wd_p mrg)) + 1000 else nI (wd_p mrg)) ≤ nI i from nI_ge hlt (by omega)), grd_t (gi_nI (by omega) (by decide)), nI_clamp (by omega)]
      unfold O_way O_way_j29
      rw [if_neg (nI_pos (by omega)), if_neg (show ¬ nI (wd_p mrg) ≤ nI i from nI_ge hlt (by omega)), if_neg (show ¬ (49 : Int32) ≤ nI i from nI_ge (a := i) (b := 49) (by omega) (by decide)), grd_t (gi_nI (by omega) (by decide)), nI_clamp (by omega), wbind rfl]
      refine ⟨_, rfl, _, rfl, ?_, Or.inr ⟨rfl, hL⟩⟩
      dsimp only
      rw [(hX.2 i hlt).1, (hM.2 i hlt).1]
theorem triv (a : Int32) {n : Nat} (hn : n + 1 < 2 ^ 31) : (a < 0 ∧ M_isIn a 0 (nI n) = 0) ∨ (nI n < a ∧ M_isIn a 0 (nI n) = 0 ∧ ¬ a < 0 ∧ nI (n + 1) ≤ a) ∨ ∃ k, k ≤ n ∧ a = nI k ∧ M_isIn a 0 (nI n) = 1 := by
  rcases tri a (m := nI n) (m1 := nI (n + 1)) (n := n) rfl rfl hn with ⟨y1, y2, y3⟩ | ⟨y1, y2, y3, y4, y5, y6, y7⟩ | ⟨k, hk, ek, y1, y2, y3, y4, y5, y6, y7⟩
  · exact Or.inl ⟨y1, y3⟩
  · exact Or.inr (Or.inl ⟨y4, y7, y1, y5⟩)
  · exact Or.inr (Or.inr ⟨k, hk, ek, y7⟩)
theorem vtx (a : Int32) : (G_isVertex a = 0 ∧ M_isVertex a = 0) ∨ ∃ v, v < 49 ∧ a = nI v ∧ M_isVertex a = 1 := by
  rcases triv a (n := 48) (by decide) with ⟨y1, y3⟩ | ⟨y4, y7, y1, y5⟩ | ⟨k, hk, ek, y7⟩
  · left
    unfold G_isVertex M_isVertex
    rw [if_pos y1]
    exact ⟨rfl, y3⟩
  · left
    unfold G_isVertex M_isVertex
    rw [if_neg y1, if_pos (show (49:Int32) ≤ a from y5)]
    exact ⟨rfl, y7⟩
  · exact Or.inr ⟨k, by omega, ek, y7⟩
theorem p_far (a b : Int32) (h : St rg ld mt ps pl pw ss so sq es eo eq gs go gq mrg ms) (hO : IOk okn org osi oti ole oto oow oco ost owa owv owh olo ohi) (ora odi oqu : Nat → Int32) (gfa gqu : Nat → Int32) : ∃ q, X_far a b rg okn org osi oti ole oto oow oco ost owa owv owh olo ohi ora odi oqu = some q ∧ ∃ q', M_far a b mrg gfa gqu = some q' ∧ q'.1 = q.1 ∧ IOt q.2 := by
  have e := h.1.1
  subst e
  unfold X_far M_far
  rcases vtx a with ⟨a1, a2⟩ | ⟨u, hu, ea, a2⟩
  · rw [a1, a2, if_pos rfl, if_pos rfl]
    exact ⟨_, rfl, _, rfl, rfl, hO⟩
  subst ea
  rw [a2, isV_y u hu, if_neg (show ¬ (1:Int32) = 0 by decide), if_neg (show ¬ (1:Int32) = 0 by decide)]
  rcases vtx b with ⟨b1, b2⟩ | ⟨v, hv, eb, b2⟩
  · rw [b1, b2, if_pos rfl, if_pos rfl]
    exact ⟨_, rfl, _, rfl, rfl, hO⟩
  subst eb
  rw [b2, isV_y v hv, if_neg (show ¬ (1:Int32) = 0 by decide), if_neg (show ¬ (1:Int32) = 0 by decide)]
  obtain ⟨le, to, ow, co, st, wa, wv, wh', lo, hi', d, q, e, hL⟩ := look_eq hO mrg ora odi oqu
  rw [e, wbind rfl]
  dsimp only
  rw [corn_eq hu, corn_eq hv, hL.2.2.2.1 u (by omega), hL.2.2.2.1 v (by omega), decide_eq_true hu, decide_eq_true hv, Bool.true_and, Bool.true_and, isOf_eq hu, isOf_eq hv, bI_if, bI_if, bI_if, bI_if]
  cases ou : tg_of (fr mrg) u with
  | false => exact ⟨_, rfl, _, rfl, rfl, Or.inr ⟨rfl, hL⟩⟩
  | true =>
    cases ov : tg_of (fr mrg) v with
    | false => exact ⟨_, rfl, _, rfl, rfl, Or.inr ⟨rfl, hL⟩⟩
    | true =>
      rw [if_pos rfl, if_pos rfl, if_pos rfl, if_pos rfl]
      obtain ⟨d', q2, e2, hd⟩ := spread_eq (fr_Fr mrg) (s := 0) (Or.inl rfl) hu hL.2.2.1 d q
      have e2 : O_spread (nI u) 0 st d q = some (d', q2) := e2
      obtain ⟨g, q3, e3, _, hg⟩ := goesFrom_eq hu mrg gfa gqu
      have same : g (49 * u + v) = d' v := bD_uniq (hg ou v hv) (hd v hv)
      unfold O_fewest O_fewest_j23
      rw [e2, wbind rfl, isV_y v hv, if_neg (show ¬ (1:Int32) = 0 by decide), grd_t (gi_nI hv (by decide)), wbind rfl, e3, wbind rfl, show (49:Int32) * nI u + nI v = nI (49 * u + v) by rw [show (49:Int32) * nI u = nI (49 * u) from pk_mul 49 u, nI_add], grd_t (gi_nI (by omega) (by decide)), nI_clamp (show v < 2 ^ 31 by omega), nI_clamp (show 49 * u + v < 2 ^ 31 by omega)]
      refine ⟨_, rfl, _, rfl, ?_, Or.inr ⟨rfl, hL⟩⟩
      show (if g (49 * u + v) = -1 then -5 else g (49 * u + v)) = (if 0 ≤ d' v then d' v else -5)
      rw [same]
      rcases hd v hv with ⟨z, _⟩ | ⟨m, z, l, _⟩
      · rw [z]; decide
      · rw [z, if_neg (nI_ne_m1 m (by omega)), if_pos (show (0:Int32) ≤ nI m from nI_le (a := 0) (Nat.zero_le _) (by omega))]
theorem p_height (a b : Int32) (h : St rg ld mt ps pl pw ss so sq es eo eq gs go gq mrg ms) (hI : TI rg ld mt) (hO : IOk okn org osi oti ole oto oow oco ost owa owv owh olo ohi) (ora odi oqu : Nat → Int32) (gle gsu : Int32) (gma gpi gst ghe gow gfa gqu glo ghi gby gib : Nat → Int32) : ∃ q, X_height a b rg ld mt okn org osi oti ole oto oow oco ost owa owv owh olo ohi ora odi oqu = some q ∧ ∃ q', M_height a b mrg gle gsu ms gma gpi gst ghe gow gfa gqu glo ghi gby gib = some q' ∧ q'.1 = q.1 ∧ IOt q.2 := by
  have e := h.1.1
  subst e
  unfold X_height M_height
  rcases vtx a with ⟨a1, a2⟩ | ⟨v, hv, ea, a2⟩
  · rw [a1, a2, if_pos rfl, if_pos rfl]
    exact ⟨_, rfl, _, rfl, rfl, hO⟩
  subst ea
  rw [a2, isV_y v hv, if_neg (show ¬ (1:Int32) = 0 by decide), if_neg (show ¬ (1:Int32) = 0 by decide)]
  have h3 : (3:Int32) = nI 3 := rfl
  rcases triv b (n := 3) (by decide) with ⟨y1, y3⟩ | ⟨y4, y7, y1, y5⟩ | ⟨k, hk, ek, y7⟩
  · rw [if_pos y1, show M_isIn b 0 3 = 0 from y3, if_pos rfl]
    exact ⟨_, rfl, _, rfl, rfl, hO⟩
  · rw [if_neg y1, show M_isIn b 0 3 = 0 from y7, if_pos rfl, if_neg (show ¬ b ≤ 3 from Int32.not_le.mpr y4)]
    exact ⟨_, rfl, _, rfl, rfl, hO⟩
  subst ek
  rw [if_neg (nI_pos (by omega)), show M_isIn (nI k) 0 3 = 1 from y7, if_neg (show ¬ (1:Int32) = 0 by decide), if_pos (show nI k ≤ (3:Int32) from nI_le (b := 3) hk (by decide))]
  obtain ⟨le, to, ow, co, st, wa, wv, wh', lo, hi, d, q, e, hL⟩ := look_eq hO mrg ora odi oqu
  rw [e, wbind rfl]
  dsimp only
  have hcv : b6 co v = tg_of (fr mrg) v := by rw [hL.2.2.2.1 v (by omega), decide_eq_true hv, Bool.true_and]
  by_cases k0 : k = 0
  · subst k0
    rw [if_pos (show nI 0 = 0 from rfl), if_pos (show nI 0 = 0 from rfl)]
    obtain ⟨q', e2, h2⟩ := wordTold_eq true mrg gle gsu gma gpi gst ghe gow
    have e2 : M_wordTold 1 mrg gle gsu gma gpi gst ghe gow = some q' := e2
    rw [e2, wbind rfl]
    unfold X_heightOnWord X_heightOnWord_j20 X_heightOnWord_j52
    rw [bI_if]
    rcases h2 with ⟨s, z⟩ | ⟨s, z, hM⟩
    · rw [s] at hL ⊢
      rw [z, if_neg (by decide), wbind rfl, if_neg (show ¬ (-5:Int32) = 1000 by decide)]
      exact ⟨_, rfl, _, rfl, rfl, Or.inr ⟨rfl, hL⟩⟩
    · have P2 := (wd_pP s).2.1
      have hb := wd_h_le mrg (wd_p mrg)
      obtain ⟨l1, l2, hX⟩ := hL.2.2.2.2.1 s
      rw [s] at hL ⊢
      have ez : q'.1 = iZ (wd_h mrg (wd_p mrg) + 1000) := by rw [z, if_pos rfl, ← iZ_add]; rfl
      rw [if_pos rfl, ez, l2]
      rw [l2] at hL
      by_cases c0 : wd_h mrg (wd_p mrg) = 0
      · rw [c0, if_pos (show iZ 0 = 0 from rfl), if_pos (show iZ (0 + 1000) = 1000 from rfl), grd_t (gi_nI hv (by decide)), nI_clamp (by omega), hM.1 v hv, onW_eq hv, hX.1 v (by omega), bI_if, bI_if]
        cases hon : wdon mrg v with
        | false =>
          rw [if_neg (by decide), if_neg (by decide), wbind rfl]
          exact ⟨_, rfl, _, rfl, rfl, Or.inr ⟨rfl, by rw [c0] at hL; exact hL⟩⟩
        | true =>
          obtain ⟨j, j1, j2⟩ := wdon_iff.mp hon
          rw [if_pos rfl, if_pos rfl, level0 hv, wbind rfl, wbind rfl, grd_t (gi_nI hv (by decide))]
          refine ⟨_, rfl, _, rfl, ?_, Or.inr ⟨rfl, by rw [c0] at hL; exact hL⟩⟩
          show q'.2.2.2.2.2.2.1 v + 1000 = wh' v + 1000
          rw [← j2, (hX.2 j j1).2.2, (hM.2 j j1).2]
      · rw [if_neg (fun z => c0 ((iZ_eq (by unfold sm; omega) (by unfold sm; omega)).mp (z.trans (show (0:Int32) = iZ 0 from rfl)))), if_neg (fun z => c0 (by have := (iZ_eq (by unfold sm; omega) (by unfold sm; omega)).mp (z.trans (show (1000:Int32) = iZ 1000 from rfl)); omega)), wbind rfl]
        exact ⟨_, rfl, _, rfl, rfl, Or.inr ⟨rfl, hL⟩⟩
  have k0' : ¬ nI k = 0 := nI_ne0 (by omega) (by omega)
  rw [if_neg k0', if_neg k0']
  by_cases k3 : k = 3
  · subst k3
    rw [if_pos (show nI 3 = 3 from rfl), if_pos (show nI 3 = 3 from rfl), grd_t (by decide), show (0:Int32).toNatClampNeg = 0 from rfl]
    rcases IA_01 h.2.1 with ⟨l0, m0⟩ | ⟨l1, m1, hms⟩
    · rw [l0, m0, if_pos rfl, if_pos rfl]
      exact ⟨_, rfl, _, rfl, rfl, Or.inr ⟨rfl, hL⟩⟩
    · subst l1
      obtain ⟨H, hT⟩ := hI rfl
      rw [m1, if_neg (show ¬ (1:Int32) = 0 by decide), if_neg (show ¬ (1:Int32) = 0 by decide)]
      unfold X_height_j73 X_height_j103 M_height_j88
      rw [corn_eq hv, hcv, isOf_eq hv, bI_if, bI_if]
      cases ov : tg_of (fr mrg) v with
      | false => exact ⟨_, rfl, _, rfl, rfl, Or.inr ⟨rfl, hL⟩⟩
      | true =>
        obtain ⟨ra, e3, hr⟩ := raise_eq hT hL ora
        obtain ⟨z, e4, hz⟩ := mrank_eq hT hms gle gsu gma gpi gst ghe gow gfa gqu glo ghi gby gib
        rw [if_pos rfl, if_pos rfl, if_pos (show nI 3 = 3 from rfl), if_pos (show (3:Int32) ≤ nI 3 by decide), e3, wbind rfl, e4, wbind rfl, show nI 3 = 3 from rfl, level3 hv, wbind rfl, grd_t (gi_nI hv (by decide)), nI_clamp (by omega)]
        refine ⟨_, rfl, _, rfl, ?_, Or.inr ⟨rfl, hL⟩⟩
        dsimp only
        rw [hz v hv ov, hr v hv ov]
  have k3' : ¬ nI k = 3 := fun q => k3 ((nI_eq (by omega) (by omega)).mp (q.trans (show (3:Int32) = nI 3 from rfl)))
  rw [if_neg k3', if_neg k3']
  obtain ⟨le', su', ma, pi, st', he, ow', fa, qu, lo', hi', e2, hM⟩ := isTilable_eq mrg gle gsu gma gpi gst ghe gow gfa gqu glo ghi
  rw [e2, wbind rfl]
  dsimp only
  rw [bI_if, bI_if]
  cases ht : til mrg with
  | false =>
    rw [ht] at hL
    exact ⟨_, rfl, _, rfl, rfl, Or.inr ⟨rfl, hL⟩⟩
  | true =>
    rw [if_pos rfl, if_pos rfl]
    unfold X_height_j73 X_height_j103 M_height_j88 M_height_j124
    rw [corn_eq hv, hcv, isOf_eq hv, bI_if, bI_if]
    have hL' := hL
    rw [ht] at hL'
    cases ov : tg_of (fr mrg) v with
    | false => exact ⟨_, rfl, _, rfl, rfl, Or.inr ⟨rfl, hL'⟩⟩
    | true =>
      have hlo := hL.2.2.2.2.2.2 ht v hv ov
      have hlo' := hM.2 ht v hv ov
      rw [if_pos rfl, if_pos rfl, if_neg k3', if_neg (show ¬ (3:Int32) ≤ nI k from nI_ge (a := k) (b := 3) (by omega) (by decide)), grd_t (gi_nI hv (by decide)), grd_t (gi_nI hv (by decide)), nI_clamp (show v < 2 ^ 31 by omega)]
      rcases (show k = 1 ∨ k = 2 by omega) with q1 | q1 <;> subst q1
      · rw [show nI 1 = 1 from rfl, level1 hv, wbind rfl, if_pos rfl]
        refine ⟨_, rfl, _, rfl, ?_, Or.inr ⟨rfl, hL'⟩⟩
        dsimp only
        rw [hlo.1, hlo'.1]
      · rw [show nI 2 = 2 from rfl, level2 hv, wbind rfl, if_neg (show ¬ (2:Int32) = 1 by decide)]
        refine ⟨_, rfl, _, rfl, ?_, Or.inr ⟨rfl, hL'⟩⟩
        dsimp only
        rw [hlo.2, hlo'.2]
end TOLD
