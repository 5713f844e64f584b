/-! RANK; lay and turn on both sides -/
noncomputable def sR (w : Int64) (H : Nat → Int) : Nat → Int32
  | 0 => 0
  | k + 1 => sR w H k + (if tg_of (fr w) k = true then iZ (H k) - iZ (loZ w k) else 0)
theorem above_eq {w : Int64} {H : Nat → Int} {v1 : Int32} {oco : Int64} {owh olo ohi ora lv : Nat → Int32} (hco : ∀ i, i < 64 → b6 oco i = (decide (i < 49) && tg_of (fr w) i)) (hlv : ∀ v, v < 49 → O_level (nI v) v1 owh olo ohi ora = some (lv v)) (h1 : ∀ v, v < 49 → tg_of (fr w) v = true → lv v = iZ (H v)) (h2 : ∀ v, v < 49 → tg_of (fr w) v = true → olo v = iZ (loZ w v)) : O_above v1 oco owh olo ohi ora = some (sR w H 49 / 4) := by
  unfold O_above
  have := wh_for (st := O_above_s4 v1 oco owh olo ohi ora) (r := sR w H 49) (fun k => (sR w H k, nI k)) 49 (fun k hk => by
      unfold O_above_s4 O_above_j34
      dsimp only
      rw [if_neg (show ¬ (49 : Int32) ≤ nI k from nI_ge (a := k) (b := 49) hk (by decide)), corn_eq hk, hco k (by omega), decide_eq_true hk, Bool.true_and, bI_if, nI_1]
      show _ = some (Sum.inl (sR w H k + (if tg_of (fr w) k = true then iZ (H k) - iZ (loZ w k) else 0), nI (k + 1)))
      cases ok : tg_of (fr w) k with
      | false =>
        rw [if_neg (by decide), if_neg (by decide)]
        rw [Int32.add_zero]
      | true =>
        rw [if_pos rfl, if_pos rfl, hlv k hk, wbind rfl, grd_t (gi_nI hk (by decide)), nI_clamp (by omega), h1 k hk ok, h2 k hk ok]
        rw [Int32.sub_eq_add_neg, Int32.sub_eq_add_neg, Int32.add_assoc]) (by
      unfold O_above_s4
      dsimp only
      rw [if_pos (by decide)]) (by decide)
  exact wbind this
theorem mrank_sum {w : Int64} {H : Nat → Int} {lo by' : Nat → Int32} (h1 : ∀ v, v < 49 → tg_of (fr w) v = true → by' v = iZ (H v)) (h2 : ∀ v, v < 49 → tg_of (fr w) v = true → lo v = iZ (loZ w v)) : wh (M_rank_s13 w lo by') FU ((0:Int32), (0:Int32)) = some (sR w H 49) := by
  refine wh_for (st := M_rank_s13 w lo by') (r := sR w H 49) (fun k => (sR w H k, nI k)) 49 (fun k hk => ?_) ?_ (by decide)
  · unfold M_rank_s13 M_rank_j45
    dsimp only
    rw [if_neg (show ¬ (49 : Int32) ≤ nI k from nI_ge (a := k) (b := 49) hk (by decide)), isOf_eq hk, bI_if, nI_1]
    show _ = some (Sum.inl (sR w H k + (if tg_of (fr w) k = true then iZ (H k) - iZ (loZ w k) else 0), nI (k + 1)))
    cases ok : tg_of (fr w) k with
    | false => rw [if_neg (by decide), if_neg (by decide)]
    | true => rw [if_pos rfl, if_pos rfl, grd_t (gi_nI hk (by decide)), grd_t (gi_nI hk (by decide)), nI_clamp (by omega), h1 k hk ok, h2 k hk ok]
  · unfold M_rank_s13
    dsimp only
    rw [if_pos (by decide)]
theorem mgreat_sum {w : Int64} {H : Nat → Int} {lo hi : Nat → Int32} (h1 : ∀ v, v < 49 → tg_of (fr w) v = true → hi v = iZ (H v)) (h2 : ∀ v, v < 49 → tg_of (fr w) v = true → lo v = iZ (loZ w v)) : wh (M_rankOfGreatest_s14 w lo hi) FU ((0:Int32), (0:Int32)) = some (sR w H 49) := by
  refine wh_for (st := M_rankOfGreatest_s14 w lo hi) (r := sR w H 49) (fun k => (sR w H k, nI k)) 49 (fun k hk => ?_) ?_ (by decide)
  · unfold M_rankOfGreatest_s14 M_rankOfGreatest_j46
    dsimp only
    rw [if_neg (show ¬ (49 : Int32) ≤ nI k from nI_ge (a := k) (b := 49) hk (by decide)), isOf_eq hk, bI_if, nI_1]
    show _ = some (Sum.inl (sR w H k + (if tg_of (fr w) k = true then iZ (H k) - iZ (loZ w k) else 0), nI (k + 1)))
    cases ok : tg_of (fr w) k with
    | false => rw [if_neg (by decide), if_neg (by decide)]
    | true => rw [if_pos rfl, if_pos rfl, grd_t (gi_nI hk (by decide)), grd_t (gi_nI hk (by decide)), nI_clamp (by omega), h1 k hk ok, h2 k hk ok]
  · unfold M_rankOfGreatest_s14
    dsimp only
    rw [if_pos (by decide)]
theorem level1 {v : Nat} (hv : v < 49) (a b c d : Nat → Int32) : O_level (nI v) 1 a b c d = some (b v) := by
  unfold O_level
  rw [isV_y v hv, if_neg (show ¬ (1:Int32) = 0 by decide), if_neg (show ¬ (1:Int32) = 0 by decide), if_pos rfl, grd_t (gi_nI hv (by decide)), nI_clamp (by omega)]
theorem level2 {v : Nat} (hv : v < 49) (a b c d : Nat → Int32) : O_level (nI v) 2 a b c d = some (c v) := by
  unfold O_level
  rw [isV_y v hv, if_neg (show ¬ (1:Int32) = 0 by decide), if_neg (show ¬ (2:Int32) = 0 by decide), if_neg (show ¬ (2:Int32) = 1 by decide), if_pos rfl, grd_t (gi_nI hv (by decide)), nI_clamp (by omega)]
theorem level3 {v : Nat} (hv : v < 49) (a b c d : Nat → Int32) : O_level (nI v) 3 a b c d = some (d v) := by
  unfold O_level
  rw [isV_y v hv, if_neg (show ¬ (1:Int32) = 0 by decide), if_neg (show ¬ (3:Int32) = 0 by decide), if_neg (show ¬ (3:Int32) = 1 by decide), if_neg (show ¬ (3:Int32) = 2 by decide), grd_t (gi_nI hv (by decide)), nI_clamp (by omega)]
section RANK
variable {rg : Int64} {mt : Nat → Int32} {H : Nat → Int}
theorem srank_eq (hT : TL rg mt H) {okn : Int32} {org : Int64} {osi oti ole oto : Int32} {oow oco : Int64} {ost owa owv owh olo ohi : Nat → Int32} (hO : IOk okn org osi oti ole oto oow oco ost owa owv owh olo ohi) (ora odi oqu : Nat → Int32) : ∃ le to ow co st wa wv wh' lo hi ra d q, S_rank rg 1 mt okn org osi oti ole oto oow oco ost owa owv owh olo ohi ora odi oqu = some (sR rg H 49 / 4, 1, rg, bI (smp rg), bI (til rg), le, to, ow, co, st, wa, wv, wh', lo, hi, ra, d, q) ∧ LK rg (bI (smp rg)) (bI (til rg)) le to ow co st wa wv wh' lo hi := by
  obtain ⟨le, to, ow, co, st, wa, wv, wh', lo, hi, d, q, e, hL⟩ := look_eq hO rg ora odi oqu
  unfold S_rank
  rw [e, wbind rfl]
  dsimp only
  obtain ⟨ra, e2, hr⟩ := raise_eq hT hL ora
  rw [e2, wbind rfl]
  have hlo := hL.2.2.2.2.2.2 hT.1
  rw [above_eq (w := rg) (H := H) (lv := ra) hL.2.2.2.1 (fun v hv => level3 hv _ _ _ _) hr (fun v hv ov => (hlo v hv ov).1), wbind rfl]
  exact ⟨le, to, ow, co, st, wa, wv, wh', lo, hi, ra, d, q, rfl, hL⟩
theorem mrank_eq (hT : TL rg mt H) {ms : Nat → Int32} (hms : ∀ c, c < 36 → mt c = ms (6 + c)) (gle gsu : Int32) (gma gpi gst ghe gow gfa gqu glo ghi gby gib : Nat → Int32) : ∃ q, M_rank rg gle gsu ms gma gpi gst ghe gow gfa gqu glo ghi gby gib = some (sR rg H 49 / 4, q) ∧ (∀ x, x < 49 → tg_of (fr rg) x = true → q.2.2.2.2.2.2.2.2.2.2.2.1 x = iZ (H x)) := by
  unfold M_rank
  obtain ⟨le, su, ma, pi, st, he, ow, fa, qu, lo, hi, e, hM⟩ := isTilable_eq rg gle gsu gma gpi gst ghe gow gfa gqu glo ghi
  rw [e, wbind rfl]
  dsimp only
  obtain ⟨_, _, hw⟩ := hM.1 (til_t hT.1).1
  obtain ⟨b, ib, e2, hb⟩ := heights_eq hT hms hw gby gib
  rw [e2, wbind rfl]
  dsimp only
  have hlo := hM.2 hT.1
  rw [mrank_sum (H := H) hb (fun v hv ov => (hlo v hv ov).1), wbind rfl]
  exact ⟨_, rfl, hb⟩
end RANK
/-- a tiling that is laid -/
def TI (rg : Int64) (ld : Int32) (mt : Nat → Int32) : Prop := ld = 1 → ∃ H, TL rg mt H
section OPL
variable {rg mrg : Int64} {ld ps pl ss es gs : Int32} {mt pw so sq eo eq go gq ms : Nat → Int32}
variable {okn : Int32} {org : Int64} {osi oti ole oto : Int32} {oow oco : Int64} {ost owa owv owh olo ohi : Nat → Int32}
theorem IA_01 {w : Int64} (h : IA w ld mt ms) : (ld = 0 ∧ ms 0 = 0) ∨ (ld = 1 ∧ ms 0 = 1 ∧ ∀ c, c < 36 → mt c = ms (6 + c)) := by
  rcases h with ⟨a, b, _⟩ | ⟨a, b, c, _⟩
  · exact Or.inl ⟨a, b⟩
  · exact Or.inr ⟨a, b, c⟩
theorem layH {w : Int64} (ht : til w = true) (b : Bool) : upZ w (if b then hiZ w else loZ w) ∧ (∀ i, i < wd_p w → (if b then hiZ w else loZ w) (wdv w i) = wd_h w i) ∧ (∀ v, v < 49 → tg_of (fr w) v = true → -200 ≤ (if b then hiZ w else loZ w) v ∧ (if b then hiZ w else loZ w) v ≤ 200) := by
  have hT := til_t ht
  cases b with
  | false => exact ⟨lo_up hT.1, fun i hi => lo_word hT hi, fun v hv ov => lo_b hT.1 hv ov⟩
  | true => exact ⟨hi_up hT.1, fun i hi => hi_word hT hi, fun v hv ov => hi_b hT.1 hv ov⟩
theorem slay_eq (b : Bool) (hO : IOk okn org osi oti ole oto oow oco ost owa owv owh olo ohi) (ora odi oqu : Nat → Int32) (ld : Int32) (mt : Nat → Int32) : ∃ le to ow co st wa wv wh' lo hi d q, LK rg (bI (smp rg)) (bI (til rg)) le to ow co st wa wv wh' lo hi ∧ ((til rg = false ∧ S_layDown (bI b) rg ld mt okn org osi oti ole oto oow oco ost owa owv owh olo ohi ora odi oqu = some (0, ld, mt, 1, rg, bI (smp rg), bI (til rg), le, to, ow, co, st, wa, wv, wh', lo, hi, d, q)) ∨ (til rg = true ∧ ∃ f, S_layDown (bI b) rg ld mt okn org osi oti ole oto oow oco ost owa owv owh olo ohi ora odi oqu = some (1, 1, f, 1, rg, bI (smp rg), bI (til rg), le, to, ow, co, st, wa, wv, wh', lo, hi, d, q) ∧ ∀ x, x < 36 → f x = lm (spR rg (if b then hiZ rg else loZ rg)) (spB rg (if b then hiZ rg else loZ rg)) 36 x)) := by
  obtain ⟨le, to, ow, co, st, wa, wv, wh', lo, hi, d, q, e, hL⟩ := look_eq hO rg ora odi oqu
  refine ⟨le, to, ow, co, st, wa, wv, wh', lo, hi, d, q, hL, ?_⟩
  unfold S_layDown
  rw [e, wbind rfl]
  dsimp only
  rw [bI_if]
  cases ht : til rg with
  | false =>
    left
    exact ⟨rfl, by rw [if_neg (by decide)]⟩
  | true =>
    right
    obtain ⟨g1, g2, g3⟩ := layH ht b
    have hlh := hL.2.2.2.2.2.2 ht
    have hlv : ∀ v, v < 49 → O_level (nI v) (if bI b = (0:Int32) then (1:Int32) else (2:Int32)) wh' lo hi ora = some ((if b then hi else lo) v) := fun v hv => by
      cases b with
      | false => exact level1 hv _ _ _ _
      | true => exact level2 hv _ _ _ _
    obtain ⟨f, ef, hf⟩ := xlay_all (w := rg) (H := if b then hiZ rg else loZ rg) (lv := if b then hi else lo) hlv (fun v hv ov => ⟨by
      cases b with
      | false => exact (hlh v hv ov).1
      | true => exact (hlh v hv ov).2, (g3 v hv ov).1, (g3 v hv ov).2⟩) g1 mt
    rw [if_pos rfl, fillI4_eq, wbind rfl, ef, wbind rfl]
    exact ⟨rfl, f, rfl, hf⟩
theorem mlays_eq (b : Bool) (ht : til rg = true) {glo ghi : Nat → Int32} (h : ∀ v, v < 49 → tg_of (fr rg) v = true → glo v = iZ (loZ rg v) ∧ ghi v = iZ (hiZ rg v)) (ms : Nat → Int32) : ∃ f, M_lays (bI b) rg ms glo ghi = some f ∧ f 0 = 1 ∧ (∀ x, x < 36 → f (6 + x) = lm (spR rg (if b then hiZ rg else loZ rg)) (spB rg (if b then hiZ rg else loZ rg)) 36 x) ∧ ∀ j, j ≠ 0 → (j < 6 ∨ 42 ≤ j) → f j = ms j := by
  obtain ⟨g1, g2, g3⟩ := layH ht b
  refine mlay_all (w := rg) (H := if b then hiZ rg else loZ rg) (lv := if b then ghi else glo) ?_ (fun v hv ov => ⟨?_, (g3 v hv ov).1, (g3 v hv ov).2⟩) g1 ms
  · cases b with
    | false => exact Or.inl ⟨rfl, rfl⟩
    | true => exact Or.inr ⟨by decide, rfl⟩
  · cases b with
    | false => exact (h v hv ov).1
    | true => exact (h v hv ov).2
theorem p_lay (a : Int32) (h : St rg ld mt ps pl pw ss so sq es eo eq gs go gq mrg ms) (hI : TI rg ld mt) (hO : IOk okn org osi oti ole oto oow oco ost owa owv owh olo ohi) (ora odi oqu : Nat → Int32) (gle gsu : Int32) (gma gpi gst ghe gow gfa gqu glo ghi gby gib : Nat → Int32) : ∃ q, X_lay a rg ld mt okn org osi oti ole oto oow oco ost owa owv owh olo ohi ora odi oqu = some q ∧ ∃ q', M_lay a mrg gle gsu ms gma gpi gst ghe gow gfa gqu glo ghi gby gib = some q' ∧ q'.1 = q.1 ∧ St rg q.2.1 q.2.2.1 ps pl pw ss so sq es eo eq gs go gq mrg q'.2.2.2.1 ∧ TI rg q.2.1 q.2.2.1 ∧ IOk q.2.2.2.1 q.2.2.2.2.1 q.2.2.2.2.2.1 q.2.2.2.2.2.2.1 q.2.2.2.2.2.2.2.1 q.2.2.2.2.2.2.2.2.1 q.2.2.2.2.2.2.2.2.2.1 q.2.2.2.2.2.2.2.2.2.2.1 q.2.2.2.2.2.2.2.2.2.2.2.1 q.2.2.2.2.2.2.2.2.2.2.2.2.1 q.2.2.2.2.2.2.2.2.2.2.2.2.2.1 q.2.2.2.2.2.2.2.2.2.2.2.2.2.2.1 q.2.2.2.2.2.2.2.2.2.2.2.2.2.2.2.1 q.2.2.2.2.2.2.2.2.2.2.2.2.2.2.2.2.1 := by
  have e := h.1.1
  subst e
  have bad : (a = 0 ∨ a = 1) ∨ ((X_isBit a = 0) ∧ M_isIn a 0 1 = 0) := by
    rcases tri a (m := 1) (m1 := 2) (n := 1) rfl rfl (by decide) with ⟨y1, y2, y3⟩ | ⟨y1, y2, y3, y4, y5, y6, y7⟩ | ⟨j, hj, ej, y1, y2, y3, y4, y5, y6, y7⟩
    · right
      refine ⟨?_, y3⟩
      unfold X_isBit
      rw [if_neg (show ¬ a = 0 from fun q => y2 (by rw [q]; decide)), if_neg (show ¬ a = 1 from fun q => y2 (by rw [q]; decide))]
    · right
      refine ⟨?_, y7⟩
      unfold X_isBit
      rw [if_neg (show ¬ a = 0 from fun q => y3 (by rw [q]; decide)), if_neg (show ¬ a = 1 from fun q => y3 (by rw [q]; decide))]
    · left
      rcases (show j = 0 ∨ j = 1 by omega) with q | q <;> subst q
      · exact Or.inl ej
      · exact Or.inr ej
  rcases bad with hb | ⟨b1, b2⟩
  rotate_left
  · unfold X_lay M_lay
    rw [b1, b2, if_pos rfl, if_pos rfl]
    exact ⟨_, rfl, _, rfl, rfl, h, hI, hO⟩
  obtain ⟨b, eb⟩ : ∃ b : Bool, a = bI b := by
    rcases hb with q | q
    · exact ⟨false, q⟩
    · exact ⟨true, q⟩
  subst eb
  have x1 : X_isBit (bI b) = 1 := by cases b <;> decide
  have x2 : M_isIn (bI b) 0 1 = 1 := by cases b <;> decide
  have x3 : (if bI b = (1:Int32) then (1:Int32) else 0) = bI b := by cases b <;> decide
  unfold X_lay M_lay
  rw [x1, x2, x3, if_neg (show ¬ (1:Int32) = 0 by decide), if_neg (show ¬ (1:Int32) = 0 by decide)]
  obtain ⟨le, to, ow, co, st, wa, wv, wh', lo, hi, d, q, hL, hs⟩ := slay_eq (rg := mrg) b hO ora odi oqu ld mt
  obtain ⟨le', su', ma, pi, st', he, ow', fa, qu, lo', hi', e, hM⟩ := isTilable_eq mrg gle gsu gma gpi gst ghe gow gfa gqu glo ghi
  rw [e, wbind rfl]
  dsimp only
  rcases hs with ⟨ht, es⟩ | ⟨ht, f, es, hf⟩
  · rw [es, wbind rfl, ht]
    dsimp only
    rw [if_pos rfl, if_pos (show bI false = 0 from rfl)]
    rw [ht] at hL
    exact ⟨_, rfl, _, rfl, rfl, h, hI, Or.inr ⟨rfl, hL⟩⟩
  · obtain ⟨g1, g2, g3⟩ := layH ht b
    have hT : TL mrg f (if b then hiZ mrg else loZ mrg) := TL_lay ht g1 g2 hf
    obtain ⟨f2, e2, n0, n1, n2⟩ := mlays_eq b ht (hM.2 ht) ms
    have hms : ∀ c, c < 36 → f c = f2 (6 + c) := fun c hc => by rw [hf c hc, n1 c hc]
    rw [es, wbind rfl]
    dsimp only
    rw [if_neg (show ¬ (1:Int32) = 0 by decide)]
    obtain ⟨le2, to2, ow2, co2, st2, wa2, wv2, wh2, lo2, hi2, ra2, d2, q2, e3, hL2⟩ := srank_eq hT (Or.inr ⟨rfl, hL⟩) ora d q
    rw [e3, wbind rfl, e2, wbind rfl, ht]
    dsimp only
    rw [if_neg (show ¬ bI true = 0 by decide)]
    obtain ⟨z, e4, _⟩ := mrank_eq hT hms le' su' ma pi st' he ow' fa qu lo' hi' gby gib
    rw [e4, wbind rfl]
    rw [ht] at hL2
    refine ⟨_, rfl, _, rfl, rfl, ?_, fun _ => ⟨_, hT⟩, Or.inr ⟨rfl, hL2⟩⟩
    exact St_tile h h.1 (Or.inr ⟨rfl, n0, hms, trivial⟩) n2
end OPL
