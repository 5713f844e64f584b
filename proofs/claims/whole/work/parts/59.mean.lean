/-! MEAN -/
theorem mean_fin (S C : Int32) (hC : 0 < C.toInt) : nn64 (FP.ddiv (FP.i2d S) (FP.i2d C)) = true ∧ B_ofDouble (FP.ddiv (FP.i2d S) (FP.i2d C)) = some (J_Double_doubleToLongBits (FP.ddiv (FP.i2d S) (FP.i2d C))) := by
  by_cases h : S = 0
  · subst h
    have e : FP.ddiv (FP.i2d 0) (FP.i2d C) = 0 := by
      obtain ⟨E, T, e, hT, a1, a2⟩ := i2d_eq (S := C) (fun q => by rw [q] at hC; exact absurd hC (by decide))
      rw [e, show FP.i2d 0 = 0 by decide +kernel]
      show UInt64.ofNat (FP.Core.div FP.Core.b64 _ _) = _
      unfold FP.Core.div
      rw [dS_d (by omega) (by omega) hT, show (0 : UInt64).toNat = 0 from rfl, fg_dec0 gB64]
      unfold FP.Core.quotient
      dsimp only
      rw [if_neg (by omega)]
      unfold FP.Core.roundRatio
      rw [if_pos rfl]
      have hs : decide (C.toInt < 0) = false := decide_eq_false (by omega)
      rw [hs]
      have := fg_enc0 gB64 0
      unfold FP.Core.round FP.Core.roundRatio at this
      dsimp only at this
      rw [if_pos rfl] at this
      rw [show (false != false) = false from rfl, this]
      rfl
    rw [e]
    exact ⟨nn64_lt (by decide), d_zero⟩
  · obtain ⟨s, E, T, e, hT, h1, h2⟩ := ddiv_eq h hC
    rw [e]
    exact ⟨dS_nn h2 hT, dS_of h1 h2 hT⟩
section MEAN
variable {rg mrg : Int64} {ld ps pl ss es gs : Int32} {mt pw so sq eo eq go gq ms : Nat → Int32}
variable {okn : Int32} {org : Int64} {osi oti ole oto : Int32} {oow oco : Int64} {ost owa owv owh olo ohi : Nat → Int32}
theorem p_mean (h : St rg ld mt ps pl pw ss so sq es eo eq gs go gq mrg ms) (hO : IOk okn org osi oti ole oto oow oco ost owa owv owh olo ohi) (ora odi oqu : Nat → Int32) (gle gsu : Int32) (gma gpi gst ghe gow gfa gqu glo ghi : Nat → Int32) : ∃ q, X_mean rg okn org osi oti ole oto oow oco ost owa owv owh olo ohi ora odi oqu = some q ∧ ∃ q', M_mean mrg gle gsu gma gpi gst ghe gow gfa gqu glo ghi = some q' ∧ q'.1 = q.1 ∧ IOt q.2 := by
  have e := h.1.1
  subst e
  unfold X_mean M_mean
  obtain ⟨le, to, ow, co, st, wa, wv, wh', lo, hi', d, q, e, hL⟩ := look_eq hO mrg ora odi oqu
  obtain ⟨le2, su2, ma2, pi2, st2, he2, ow2, fa2, qu2, lo2, hi2, e2, hM⟩ := isTilable_eq mrg gle gsu gma gpi gst ghe gow gfa gqu glo ghi
  rw [e, wbind rfl, e2, wbind rfl]
  dsimp only
  rw [bI_if, bI_if]
  cases ht : til mrg with
  | false =>
    refine ⟨_, rfl, _, rfl, rfl, Or.inr ⟨rfl, ?_⟩⟩
    rw [← ht]
    exact hL
  | true =>
    rw [if_pos rfl, if_pos rfl]
    have hlo : ∀ v, v < 49 → tg_of (fr mrg) v = true → lo v = lo2 v := fun v hv ho => by
      rw [(hL.2.2.2.2.2.2 ht v hv ho).1, (hM.2 ht v hv ho).1]
    obtain ⟨r, l1, l2, c, hc, hr⟩ := wh_both (st1 := X_mean_s34 co wh' lo hi' ora) (st2 := M_mean_s17 mrg lo2) (B := fun r => ∃ c : Nat, (c ≤ 49 ∧ ∀ v, v < 49 → tg_of (fr mrg) v = true → 0 < c) ∧ r.1 = nI c) (fun m s => ∃ k c : Nat, k + m = 49 ∧ c ≤ k ∧ s.1 = nI c ∧ s.2.2 = nI k ∧ ∀ v, v < k → tg_of (fr mrg) v = true → 0 < c) (fun m s ⟨k, c, hk, hc, s1, s2, s3⟩ => by
      obtain ⟨x1, x2, x3⟩ := s
      dsimp only at s1 s2
      subst s1 s2
      rcases Nat.lt_or_ge k 49 with q | q
      · right
        have g : ¬ (49 : Int32) ≤ nI k := nI_ge (a := k) (b := 49) q (by decide)
        unfold X_mean_s34 M_mean_s17
        dsimp only
        rw [if_neg g, if_neg g, corn_eq q, hL.2.2.2.1 k (by omega), decide_eq_true q, Bool.true_and, isOf_eq q, bI_if, bI_if]
        cases ov : tg_of (fr mrg) k with
        | false =>
          refine ⟨m - 1, _, by omega, rfl, rfl, k + 1, c, by omega, by omega, rfl, ?_, fun v hv ho => ?_⟩
          · exact nI_1 k
          · by_cases e : v = k
            · subst e; rw [ov] at ho; cases ho
            · exact s3 v (by omega) ho
        | true =>
          rw [if_pos rfl, if_pos rfl, level1 q, wbind rfl, grd_t (gi_nI q (by decide)), nI_clamp (by omega), hlo k q ov]
          refine ⟨m - 1, _, by omega, rfl, rfl, k + 1, c + 1, by omega, by omega, nI_1 c, nI_1 k, fun v hv ho => by omega⟩
      · left
        have e : k = 49 := by omega
        subst e
        refine ⟨(nI c, x2), ?_, ?_, c, ⟨hc, s3⟩, rfl⟩
        · unfold X_mean_s34
          exact if_pos (show (49 : Int32) ≤ nI 49 by decide)
        · unfold M_mean_s17
          exact if_pos (show (49 : Int32) ≤ nI 49 by decide)) FU 49 ((0:Int32), (0:Int32), (0:Int32)) (by have := FU_big; omega) ⟨0, 0, rfl, Nat.le_refl 0, rfl, rfl, fun v hv => absurd hv (Nat.not_lt_zero _)⟩
    obtain ⟨r1, r2⟩ := r
    dsimp only at hr
    subst hr
    have hs := (til_t ht).1
    obtain ⟨w1, w2, w3, w4, _⟩ := wd_ok hs 0
    have c0 : 0 < c := hc.2 _ w1 (wd_of hs 0)
    obtain ⟨f1, f2⟩ := mean_fin r2 (nI c) (by rw [nI_toInt (by omega)]; omega)
    rw [l1, wbind rfl, l2, wbind rfl]
    dsimp only
    rw [if_neg (nI_ne0 c0 (by omega)), grd_t f1, grd_t f1, wbind f2]
    refine ⟨_, rfl, _, rfl, rfl, Or.inr ⟨rfl, ?_⟩⟩
    rw [← ht]
    exact hL
end MEAN
