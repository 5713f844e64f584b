/-! LEAST, GREATEST, a TURN, without the rank: as a set-up does them -/
theorem sR_nn {w : Int64} {mt : Nat → Int32} {H : Nat → Int} (hT : TL w mt H) : ∀ k, k ≤ 49 → ∃ z : Nat, z ≤ 400 * k ∧ sR w H k = nI z
  | 0, _ => ⟨0, Nat.le_refl _, rfl⟩
  | k + 1, hk => by
    obtain ⟨z, z1, z2⟩ := sR_nn hT k (by omega)
    have hs := (til_t hT.1).1
    show ∃ z : Nat, z ≤ 400 * (k + 1) ∧ sR w H k + (if tg_of (fr w) k = true then iZ (H k) - iZ (loZ w k) else 0) = nI z
    by_cases ov : tg_of (fr w) k = true
    · rw [if_pos ov]
      have b1 := TL_b hT (show k < 49 by omega) ov
      have b2 := lo_b hs (show k < 49 by omega) ov
      obtain ⟨⟨i, i1, i2⟩, _⟩ := loZ_spec hs k
      have p := TL_path hT (show k < 49 by omega) (dd_spec (reach_w hs ov (wd_of hs i))).1
      have hw := hT.2.2.1 i i1
      have ge : loZ w k ≤ H k := by omega
      obtain ⟨d, ed⟩ : ∃ d : Nat, H k - loZ w k = d := ⟨(H k - loZ w k).toNat, by omega⟩
      refine ⟨z + d, by omega, ?_⟩
      rw [iZ_sub, ed, ← iZ_nI, z2, nI_add]
    · rw [if_neg ov]
      exact ⟨z, by omega, by rw [z2]; exact Int32.add_zero _⟩
theorem rank_nn {w : Int64} {mt : Nat → Int32} {H : Nat → Int} (hT : TL w mt H) : ¬ sR w H 49 / 4 < (0:Int32) := by
  obtain ⟨z, z1, z2⟩ := sR_nn hT 49 (Nat.le_refl _)
  rw [z2, show nI z / (4:Int32) = nI (z / 4) from pk_div (by omega) (by decide) (by decide)]
  exact nI_pos (by omega)
section CARRY
variable {rg mrg : Int64} {ld ps pl ss es gs : Int32} {mt pw so sq eo eq go gq ms : Nat → Int32}
variable {okn : Int32} {org : Int64} {osi oti ole oto : Int32} {oow oco : Int64} {ost owa owv owh olo ohi : Nat → Int32}
theorem c_lay (b : Bool) (h : St rg ld mt ps pl pw ss so sq es eo eq gs go gq mrg ms) (hI : TI rg ld mt) (hO : IOk okn org osi oti ole oto oow oco ost owa owv owh olo ohi) (ora odi oqu : Nat → Int32) (gle gsu : Int32) (gma gpi gst ghe gow gfa gqu glo ghi gby gib : Nat → Int32) : ∃ q, S_layDown (bI b) rg ld mt okn org osi oti ole oto oow oco ost owa owv owh olo ohi ora odi oqu = some q ∧ ∃ q', M_lay (bI b) mrg gle gsu ms gma gpi gst ghe gow gfa gqu glo ghi gby gib = some q' ∧ (if q'.1 < 0 then (0:Int32) else 1) = q.1 ∧ (q.1 = 0 ∨ q.1 = 1) ∧ St rg q.2.1 q.2.2.1 ps pl pw ss so sq es eo eq gs go gq mrg q'.2.2.2.1 ∧ TI rg q.2.1 q.2.2.1 ∧ IOt q.2.2.2 := by
  have e := h.1.1
  subst e
  have x2 : M_isIn (bI b) 0 1 = 1 := by cases b <;> decide
  unfold M_lay
  rw [x2, if_neg (show ¬ (1:Int32) = 0 by decide)]
  obtain ⟨le, to, ow, co, st, wa, wv, wh', lo, hi, d, q, hL, hs⟩ := slay_eq (rg := mrg) b hO ora odi oqu ld mt
  obtain ⟨le', su', ma, pi, st', he, ow', fa, qu, lo', hi', e, hM⟩ := isTilable_eq mrg gle gsu gma gpi gst ghe gow gfa gqu glo ghi
  rw [e, wbind rfl]
  dsimp only
  rcases hs with ⟨ht, es⟩ | ⟨ht, f, es, hf⟩
  · refine ⟨_, es, ?_⟩
    rw [ht, if_pos (show bI false = 0 from rfl)]
    rw [ht] at hL
    exact ⟨_, rfl, if_pos (show (-3:Int32) < 0 by decide), Or.inl rfl, h, hI, Or.inr ⟨rfl, hL⟩⟩
  · obtain ⟨g1, g2, g3⟩ := layH ht b
    have hT : TL mrg f (if b then hiZ mrg else loZ mrg) := TL_lay ht g1 g2 hf
    obtain ⟨f2, e2, n0, n1, n2⟩ := mlays_eq b ht (hM.2 ht) ms
    have hms : ∀ c, c < 36 → f c = f2 (6 + c) := fun c hc => by rw [hf c hc, n1 c hc]
    refine ⟨_, es, ?_⟩
    rw [e2, wbind rfl, ht]
    dsimp only
    rw [if_neg (show ¬ bI true = 0 by decide)]
    obtain ⟨z, e4, _⟩ := mrank_eq hT hms le' su' ma pi st' he ow' fa qu lo' hi' gby gib
    rw [e4, wbind rfl]
    rw [ht] at hL
    refine ⟨_, rfl, ?_, Or.inr rfl, ?_, fun _ => ⟨_, hT⟩, Or.inr ⟨rfl, hL⟩⟩
    · dsimp only
      rw [if_neg (rank_nn hT)]
    · exact St_tile h h.1 (Or.inr ⟨rfl, n0, hms, trivial⟩) n2
theorem c_turn {v : Nat} (hv : v < 49) (h : St rg ld mt ps pl pw ss so sq es eo eq gs go gq mrg ms) (hI : TI rg ld mt) (gle gsu : Int32) (gma gpi gst ghe gow gfa gqu glo ghi gby gib : Nat → Int32) : ∃ q, S_turnAt (nI v) ld mt = some q ∧ ∃ q', M_turn (nI v) mrg gle gsu ms gma gpi gst ghe gow gfa gqu glo ghi gby gib = some q' ∧ (if q'.1 < 0 then (0:Int32) else 1) = q.1 ∧ (q.1 = 0 ∨ q.1 = 1) ∧ St rg ld q.2 ps pl pw ss so sq es eo eq gs go gq mrg q'.2.2.2.1 ∧ TI rg ld q.2 := by
  have e := h.1.1
  subst e
  have iv : M_isVertex (nI v) = 1 := (by decide +kernel : ∀ v, v < 49 → M_isVertex (nI v) = 1) v hv
  have hA := h.2.1
  -- nothing is turned
  have no : S_turnAt (nI v) ld mt = some (0, mt) → (∃ q', M_turn (nI v) mrg gle gsu ms gma gpi gst ghe gow gfa gqu glo ghi gby gib = some q' ∧ q'.1 = -3 ∧ q'.2.2.2.1 = ms) → ∃ q, S_turnAt (nI v) ld mt = some q ∧ ∃ q', M_turn (nI v) mrg gle gsu ms gma gpi gst ghe gow gfa gqu glo ghi gby gib = some q' ∧ (if q'.1 < 0 then (0:Int32) else 1) = q.1 ∧ (q.1 = 0 ∨ q.1 = 1) ∧ St mrg ld q.2 ps pl pw ss so sq es eo eq gs go gq mrg q'.2.2.2.1 ∧ TI mrg ld q.2 := fun e1 ⟨q', e2, e3, e4⟩ => by
    refine ⟨_, e1, q', e2, ?_, Or.inl rfl, ?_, hI⟩
    · rw [e3]
      exact if_pos (show (-3:Int32) < 0 by decide)
    · rw [e4]
      exact h
  rcases IA_01 hA with ⟨l0, m0⟩ | ⟨l1, m1, hms⟩
  · subst l0
    refine no (turnAt_0 hv mt) ⟨(-3, gle, gsu, ms, gma, gpi, gst, ghe, gow, gfa, gqu, glo, ghi, gby, gib), ?_, rfl, rfl⟩
    · unfold M_turn M_turn_j46
      rw [iv, if_neg (show ¬ (1:Int32) = 0 by decide), grd_t (by decide), show (0:Int32).toNatClampNeg = 0 from rfl, m0, if_pos rfl]
  · subst l1
    obtain ⟨H, hT⟩ := hI rfl
    cases hin : inB7 v with
    | false =>
      refine no (turnAt_out hv hin 1 mt) ⟨(-3, gle, gsu, ms, gma, gpi, gst, ghe, gow, gfa, gqu, glo, ghi, gby, gib), ?_, rfl, rfl⟩
      unfold M_turn M_turn_j46
      rw [iv, if_neg (show ¬ (1:Int32) = 0 by decide), grd_t (by decide), show (0:Int32).toNatClampNeg = 0 from rfl, m1, if_neg (show ¬ (1:Int32) = 0 by decide)]
      rcases tu_out2 v hv hin with t | ⟨t, t'⟩
      · rw [t, if_pos rfl]
      · rw [t, t', if_neg (show ¬ (1:Int32) = 0 by decide), if_pos rfl]
    | true =>
      obtain ⟨_, _, _, l1, l2⟩ := tu_in2 v hv hin
      have hX := turnAt_in hv hin mt
      have hM := mturn_in (mrg := mrg) hv hin m1 gle gsu gma gpi gst ghe gow gfa gqu glo ghi gby gib
      generalize ta v = t at *
      have h0 := hms t (by omega)
      have h7 := hms (t + 7) (by omega)
      have yes : ∀ b c : Nat, ((b = t + 1 ∧ c = t + 6) ∨ (b = t + 6 ∧ c = t + 1)) → mt t = nI b → mt c = nI (t + 7) → S_turnAt (nI v) 1 mt = some (1, tm mt t b c) → M_turn (nI v) mrg gle gsu ms gma gpi gst ghe gow gfa gqu glo ghi gby gib = Option.bind (M_rank mrg gle gsu (tmM ms t b c) gma gpi gst ghe gow gfa gqu glo ghi gby gib) (fun q7 => some (q7.1, q7.2.1, q7.2.2.1, tmM ms t b c, q7.2.2.2.1, q7.2.2.2.2.1, q7.2.2.2.2.2.1, q7.2.2.2.2.2.2.1, q7.2.2.2.2.2.2.2.1, q7.2.2.2.2.2.2.2.2.1, q7.2.2.2.2.2.2.2.2.2.1, q7.2.2.2.2.2.2.2.2.2.2.1, q7.2.2.2.2.2.2.2.2.2.2.2.1, q7.2.2.2.2.2.2.2.2.2.2.2.2.1, q7.2.2.2.2.2.2.2.2.2.2.2.2.2)) → ∃ q, S_turnAt (nI v) 1 mt = some q ∧ ∃ q', M_turn (nI v) mrg gle gsu ms gma gpi gst ghe gow gfa gqu glo ghi gby gib = some q' ∧ (if q'.1 < 0 then (0:Int32) else 1) = q.1 ∧ (q.1 = 0 ∨ q.1 = 1) ∧ St mrg 1 q.2 ps pl pw ss so sq es eo eq gs go gq mrg q'.2.2.2.1 ∧ TI mrg 1 q.2 := fun b c hbc k1 k3 eX eM => by
        have hb36 : b < 36 ∧ c < 36 := by omega
        obtain ⟨H', hT'⟩ := TL_turn (mt' := tm mt t b c) hT l1 l2 hbc k1 (TL_sym hT (by omega) hb36.1 k1) k3 (TL_sym hT hb36.2 (by omega) k3) (fun x _ => tm_hm hbc x)
        have hms' : ∀ x, x < 36 → tm mt t b c x = tmM ms t b c (6 + x) := fun x hx => tmM_6 ms mt hms hx
        obtain ⟨z, e4, _⟩ := mrank_eq hT' hms' gle gsu gma gpi gst ghe gow gfa gqu glo ghi gby gib
        refine ⟨_, eX, ?_⟩
        rw [eM, e4, wbind rfl]
        refine ⟨_, rfl, ?_, Or.inr rfl, ?_, fun _ => ⟨H', hT'⟩⟩
        · dsimp only
          rw [if_neg (rank_nn hT')]
        refine St_tile h h.1 (Or.inr ⟨rfl, ?_, hms', trivial⟩) (fun j j0 j1 => tmM_off ms (by omega) hb36.1 hb36.2 j1)
        show tmM ms t b c 0 = 1
        rw [tmM_off ms (by omega) hb36.1 hb36.2 (Or.inl (by decide)), m1]
      by_cases r1 : mt t = nI (t + 1) ∧ mt (t + 6) = nI (t + 7)
      · refine yes (t + 1) (t + 6) (Or.inl ⟨rfl, rfl⟩) r1.1 r1.2 (by rw [hX, if_pos r1]) ?_
        rw [hM, if_pos ⟨by rw [← h0]; exact r1.1, by rw [← h7]; exact TL_sym hT (by omega) (by omega) r1.2⟩]
      · have r1' : ¬ (ms (6 + t) = nI (t + 1) ∧ ms (6 + (t + 7)) = nI (t + 6)) := fun q => r1 ⟨by rw [h0]; exact q.1, TL_sym hT (by omega) (by omega) (by rw [h7]; exact q.2)⟩
        rw [if_neg r1] at hX
        rw [if_neg r1'] at hM
        by_cases r2 : mt t = nI (t + 6) ∧ mt (t + 1) = nI (t + 7)
        · refine yes (t + 6) (t + 1) (Or.inr ⟨rfl, rfl⟩) r2.1 r2.2 (by rw [hX, if_pos r2]) ?_
          rw [hM, if_pos ⟨by rw [← h0]; exact r2.1, by rw [← h7]; exact TL_sym hT (by omega) (by omega) r2.2⟩]
        · have r2' : ¬ (ms (6 + t) = nI (t + 6) ∧ ms (6 + (t + 7)) = nI (t + 1)) := fun q => r2 ⟨by rw [h0]; exact q.1, TL_sym hT (by omega) (by omega) (by rw [h7]; exact q.2)⟩
          rw [if_neg r2] at hX
          rw [if_neg r2'] at hM
          exact no hX ⟨_, hM, rfl, rfl⟩
end CARRY
