/-! STONES: the class's loops over its coverings -/
theorem adv_wh {k : Nat} : ∀ (m n : Nat) (s t : St4) (L : List Lf) (i fuel : Nat), Rn k m n s L t → t.1 = -1 → i + n < 1000000 → n < fuel → (L = [] → wh (N_advance_s24 (nI k)) fuel (nI i, s) = some (Sum.inr t)) ∧ (∀ l L', L = l :: L' → ∃ m' n' s' d, n' ≤ n ∧ wh (N_advance_s24 (nI k)) fuel (nI i, s) = some (Sum.inl s') ∧ s'.1 = nI d ∧ d ≤ 18 ∧ LM d s' l ∧ Rn k m' n' (s'.1 - 1, s'.2) L' t)
  | 0, n, s, t, L, i, fuel, h, ht, hi, hf => by
    rw [Rn_0] at h
    obtain ⟨a, b, c⟩ := h
    subst a b c
    refine ⟨fun _ => ?_, fun l L' q => by cases q⟩
    obtain ⟨F, rfl⟩ : ∃ F, fuel = F + 1 := ⟨fuel - 1, by omega⟩
    obtain ⟨s1, sop, str, spr⟩ := t
    dsimp only at ht
    subst ht
    refine wh_inr ?_
    unfold N_advance_s24
    dsimp only
    rw [if_neg (show ¬ (1000000:Int32) ≤ nI i from nI_ge (a := i) (b := 1000000) (by omega) (by decide)), if_pos (by decide)]
  | m + 1, n, s, t, L, i, fuel, h, ht, hi, hf => by
    rw [Rn_s] at h
    obtain ⟨d, hd, e, c⟩ := h
    obtain ⟨F, rfl⟩ : ∃ F, fuel = F + 1 := ⟨fuel - 1, by omega⟩
    obtain ⟨s1, sop, str, spr⟩ := s
    dsimp only at e c
    subst e
    rcases c with ⟨z, n', s2, en, et, h⟩ | ⟨z, l, L', el, lm, h⟩
    · subst en
      obtain ⟨x1, xo, xt, xp⟩ := s2
      have E : N_advance_s24 (nI k) (nI i, nI d, sop, str, spr) = some (Sum.inl (nI (i + 1), x1, xo, xt, xp)) := by
        unfold N_advance_s24
        dsimp only
        rw [if_neg (show ¬ (1000000:Int32) ≤ nI i from nI_ge (a := i) (b := 1000000) (by omega) (by decide)), if_neg (nI_pos (by omega)), if_neg (show ¬ (18:Int32) < nI d from nI_nlt (a := 18) (b := d) hd (by decide)), grd_t (gi_nI (by omega) (by decide)), nI_clamp (by omega), if_neg z, et, wbind rfl, nI_1]
      rw [wh_inl E]
      obtain ⟨r1, r2⟩ := adv_wh m n' (x1, xo, xt, xp) t L (i + 1) F h ht (by omega) (by omega)
      refine ⟨r1, fun l L' q => ?_⟩
      obtain ⟨m', n'', s', d', a1, a2⟩ := r2 l L' q
      exact ⟨m', n'', s', d', by omega, a2⟩
    · have E : N_advance_s24 (nI k) (nI i, nI d, sop, str, spr) = some (Sum.inr (Sum.inl (nI d, sop, str, spr))) := by
        unfold N_advance_s24
        dsimp only
        rw [if_neg (show ¬ (1000000:Int32) ≤ nI i from nI_ge (a := i) (b := 1000000) (by omega) (by decide)), if_neg (nI_pos (by omega)), if_neg (show ¬ (18:Int32) < nI d from nI_nlt (a := 18) (b := d) hd (by decide)), grd_t (gi_nI (by omega) (by decide)), nI_clamp (by omega), if_pos z]
      rw [wh_inr E]
      refine ⟨fun q => absurd (el.symm.trans q) (by simp), fun l2 L2 q => ?_⟩
      rw [el] at q
      injection q with q1 q2
      subst q1 q2
      exact ⟨m, n, (nI d, sop, str, spr), d, Nat.le_refl n, rfl, rfl, hd, lm, h⟩
/-- what comes yet -/
def PD (k : Nat) (sdp sfd : Int32) (sop : Nat → Int64) (str : Nat → Int32) (spr : Nat → UInt32) (L : List Lf) : Prop := ∃ m n t, n ≤ 786429 ∧ Rn k m n (if sfd = 0 then sdp else sdp - 1, sop, str, spr) L t ∧ t.1 = -1
section ADV
variable {k : Nat} {sdp sfd : Int32} {sop : Nat → Int64} {str : Nat → Int32} {spr : Nat → UInt32} {L : List Lf}
theorem adv_j : N_advance (nI k) sdp sfd sop str spr = N_advance_j22 (if sfd = 0 then sdp else sdp - 1) (if sfd = 0 then sfd else 0) sop str spr (nI k) := by
  unfold N_advance
  by_cases c : sfd = 0
  · rw [if_pos c, if_pos c, if_pos c]
  · rw [if_neg c, if_neg c, if_neg c]
theorem adv_nil (h : PD k sdp sfd sop str spr []) : ∃ q, N_advance (nI k) sdp sfd sop str spr = some q ∧ q.1 = 0 := by
  obtain ⟨m, n, t, hn, h, ht⟩ := h
  obtain ⟨r, _⟩ := adv_wh m n _ t [] 0 FU h ht (by omega) (by have := FU_big; omega)
  rw [adv_j]
  unfold N_advance_j22
  rw [show (0:Int32) = nI 0 from rfl] at *
  rw [r rfl, wbind rfl]
  exact ⟨_, rfl, rfl⟩
theorem adv_cons {l : Lf} (h : PD k sdp sfd sop str spr (l :: L)) : ∃ d sop' str' spr', N_advance (nI k) sdp sfd sop str spr = some ((1:Int32), nI d, (1:Int32), sop', str', spr') ∧ d ≤ 18 ∧ LM d (nI d, sop', str', spr') l ∧ PD k (nI d) 1 sop' str' spr' L := by
  obtain ⟨m, n, t, hn, h, ht⟩ := h
  obtain ⟨_, r⟩ := adv_wh m n _ t (l :: L) 0 FU h ht (by omega) (by have := FU_big; omega)
  obtain ⟨m', n', s', d, a1, a2, a3, a4, a5, a6⟩ := r l L rfl
  obtain ⟨s1, xo, xt, xp⟩ := s'
  dsimp only at a3 a6
  subst a3
  refine ⟨d, xo, xt, xp, ?_, a4, a5, m', n', t, by omega, ?_, ht⟩
  · rw [adv_j]
    unfold N_advance_j22
    rw [show ((0:Int32), (if sfd = 0 then sdp else sdp - 1), sop, str, spr) = (nI 0, (if sfd = 0 then sdp else sdp - 1), sop, str, spr) from rfl, a2, wbind rfl]
    rfl
  · rw [if_neg (show ¬ (1:Int32) = 0 by decide)]
    exact a6
end ADV
def cP (p : Lf → Bool) : List Lf → Nat
  | [] => 0
  | l :: L => (if p l then 1 else 0) + cP p L
theorem cP_app (p : Lf → Bool) (L2 : List Lf) : ∀ L1, cP p (L1 ++ L2) = cP p L1 + cP p L2
  | [] => (Nat.zero_add _).symm
  | l :: L1 => by
    show (if p l then 1 else 0) + cP p (L1 ++ L2) = (if p l then 1 else 0) + cP p L1 + cP p L2
    rw [cP_app p L2 L1]
    omega
theorem cP_le (p : Lf → Bool) : ∀ L, cP p L ≤ L.length
  | [] => Nat.le_refl _
  | l :: L => by
    have := cP_le p L
    show (if p l then 1 else 0) + cP p L ≤ L.length + 1
    split <;> omega
def fwt (w : UInt32) : List Lf → UInt32
  | [] => w
  | l :: L => fwt (FP.fadd w l.2) L
theorem fwt_app (L2 : List Lf) : ∀ (L1 : List Lf) (w : UInt32), fwt w (L1 ++ L2) = fwt (fwt w L1) L2
  | [], _ => rfl
  | l :: L1, w => fwt_app L2 L1 (FP.fadd w l.2)
theorem xcov {k : Nat} : ∀ (L : List Lf) (c : Nat) (sdp sfd : Int32) (sop : Nat → Int64) (str : Nat → Int32) (spr : Nat → UInt32) (fuel : Nat), PD k sdp sfd sop str spr L → c + L.length < 1000000 → L.length < fuel → ∃ r, wh (X_coverings_s28 (nI k)) fuel (nI c, nI c, sdp, sfd, sop, str, spr) = some r ∧ r.1 = nI (c + L.length)
  | [], c, sdp, sfd, sop, str, spr, fuel, h, hc, hf => by
    obtain ⟨F, rfl⟩ : ∃ F, fuel = F + 1 := ⟨fuel - 1, by omega⟩
    obtain ⟨q, q1, q2⟩ := adv_nil h
    have hc : c + 0 < 1000000 := hc
    refine ⟨_, wh_inr (r := (nI c, q.2.1, q.2.2.1, q.2.2.2.1, q.2.2.2.2.1, q.2.2.2.2.2)) ?_, rfl⟩
    unfold X_coverings_s28
    dsimp only
    rw [if_neg (show ¬ (1000000:Int32) ≤ nI c from nI_ge (a := c) (b := 1000000) (by omega) (by decide)), q1, wbind rfl, if_pos q2]
  | l :: L, c, sdp, sfd, sop, str, spr, fuel, h, hc, hf => by
    obtain ⟨F, rfl⟩ : ∃ F, fuel = F + 1 := ⟨fuel - 1, by omega⟩
    obtain ⟨d, xo, xt, xp, q1, q2, q3, q4⟩ := adv_cons h
    have hc : c + (L.length + 1) < 1000000 := hc
    have hf : L.length + 1 < F + 1 := hf
    have E : X_coverings_s28 (nI k) (nI c, nI c, sdp, sfd, sop, str, spr) = some (Sum.inl (nI (c + 1), nI (c + 1), nI d, 1, xo, xt, xp)) := by
      unfold X_coverings_s28
      dsimp only
      rw [if_neg (show ¬ (1000000:Int32) ≤ nI c from nI_ge (a := c) (b := 1000000) (by omega) (by decide)), q1, wbind rfl]
      dsimp only
      rw [if_neg (show ¬ (1:Int32) = 0 by decide), nI_1]
    rw [wh_inl E]
    obtain ⟨r, r1, r2⟩ := xcov L (c + 1) (nI d) 1 xo xt xp F q4 (by omega) (by omega)
    refine ⟨r, r1, ?_⟩
    rw [r2]
    show nI (c + 1 + L.length) = nI (c + (L.length + 1))
    congr 1
    omega
theorem product_eq {d : Nat} {sop : Nat → Int64} {str : Nat → Int32} {spr : Nat → UInt32} {l : Lf} (hd : d ≤ 18) (h : LM d (nI d, sop, str, spr) l) : N_product (nI d) spr = some l.2 := by
  unfold N_product N_product_j29
  rw [if_neg (nI_pos (by omega)), if_neg (show ¬ (18:Int32) < nI d from nI_nlt (a := 18) (b := d) hd (by decide)), grd_t (gi_nI (by omega) (by decide)), nI_clamp (by omega)]
  exact congrArg some h.1
theorem xwei {k : Nat} : ∀ (L : List Lf) (c : Nat) (w : UInt32) (sdp sfd : Int32) (sop : Nat → Int64) (str : Nat → Int32) (spr : Nat → UInt32) (fuel : Nat), PD k sdp sfd sop str spr L → SF c w → c + L.length < 1000000 → L.length < fuel → ∃ r, wh (X_weight_s28 (nI k)) fuel (w, nI c, sdp, sfd, sop, str, spr) = some r ∧ r.1 = fwt w L ∧ SF (c + L.length) (fwt w L)
  | [], c, w, sdp, sfd, sop, str, spr, fuel, h, hs, hc, hf => by
    obtain ⟨F, rfl⟩ : ∃ F, fuel = F + 1 := ⟨fuel - 1, by omega⟩
    obtain ⟨q, q1, q2⟩ := adv_nil h
    have hc : c + 0 < 1000000 := hc
    refine ⟨_, wh_inr (r := (w, q.2.1, q.2.2.1, q.2.2.2.1, q.2.2.2.2.1, q.2.2.2.2.2)) ?_, rfl, hs⟩
    unfold X_weight_s28
    dsimp only
    rw [if_neg (show ¬ (1000000:Int32) ≤ nI c from nI_ge (a := c) (b := 1000000) (by omega) (by decide)), q1, wbind rfl, if_pos q2]
  | l :: L, c, w, sdp, sfd, sop, str, spr, fuel, h, hs, hc, hf => by
    obtain ⟨F, rfl⟩ : ∃ F, fuel = F + 1 := ⟨fuel - 1, by omega⟩
    obtain ⟨d, xo, xt, xp, q1, q2, q3, q4⟩ := adv_cons h
    have hc : c + (L.length + 1) < 1000000 := hc
    have hf : L.length + 1 < F + 1 := hf
    have hs2 : SF (c + 1) (FP.fadd w l.2) := SF_step hs q3.2.1 q2 (by omega)
    have E : X_weight_s28 (nI k) (w, nI c, sdp, sfd, sop, str, spr) = some (Sum.inl (FP.fadd w l.2, nI (c + 1), nI d, 1, xo, xt, xp)) := by
      unfold X_weight_s28
      dsimp only
      rw [if_neg (show ¬ (1000000:Int32) ≤ nI c from nI_ge (a := c) (b := 1000000) (by omega) (by decide)), q1, wbind rfl]
      dsimp only
      rw [if_neg (show ¬ (1:Int32) = 0 by decide), product_eq q2 q3, wbind rfl, grd_t (SF_nn hs2), nI_1]
    rw [wh_inl E]
    obtain ⟨r, r1, r2, r3⟩ := xwei L (c + 1) (FP.fadd w l.2) (nI d) 1 xo xt xp F q4 hs2 (by omega) (by omega)
    refine ⟨r, r1, r2, ?_⟩
    show SF (c + (L.length + 1)) (fwt (FP.fadd w l.2) L)
    rw [show c + (L.length + 1) = c + 1 + L.length by omega]
    exact r3
theorem xodd {k x : Nat} (hx : x < 36) (f : Int32) : ∀ (L : List Lf) (c j : Nat) (sdp sfd : Int32) (sop : Nat → Int64) (str : Nat → Int32) (spr : Nat → UInt32) (fuel : Nat), PD k sdp sfd sop str spr L → c + L.length < 1000000 → L.length < fuel → ∃ r, wh (X_odds_s66 (nI x) f (nI k)) fuel (nI c, nI j, nI c, sdp, sfd, sop, str, spr) = some r ∧ r.1 = nI (c + L.length) ∧ r.2.1 = nI (j + cP (fun l => decide (l.1 x = f)) L)
  | [], c, j, sdp, sfd, sop, str, spr, fuel, h, hc, hf => by
    obtain ⟨F, rfl⟩ : ∃ F, fuel = F + 1 := ⟨fuel - 1, by omega⟩
    obtain ⟨q, q1, q2⟩ := adv_nil h
    have hc : c + 0 < 1000000 := hc
    refine ⟨_, wh_inr (r := (nI c, nI j, q.2.1, q.2.2.1, q.2.2.2.1, q.2.2.2.2.1, q.2.2.2.2.2)) ?_, rfl, rfl⟩
    unfold X_odds_s66
    dsimp only
    rw [if_neg (show ¬ (1000000:Int32) ≤ nI c from nI_ge (a := c) (b := 1000000) (by omega) (by decide)), q1, wbind rfl, if_pos q2]
  | l :: L, c, j, sdp, sfd, sop, str, spr, fuel, h, hc, hf => by
    obtain ⟨F, rfl⟩ : ∃ F, fuel = F + 1 := ⟨fuel - 1, by omega⟩
    obtain ⟨d, xo, xt, xp, q1, q2, q3, q4⟩ := adv_cons h
    have hc : c + (L.length + 1) < 1000000 := hc
    have hf : L.length + 1 < F + 1 := hf
    have E : X_odds_s66 (nI x) f (nI k) (nI c, nI j, nI c, sdp, sfd, sop, str, spr) = some (Sum.inl (nI (c + 1), nI (j + (if decide (l.1 x = f) then 1 else 0)), nI (c + 1), nI d, 1, xo, xt, xp)) := by
      unfold X_odds_s66
      dsimp only
      rw [if_neg (show ¬ (1000000:Int32) ≤ nI c from nI_ge (a := c) (b := 1000000) (by omega) (by decide)), q1, wbind rfl]
      dsimp only
      rw [if_neg (show ¬ (1:Int32) = 0 by decide), show N_formOver (nI x) (nI d) xo xt = some (l.1 x) from q3.2.2 x hx, wbind rfl, nI_1, nI_1]
      by_cases q : l.1 x = f
      · rw [if_pos q, decide_eq_true q, if_pos rfl]
      · rw [if_neg q, decide_eq_false q, if_neg (show ¬ false = true by decide)]
        rfl
    rw [wh_inl E]
    obtain ⟨r, r1, r2, r3⟩ := xodd hx f L (c + 1) _ (nI d) 1 xo xt xp F q4 (by omega) (by omega)
    refine ⟨r, r1, ?_, ?_⟩
    · rw [r2]
      show nI (c + 1 + L.length) = nI (c + (L.length + 1))
      congr 1
      omega
    · rw [r3]
      show _ = nI (j + ((if decide (l.1 x = f) then 1 else 0) + cP (fun l => decide (l.1 x = f)) L))
      rw [Nat.add_assoc]
theorem PD_start {k : Nat} (hk : k < 3) {rg : Int64} (hR : R36 rg) (sop : Nat → Int64) (str : Nat → Int32) (spr : Nat → UInt32) : PD k 0 0 (vp_updL sop 0 rg) (upd str 0 (-1)) (vf_upd spr 0 FP.fconst1) (en 20 k rg (fun _ => -5) FP.fconst1) := by
  have hc := cnt_le (b6 rg) 36
  obtain ⟨m, t, r1, r2, _⟩ := vis hk 20 0 rg (fun _ => -5) FP.fconst1 (vp_updL sop 0 rg) (upd str 0 (-1)) (vf_upd spr 0 FP.fconst1) (updL_eq _ _ _) (upd_eq _ _ _) (vfu_eq _ _ _) hR (by rw [Nat.mul_zero]; exact hc) (by omega) ⟨fun i hi => absurd hi (Nat.not_lt_zero _), fun c _ _ => rfl⟩ PF_0
  refine ⟨m, tr 20 k rg, t, tr_le hk hR, ?_, by rw [r2]; decide⟩
  rw [if_pos rfl]
  exact r1
theorem N_start_eq (v : Int32) (rg : Int64) (sop : Nat → Int64) (str : Nat → Int32) (spr : Nat → UInt32) : N_start v rg sop str spr = some (v, 0, 0, vp_updL sop 0 rg, upd str 0 (-1), vf_upd spr 0 FP.fconst1) := by
  unfold N_start
  rw [grd_t (by decide), grd_t (by decide), grd_t (by decide)]
  rfl
