/-! STONES: the reference's coverings -/
theorem b6_testS0 {w : Int64} {k : Nat} (hk : k < 64) : (w >>> ((nI k).toInt64 &&& 63)) &&& 1 = 0 ↔ b6 w k = false := by
  constructor
  · intro h
    have h1 := congrArg (fun x => b6 x 0) h
    simp only [b6_and, b6_sshr k hk w (i := 0) (by decide), b6_0, b6_1] at h1
    simpa [hk] using h1
  · intro h
    apply b6_ext
    intro i hi
    rw [b6_and, b6_0, b6_1]
    by_cases q : i = 0
    · subst q
      rw [b6_sshr k hk w (i := 0) (by decide)]
      simp [h, hk]
    · simp [q]
theorem lI_0 {M : Nat} (h : M < 2 ^ 63) : lI M = 0 ↔ M = 0 := by
  constructor
  · intro q
    have h1 := congrArg Int64.toInt q
    unfold lI at h1
    rw [Int64.toInt_ofNat_of_lt h] at h1
    have h2 : (0 : Int64).toInt = 0 := by decide
    omega
  · intro q
    subst q
    rfl
def pC (cac caf : Int32) (l : Lf) : Bool := if cac = -1 then false else decide (l.1 cac.toNatClampNeg = caf)
def hdF (M : Nat) (L : List Lf) (g : Nat → Int32) : Nat → Int32 := if M = 0 then (match L with | [] => g | l :: _ => l.1) else g
theorem hdF_nil (M : Nat) (g : Nat → Int32) : hdF M [] g = g := by
  unfold hdF
  split <;> rfl
theorem hdF_app (M : Nat) (L1 L2 : List Lf) (g : Nat → Int32) : hdF M (L1 ++ L2) g = hdF (M + L1.length) L2 (hdF M L1 g) := by
  cases L1 with
  | nil => rw [hdF_nil]; rfl
  | cons l L1 =>
    have e : ¬ M + (l :: L1).length = 0 := by rw [List.length_cons]; omega
    rw [show hdF (M + (l :: L1).length) L2 (hdF M (l :: L1) g) = hdF M (l :: L1) g from by
      show (if M + (l :: L1).length = 0 then _ else _) = _
      rw [if_neg e]]
    rfl
theorem hdF_congr {M : Nat} {L : List Lf} {g g' : Nat → Int32} (h : ∀ c, c < 36 → g c = g' c) : ∀ c, c < 36 → hdF M L g c = hdF M L g' c := fun c hc => by
  unfold hdF
  by_cases e : M = 0
  · rw [if_pos e, if_pos e]
    cases L with
    | nil => exact h c hc
    | cons l L => rfl
  · rw [if_neg e, if_neg e]
    exact h c hc
/-- the forms the reference holds -/
def Kf (reg o : Int64) (fm cfo : Nat → Int32) : Prop := (∀ c, c < 36 → b6 reg c = true → b6 o c = false → cfo c = fm c) ∧ (∀ c, c < 36 → b6 reg c = false → fm c = -5)
theorem whole_eq {reg : Int64} {fm cfo : Nat → Int32} {w W : UInt32} {cac caf : Int32} {M j d : Nat} (hK : Kf reg 0 fm cfo) (hP : PF d w) (hd : d ≤ 18) (hS : SF M W) (hM : M < 2 ^ 20) (hc : cac = -1 ∨ ∃ c, c < 36 ∧ cac = nI c) (hf : ¬ caf = -5) (cff : Nat → Int32) : ∃ cff', M_whole w reg (lI M) (lI j) cac caf W cfo cff = some (lI (M + 1), lI (j + (if pC cac caf (fm, w) then 1 else 0)), FP.fadd W w, cff') ∧ ∀ c, c < 36 → cff' c = hdF M [(fm, w)] cff c := by
  have hw : ∃ g, wh (M_whole_s2 reg (lI M) cfo) FU ((0:Int32), cff) = some g ∧ ∀ c, c < 36 → g c = hdF M [(fm, w)] cff c := by
    by_cases c0 : M = 0
    · refine ⟨fun c => if c < 36 then (if b6 reg c then cfo c else -5) else cff c, ?_, fun c hc => ?_⟩
      · rw [show ((0:Int32), cff) = (nI 0, fun c => if c < 0 then (if b6 reg c then cfo c else -5) else cff c) from rfl]
        refine wh_for (st := M_whole_s2 reg (lI M) cfo) (fun k => (nI k, fun c => if c < k then (if b6 reg c then cfo c else -5) else cff c)) 36 (fun k hk => ?_) ?_ (by decide)
        · have u : ∀ v, (if b6 reg k then cfo k else -5) = v → upd (fun c => if c < k then (if b6 reg c then cfo c else -5) else cff c) k v = fun c => if c < k + 1 then (if b6 reg c then cfo c else -5) else cff c := fun v e => by
            subst e
            funext c
            unfold upd
            by_cases q : c = k
            · subst q
              rw [if_pos rfl, if_pos (Nat.lt_succ_self c)]
            · rw [if_neg q]
              dsimp only
              by_cases q2 : c < k
              · rw [if_pos q2, if_pos (show c < k + 1 by omega)]
              · rw [if_neg q2, if_neg (show ¬ c < k + 1 by omega)]
          unfold M_whole_s2 M_whole_j41
          dsimp only
          rw [if_neg (show ¬ (36:Int32) ≤ nI k from nI_ge (a := k) (b := 36) hk (by decide)), if_pos ((lI_0 (by omega)).mpr c0), has_eq (by omega), bI_if]
          cases b : b6 reg k with
          | false =>
            rw [if_neg (show ¬ false = true by decide), grd_t (gi_nI hk (by decide)), nI_clamp (by omega), nI_1, u _ (by rw [b]; rfl)]
          | true =>
            rw [if_pos rfl, grd_t (gi_nI hk (by decide)), grd_t (gi_nI hk (by decide)), nI_clamp (by omega), nI_1, u _ (by rw [b]; rfl)]
        · unfold M_whole_s2
          dsimp only
          rw [if_pos (by decide)]
      · unfold hdF
        rw [if_pos c0]
        dsimp only
        rw [if_pos hc]
        cases b : b6 reg c with
        | false => rw [if_neg (show ¬ false = true by decide), hK.2 c hc b]
        | true => rw [if_pos rfl, hK.1 c hc b (b6_0 c)]
    · refine ⟨cff, ?_, fun c hc => ?_⟩
      · have hF : FU = (FU - 1) + 1 := by have := FU_big; omega
        rw [hF]
        refine wh_inr ?_
        unfold M_whole_s2
        dsimp only
        rw [if_neg (by decide), if_neg (fun q => c0 ((lI_0 (by omega)).mp q))]
      · unfold hdF
        rw [if_neg c0]
  obtain ⟨g, g1, g2⟩ := hw
  refine ⟨g, ?_, g2⟩
  have hs2 := SF_nn (SF_step hS hP hd hM)
  unfold M_whole M_whole_j112 M_whole_j113
  rw [g1, wbind rfl, grd_t hs2]
  have z : lI j + 0 = lI (j + 0) := by rw [Nat.add_zero]; exact Int64.add_zero _
  by_cases e : cac = -1
  · have ep : pC cac caf (fm, w) = false := by unfold pC; rw [if_pos e]
    rw [if_pos e, ep, if_neg (show ¬ false = true by decide), lI_1, z]
  · rw [if_neg e]
    rcases hc with q | ⟨c, hc, q⟩
    · exact absurd q e
    · subst q
      have ep : pC (nI c) caf (fm, w) = decide (fm c = caf) := by unfold pC; rw [if_neg e, nI_clamp (by omega)]
      rw [ep, has_eq (by omega), bI_if]
      cases b : b6 reg c with
      | false =>
        have : ¬ fm c = caf := fun q => hf (by rw [← q, hK.2 c hc b])
        rw [if_neg (show ¬ false = true by decide), decide_eq_false this, if_neg (show ¬ false = true by decide), lI_1, z]
      | true =>
        rw [if_pos rfl, grd_t (gi_nI hc (by decide)), nI_clamp (by omega), hK.1 c hc b (b6_0 c), lI_1]
        by_cases t : fm c = caf
        · rw [if_pos t, decide_eq_true t, if_pos rfl, lI_1]
        · rw [if_neg t, decide_eq_false t, if_neg (show ¬ false = true by decide), z]
theorem mforms_eq {k : Nat} (hk : k < 3) : M_forms (nI k) = nI (fN k) := (by decide : ∀ k, k < 3 → M_forms (nI k) = nI (fN k)) k hk
abbrev tRec : Type := Int32 → Int64 → UInt32 → Int64 → Int64 → Int64 → Int32 → Int32 → UInt32 → (Nat → Int32) → (Nat → Int32) → Option (Int64 × Int64 × UInt32 × (Nat → Int32) × (Nat → Int32))
theorem mls_eq (rec : tRec) {o : Int64} (hR : R36 o) (h0 : ¬ o = 0) : wh (M_covers_s16 rec o) FU (0:Int32) = some (nI (lsN o)) := by
  obtain ⟨l36, l1, l2, l3⟩ := lsN_ok hR h0
  refine wh_for (st := M_covers_s16 rec o) (fun k => nI k) (lsN o) (fun k hk => ?_) ?_ (by omega)
  · unfold M_covers_s16
    rw [if_pos ((b6_testS0 (by omega)).mpr (l2 k hk)), nI_1]
  · unfold M_covers_s16
    rw [if_neg (fun q => by rw [(b6_testS0 (by omega)).mp q] at l1; cases l1)]
theorem mfm_eq (rec : tRec) {f x : Nat} {s : Int64} (hx : x < 36) (hs : ∀ i, b6 s i = true → x ≤ i ∧ i < 36) (cfo : Nat → Int32) : wh (M_covers_s82 rec (nI f) s) FU (nI x, cfo) = some (upF cfo s f) := by
  have e0 : ((nI x, cfo) : Int32 × (Nat → Int32)) = (nI (x + 0), fun c => if c < x + 0 ∧ b6 s c = true then nI f else cfo c) := by
    congr 1
    funext c
    rw [if_neg (fun q => by have := hs c q.2; omega)]
  have e1 : upF cfo s f = fun c => if c < x + (36 - x) ∧ b6 s c = true then nI f else cfo c := by
    funext c
    unfold upF
    by_cases q : b6 s c = true
    · rw [if_pos q, if_pos ⟨by have := hs c q; omega, q⟩]
    · rw [if_neg q, if_neg (fun r => q r.2)]
  rw [e0, e1]
  refine wh_for (st := M_covers_s82 rec (nI f) s) (fun k => (nI (x + k), fun c => if c < x + k ∧ b6 s c = true then nI f else cfo c)) (36 - x) (fun k hk => ?_) ?_ (by omega)
  · have g : gi (nI (x + k)) 36 = true := gi_nI (by omega) (by decide)
    have u : ∀ v, (if b6 s (x + k) = true then nI f else cfo (x + k)) = v → upd (fun c => if c < x + k ∧ b6 s c = true then nI f else cfo c) (x + k) v = fun c => if c < x + (k + 1) ∧ b6 s c = true then nI f else cfo c := fun v e => by
      subst e
      funext c
      unfold upd
      by_cases q : c = x + k
      · subst q
        rw [if_pos rfl]
        by_cases b : b6 s (x + k) = true
        · rw [if_pos b, if_pos ⟨by omega, b⟩]
        · rw [if_neg b, if_neg (fun r => b r.2)]
      · rw [if_neg q]
        dsimp only
        by_cases b : c < x + k ∧ b6 s c = true
        · rw [if_pos b, if_pos ⟨by omega, b.2⟩]
        · rw [if_neg b, if_neg (fun r => b ⟨by omega, r.2⟩)]
    unfold M_covers_s82 M_covers_j119
    dsimp only
    rw [if_neg (show ¬ (36:Int32) ≤ nI (x + k) from nI_ge (a := x + k) (b := 36) (by omega) (by decide))]
    by_cases b : b6 s (x + k) = true
    · rw [if_pos ((b6_testS (by omega)).mpr b), grd_t g, nI_clamp (by omega), nI_1, u _ (if_pos b)]
      rfl
    · rw [if_neg (fun q => b ((b6_testS (by omega)).mp q)), grd_t g, grd_t g, nI_clamp (by omega), nI_1, if_neg (fun r => b r.2), u _ (if_neg b)]
      rfl
  · unfold M_covers_s82
    dsimp only
    rw [if_pos (show (36:Int32) ≤ nI (x + (36 - x)) from nI_le (a := 36) (by omega) (by omega))]
/-- what one visit of the reference gives -/
def MV (n k : Nat) (reg : Int64) (cac caf : Int32) : Prop := ∀ (d : Nat) (o : Int64) (fm : Nat → Int32) (w : UInt32) (cfo : Nat → Int32) (M j : Nat) (W : UInt32) (cff : Nat → Int32), R36 o → (∀ c, b6 o c = true → b6 reg c = true) → cnt (b6 o) 36 + szN k * d ≤ 36 → cnt (b6 o) 36 < 2 * n → PF d w → Kf reg o fm cfo → SF M W → M + (en n k o fm w).length ≤ 2 ^ 20 → ∃ cfo' cff', M_covers n (nI k) o w reg (lI M) (lI j) cac caf W cfo cff = some (lI (M + (en n k o fm w).length), lI (j + cP (pC cac caf) (en n k o fm w)), fwt W (en n k o fm w), cfo', cff') ∧ (∀ c, c < 36 → b6 o c = false → cfo' c = cfo c) ∧ (∀ c, c < 36 → cff' c = hdF M (en n k o fm w) cff c) ∧ SF (M + (en n k o fm w).length) (fwt W (en n k o fm w))
theorem mv_in {n k d : Nat} {reg o : Int64} {cac caf : Int32} {fm : Nat → Int32} {w : UInt32} (hk : k < 3) (H : MV n k reg cac caf) (hR : R36 o) (h0 : ¬ o = 0) (ho : ∀ c, b6 o c = true → b6 reg c = true) (hc : cnt (b6 o) 36 + szN k * d ≤ 36) (hn : cnt (b6 o) 36 < 2 * (n + 1)) (hP : PF d w) : ∀ (m f : Nat), f + m = fN k → ∀ (cfo : Nat → Int32) (M j : Nat) (W : UInt32) (cff : Nat → Int32) (fuel : Nat) (L : List Lf), L = ct (fun f => if fitB k f o = true then en n k (rsN k f o) (upF fm (sN k f (lsN o)) f) (FP.fmul w (facF (nI f))) else []) f m → m < fuel → Kf reg o fm cfo → SF M W → M + L.length ≤ 2 ^ 20 → ∃ cfo' cff', wh (M_covers_s36 (M_covers n) (nI k) o w (nI (lsN o)) reg cac caf) fuel (nI f, lI M, lI j, W, cfo, cff) = some (lI (M + L.length), lI (j + cP (pC cac caf) L), fwt W L, cfo', cff') ∧ (∀ c, c < 36 → b6 o c = false → cfo' c = cfo c) ∧ (∀ c, c < 36 → cff' c = hdF M L cff c) ∧ SF (M + L.length) (fwt W L) := by
  obtain ⟨l36, l1, l2, l3⟩ := lsN_ok hR h0
  have c1 := cnt_pos hR h0
  have s2 := szN_ge k
  have d17 : d ≤ 17 := by
    have : 2 * d ≤ szN k * d := Nat.mul_le_mul_right d s2
    omega
  have f4 := (fN_le k).1
  intro m
  induction m with
  | zero =>
    intro f hf cfo M j W cff fuel L hL hu hK hS hM
    subst hL
    obtain ⟨F, rfl⟩ : ∃ F, fuel = F + 1 := ⟨fuel - 1, by omega⟩
    refine ⟨cfo, cff, wh_inr ?_, fun c _ _ => rfl, fun c _ => by show _ = hdF M [] cff c; rw [hdF_nil], hS⟩
    unfold M_covers_s36
    dsimp only
    rw [mforms_eq hk, if_pos (nI_le (by omega) (by omega))]
    rfl
  | succ m ih =>
    intro f hf cfo M j W cff fuel L hL hu hK hS hM
    have fk : f < fN k := by omega
    obtain ⟨F, rfl⟩ : ∃ F, fuel = F + 1 := ⟨fuel - 1, by omega⟩
    obtain ⟨L2, e2⟩ : ∃ L2, L2 = ct (fun f => if fitB k f o = true then en n k (rsN k f o) (upF fm (sN k f (lsN o)) f) (FP.fmul w (facF (nI f))) else []) (f + 1) m := ⟨_, rfl⟩
    have hL : L = (if fitB k f o = true then en n k (rsN k f o) (upF fm (sN k f (lsN o)) f) (FP.fmul w (facF (nI f))) else []) ++ L2 := by rw [hL, e2]; rfl
    by_cases hB : fitB k f o = true
    · rw [if_pos hB] at hL
      have hcn := rs_cnt hk fk hR h0 hB
      obtain ⟨t1, t2⟩ := fitB_t hB
      have hm : szN k * (d + 1) = szN k * d + szN k := Nat.mul_succ _ _
      have b36 : ∀ i, b6 (sN k f (lsN o)) i = true → lsN o ≤ i ∧ i < 36 := fun i hi => by
        have i64 : i < 64 := by
          rcases Nat.lt_or_ge i 64 with c | c
          · exact c
          · rw [b6_big c] at hi; cases hi
        have ob := t2 i i64 hi
        constructor
        · rcases Nat.lt_or_ge i (lsN o) with c | c
          · rw [l2 i c] at ob; cases ob
          · exact c
        · rcases Nat.lt_or_ge i 36 with c | c
          · exact c
          · rw [hR i c] at ob; cases ob
      subst hL
      rw [List.length_append] at hM
      obtain ⟨cfo1, cff1, q1, q2, q3, q4⟩ := H (d + 1) (rsN k f o) (upF fm (sN k f (lsN o)) f) (FP.fmul w (facF (nI f))) (upF cfo (sN k f (lsN o)) f) M j W cff (rs_R36 hR) (fun c hc => by
        rcases Nat.lt_or_ge c 64 with q | q
        · rw [rs_b6 k f o q] at hc
          exact ho c ((Bool.and_eq_true _ _).mp hc).1
        · rw [b6_big q] at hc; cases hc) (by omega) (by omega) (PF_step hP (by omega) (facF_or _)) ⟨fun c hc r1 r2 => by
        unfold upF
        by_cases q : b6 (sN k f (lsN o)) c = true
        · rw [if_pos q, if_pos q]
        · rw [if_neg q, if_neg q]
          rw [rs_b6 k f o (by omega)] at r2
          have q' : b6 (sN k f (lsN o)) c = false := by
            cases e : b6 (sN k f (lsN o)) c with
            | false => rfl
            | true => exact absurd e q
          rw [q'] at r2
          exact hK.1 c hc r1 (by cases e : b6 o c with | false => rfl | true => rw [e] at r2; cases r2), fun c hc r1 => by
        unfold upF
        rw [if_neg (fun q => by rw [ho c (t2 c (by omega) q)] at r1; cases r1)]
        exact hK.2 c hc r1⟩ hS (by omega)
      have cf : ∀ c, c < 36 → b6 o c = false → cfo1 c = cfo c := fun c hc e => by
        rw [q2 c hc (by rw [rs_b6 k f o (by omega), e, Bool.false_and])]
        unfold upF
        rw [if_neg (fun q => by rw [t2 c (by omega) q] at e; cases e)]
      obtain ⟨cfo2, cff2, r1, r2, r3, r4⟩ := ih (f + 1) (by omega) cfo1 (M + (en n k (rsN k f o) (upF fm (sN k f (lsN o)) f) (FP.fmul w (facF (nI f)))).length) (j + cP (pC cac caf) (en n k (rsN k f o) (upF fm (sN k f (lsN o)) f) (FP.fmul w (facF (nI f))))) (fwt W (en n k (rsN k f o) (upF fm (sN k f (lsN o)) f) (FP.fmul w (facF (nI f))))) cff1 F L2 e2 (by omega) ⟨fun c hc a b => (cf c hc b).trans (hK.1 c hc a b), hK.2⟩ q4 (by omega)
      have g : nn32 (FP.fmul w (facF (nI f))) = true := PF_nn (PF_step hP (by omega) (facF_or (nI f))) (by omega)
      have E : M_covers_s36 (M_covers n) (nI k) o w (nI (lsN o)) reg cac caf (nI f, lI M, lI j, W, cfo, cff) = some (Sum.inl (nI (f + 1), lI (M + (en n k (rsN k f o) (upF fm (sN k f (lsN o)) f) (FP.fmul w (facF (nI f)))).length), lI (j + cP (pC cac caf) (en n k (rsN k f o) (upF fm (sN k f (lsN o)) f) (FP.fmul w (facF (nI f))))), fwt W (en n k (rsN k f o) (upF fm (sN k f (lsN o)) f) (FP.fmul w (facF (nI f)))), cfo1, cff1)) := by
        unfold M_covers_s36 M_covers_j162
        dsimp only
        rw [show M_stone (nI k) (nI f) (nI (lsN o)) = sN k f (lsN o) from rfl, mforms_eq hk, if_neg (nI_ge fk (by omega)), if_neg t1, if_pos (sub_m.mpr t2), mfm_eq _ l36 b36, wbind rfl]
        rw [show (if nI f = (0:Int32) then (1061158912:UInt32) else (if nI f = (3:Int32) then (1061158912:UInt32) else (1067450368:UInt32))) = facF (nI f) from rfl, grd_t g]
        rw [show o &&& (sN k f (lsN o) ^^^ (-1:Int64)) = rsN k f o from rfl, q1, wbind rfl, nI_1]
      rw [wh_inl E, r1]
      refine ⟨cfo2, cff2, ?_, fun c hc e => (r2 c hc e).trans (cf c hc e), fun c hc => ?_, ?_⟩
      · rw [List.length_append, cP_app, fwt_app, Nat.add_assoc, Nat.add_assoc]
      · rw [r3 c hc, hdF_app]
        exact hdF_congr q3 c hc
      · rw [List.length_append, fwt_app, ← Nat.add_assoc]
        exact r4
    · rw [if_neg hB] at hL
      have hL : L = L2 := hL
      subst hL
      obtain ⟨cfo2, cff2, r1, r2⟩ := ih (f + 1) (by omega) cfo M j W cff F L e2 (by omega) hK hS hM
      have E : M_covers_s36 (M_covers n) (nI k) o w (nI (lsN o)) reg cac caf (nI f, lI M, lI j, W, cfo, cff) = some (Sum.inl (nI (f + 1), lI M, lI j, W, cfo, cff)) := by
        unfold M_covers_s36 M_covers_j162
        dsimp only
        rw [show M_stone (nI k) (nI f) (nI (lsN o)) = sN k f (lsN o) from rfl, mforms_eq hk, if_neg (nI_ge fk (by omega)), nI_1]
        by_cases z : sN k f (lsN o) = 0
        · rw [if_pos z]
        · rw [if_neg z, if_neg (fun q => hB (by unfold fitB; rw [decide_eq_true z, decide_eq_true q]; rfl))]
      rw [wh_inl E]
      exact ⟨cfo2, cff2, r1, r2⟩
theorem mv {k : Nat} (hk : k < 3) (reg : Int64) {cac caf : Int32} (hca : cac = -1 ∨ ∃ c, c < 36 ∧ cac = nI c) (hcf : ¬ caf = -5) : ∀ n, MV n k reg cac caf
  | 0 => fun d o fm w cfo M j W cff _ _ _ hn => by omega
  | n + 1 => fun d o fm w cfo M j W cff hR ho hc hn hP hK hS hM => by
    by_cases z : o = 0
    · have e2 : en (n + 1) k o fm w = [(fm, w)] := by unfold en; rw [if_pos z]
      rw [e2] at hM ⊢
      have hM : M + 1 ≤ 2 ^ 20 := hM
      have d18 : d ≤ 18 := by
        have : 2 * d ≤ szN k * d := Nat.mul_le_mul_right d (szN_ge k)
        omega
      subst z
      obtain ⟨g, g1, g2⟩ := whole_eq (j := j) hK hP d18 hS (by omega) hca hcf cff
      refine ⟨cfo, g, ?_, fun c _ _ => rfl, g2, SF_step hS hP d18 (by omega)⟩
      show (if (0:Int64) = 0 then _ else _) = _
      rw [if_pos rfl, g1, wbind rfl]
      rfl
    · have e2 : en (n + 1) k o fm w = ct (fun f => if fitB k f o = true then en n k (rsN k f o) (upF fm (sN k f (lsN o)) f) (FP.fmul w (facF (nI f))) else []) 0 (fN k) := by
        show (if o = 0 then _ else _) = _
        rw [if_neg z]
      have f4 := (fN_le k).1
      obtain ⟨cfo', cff', q1, q2⟩ := mv_in hk (mv hk reg hca hcf n) hR z ho hc hn hP (fN k) 0 (by omega) cfo M j W cff FU _ e2 (by have := FU_big; omega) hK hS hM
      refine ⟨cfo', cff', ?_, q2⟩
      show (if o = 0 then _ else _) = _
      rw [if_neg z, mls_eq _ hR z, wbind rfl, show ((0:Int32), lI M, lI j, W, cfo, cff) = (nI 0, lI M, lI j, W, cfo, cff) from rfl, q1, wbind rfl]
theorem goes_eq {k : Nat} (hk : k < 3) {reg : Int64} (hR : R36 reg) {cac caf : Int32} (hca : cac = -1 ∨ ∃ c, c < 36 ∧ cac = nI c) (hcf : ¬ caf = -5) (cfo cff : Nat → Int32) : ∃ cfo' cff', M_goesThrough (nI k) cac caf reg cfo cff = some (lI (en 20 k reg (fun _ => -5) FP.fconst1).length, lI (cP (pC cac caf) (en 20 k reg (fun _ => -5) FP.fconst1)), cac, caf, fwt FP.fconst0 (en 20 k reg (fun _ => -5) FP.fconst1), cfo', cff') ∧ (∀ c, c < 36 → cff' c = hdF 0 (en 20 k reg (fun _ => -5) FP.fconst1) (fun _ => -5) c) ∧ SF (en 20 k reg (fun _ => -5) FP.fconst1).length (fwt FP.fconst0 (en 20 k reg (fun _ => -5) FP.fconst1)) := by
  have hl := en_le hk hR (fun _ => -5) FP.fconst1
  have hc := cnt_le (b6 reg) 36
  have w1 : wh M_goesThrough_s28 FU ((0:Int32), cff) = some (fun c => if c < 36 then -5 else cff c) := by
    rw [show ((0:Int32), cff) = (nI 0, fun c => if c < 0 then -5 else cff c) from rfl]
    refine wh_for (st := M_goesThrough_s28) (fun k => (nI k, fun c => if c < k then -5 else cff c)) 36 (fun k hk => ?_) ?_ (by decide)
    · unfold M_goesThrough_s28
      dsimp only
      rw [if_neg (show ¬ (36:Int32) ≤ nI k from nI_ge (a := k) (b := 36) hk (by decide)), grd_t (gi_nI hk (by decide)), nI_clamp (by omega), nI_1]
      congr 3
      funext c
      unfold upd
      by_cases q : c = k
      · subst q
        rw [if_pos rfl, if_pos (Nat.lt_succ_self c)]
      · rw [if_neg q]
        dsimp only
        by_cases q2 : c < k
        · rw [if_pos q2, if_pos (by omega)]
        · rw [if_neg q2, if_neg (by omega)]
    · unfold M_goesThrough_s28
      dsimp only
      rw [if_pos (by decide)]
  obtain ⟨cfo', cff', q1, q2, q3, q4⟩ := mv hk reg hca hcf 20 0 reg (fun _ => -5) FP.fconst1 cfo 0 0 FP.fconst0 (fun c => if c < 36 then -5 else cff c) hR (fun c h => h) (by rw [Nat.mul_zero]; exact hc) (by omega) PF_0 ⟨fun c _ a b => (by rw [a] at b; cases b), fun c _ _ => rfl⟩ SF_0 (by omega)
  rw [Nat.zero_add] at q1 q4
  rw [Nat.zero_add] at q1
  refine ⟨cfo', cff', ?_, fun c hc => ?_, q4⟩
  · unfold M_goesThrough
    rw [w1, wbind rfl, show (0:Int64) = lI 0 from rfl, q1, wbind rfl]
  · rw [q3 c hc]
    exact hdF_congr (fun c hc => if_pos hc) c hc
