/-! STONES: their cells, and the class's coverings, one behind the other -/
def fN (k : Nat) : Nat := if k = 2 then 4 else 2
def szN (k : Nat) : Nat := if k = 0 then 2 else 3
def sN (k f x : Nat) : Int64 := M_stone (nI k) (nI f) (nI x)
def facF (f : Int32) : UInt32 := if f = (0:Int32) then (1061158912:UInt32) else (if f = (3:Int32) then (1061158912:UInt32) else (1067450368:UInt32))
theorem facF_or (f : Int32) : facF f = 1061158912 ∨ facF f = 1067450368 := by
  unfold facF
  (repeat' split) <;> first | exact Or.inl rfl | exact Or.inr rfl
theorem fN_le (k : Nat) : fN k ≤ 4 ∧ 2 ≤ fN k := by
  unfold fN
  split <;> omega
theorem szN_ge (k : Nat) : 2 ≤ szN k := by
  unfold szN
  split <;> omega
noncomputable def lsN (o : Int64) : Nat := (J_Long_bitCount ((o &&& -o) - 1)).toNatClampNeg
theorem lsN_ok {o : Int64} (hR : R36 o) (h0 : ¬ o = 0) : lsN o < 36 ∧ b6 o (lsN o) = true ∧ (∀ i, i < lsN o → b6 o i = false) ∧ J_Long_bitCount ((o &&& -o) - 1) = nI (lsN o) := by
  obtain ⟨l, hl, h1, h2⟩ := b6_least o h0
  have l36 : l < 36 := by
    rcases Nat.lt_or_ge l 36 with c | c
    · exact c
    · rw [hR l c] at h1; cases h1
  have hc := low_count hl h1 h2
  have e : lsN o = l := by
    unfold lsN
    rw [hc, nI_clamp (by omega)]
  rw [e]
  exact ⟨l36, h1, h2, hc⟩
def stJ (k f x : Nat) : Nat := x + (if k = 1 then 12 else if k = 2 ∧ f = 1 then 7 else 6)
def stB (k f x : Nat) : Bool := if sN k f x = 0 then (decide ((6:Int32) ≤ nI (x % 6) + sxRIGHT (k * 2 + f)) || (!decide (sxLEFT (k * 2 + f) ≤ nI (x % 6)) || (decide (36 ≤ stJ k f x) && (decide (stJ k f x < 64) && b6 (sxSHAPES (k * 2 + f) <<< ((nI x).toInt64 &&& 63)) (stJ k f x))))) else (!decide ((6:Int32) ≤ nI (x % 6) + sxRIGHT (k * 2 + f)) && (decide (sxLEFT (k * 2 + f) ≤ nI (x % 6)) && decide (sxSHAPES (k * 2 + f) <<< ((nI x).toInt64 &&& 63) = sN k f x)))
theorem stB_all : ∀ k, k < 3 → ∀ f, f < 4 → f < fN k → ∀ x, x < 36 → stB k f x = true := by decide +kernel
theorem st_tab (k : Nat) (hk : k < 3) (f : Nat) (hf : f < 4) (hf2 : f < fN k) (x : Nat) (hx : x < 36) : (¬ sN k f x = 0 → (¬ (6:Int32) ≤ nI (x % 6) + sxRIGHT (k * 2 + f)) ∧ sxLEFT (k * 2 + f) ≤ nI (x % 6) ∧ sxSHAPES (k * 2 + f) <<< ((nI x).toInt64 &&& 63) = sN k f x) ∧ (sN k f x = 0 → (6:Int32) ≤ nI (x % 6) + sxRIGHT (k * 2 + f) ∨ ¬ sxLEFT (k * 2 + f) ≤ nI (x % 6) ∨ (36 ≤ stJ k f x ∧ stJ k f x < 64 ∧ b6 (sxSHAPES (k * 2 + f) <<< ((nI x).toInt64 &&& 63)) (stJ k f x) = true)) := by
  have t := stB_all k hk f hf hf2 x hx
  unfold stB at t
  constructor
  · intro z
    rw [if_neg z] at t
    simpa only [Bool.and_eq_true, Bool.or_eq_true, Bool.not_eq_true', decide_eq_true_eq, decide_eq_false_iff_not] using t
  · intro z
    rw [if_pos z] at t
    simpa only [Bool.and_eq_true, Bool.or_eq_true, Bool.not_eq_true', decide_eq_true_eq, decide_eq_false_iff_not] using t
theorem st_cnt : ∀ k, k < 3 → ∀ f, f < 4 → f < fN k → ∀ x, x < 36 → ¬ sN k f x = 0 → cnt (b6 (sN k f x)) 36 = szN k := by decide +kernel
theorem sub_m {s o : Int64} : (s &&& (o ^^^ (-1)) = 0) ↔ ∀ i, i < 64 → b6 s i = true → b6 o i = true := by
  constructor
  · intro h i hi hs
    have h1 : b6 (s &&& (o ^^^ (-1))) i = false := by rw [h, b6_0]
    rw [b6_and, b6_not o hi, hs, Bool.true_and] at h1
    cases e : b6 o i with
    | true => rfl
    | false => rw [e] at h1; cases h1
  · intro h
    refine b6_none fun i hi => ?_
    rw [b6_and, b6_not o hi]
    cases e : b6 s i with
    | false => rfl
    | true => rw [h i hi e]; rfl
theorem sub_x {s o : Int64} : (o &&& s = s) ↔ ∀ i, i < 64 → b6 s i = true → b6 o i = true := by
  constructor
  · intro h i hi hs
    have h1 : b6 (o &&& s) i = true := by rw [h, hs]
    rw [b6_and] at h1
    exact ((Bool.and_eq_true _ _).mp h1).1
  · intro h
    refine b6_ext (fun i hi => ?_)
    rw [b6_and]
    cases e : b6 s i with
    | false => rw [Bool.and_false]
    | true => rw [h i hi e]; rfl
noncomputable def fitB (k f : Nat) (o : Int64) : Bool := decide (¬ sN k f (lsN o) = 0) && decide (sN k f (lsN o) &&& (o ^^^ (-1)) = 0)
theorem fitB_t {k f : Nat} {o : Int64} (h : fitB k f o = true) : ¬ sN k f (lsN o) = 0 ∧ ∀ i, i < 64 → b6 (sN k f (lsN o)) i = true → b6 o i = true := by
  obtain ⟨a, b⟩ := (Bool.and_eq_true _ _).mp h
  exact ⟨of_decide_eq_true a, sub_m.mp (of_decide_eq_true b)⟩
theorem stoneAt_eq {k f : Nat} {o : Int64} (hk : k < 3) (hf : f < fN k) (hR : R36 o) (h0 : ¬ o = 0) : N_stoneAt (nI f) o (nI k) = some (if fitB k f o then sN k f (lsN o) else 0) := by
  obtain ⟨l36, l1, l2, l3⟩ := lsN_ok hR h0
  have f4 := (fN_le k).1
  have j8 : k * 2 + f < 8 := by
    unfold fN at hf
    split at hf <;> omega
  obtain ⟨t1, t2⟩ := st_tab k hk f (by omega) hf (lsN o) l36
  unfold N_stoneAt N_stoneAt_j42 N_stoneAt_j87
  rw [show nI k * (2:Int32) + nI f = nI (k * 2 + f) by rw [show nI k * (2:Int32) = nI (k * 2) from pk_mul k 2, nI_add], l3, mod6 l36, nI_clamp (by omega), if_neg (nI_pos (by omega)), if_neg (show ¬ Int32.ofNat 8 ≤ nI (k * 2 + f) from nI_ge (b := 8) j8 (by decide)), if_neg (show ¬ Int32.ofNat 8 ≤ nI (k * 2 + f) from nI_ge (b := 8) j8 (by decide)), if_pos (show nI (k * 2 + f) < Int32.ofNat 8 from nI_lt (b := 8) j8 (by decide)), grd_t (gi_nI j8 (by decide)), grd_t (gi_nI j8 (by decide)), grd_t (gi_nI j8 (by decide))]
  by_cases z : sN k f (lsN o) = 0
  · have e : fitB k f o = false := by
      unfold fitB
      rw [decide_eq_false (fun q => q z), Bool.false_and]
    rw [e, if_neg (show ¬ false = true by decide)]
    rcases t2 z with c | c | ⟨c1, c2, c3⟩
    · rw [if_pos c]
    · by_cases c' : (6:Int32) ≤ nI (lsN o % 6) + sxRIGHT (k * 2 + f)
      · rw [if_pos c']
      · rw [if_neg c', if_neg c]
    · by_cases c' : (6:Int32) ≤ nI (lsN o % 6) + sxRIGHT (k * 2 + f)
      · rw [if_pos c']
      · rw [if_neg c']
        by_cases c'' : sxLEFT (k * 2 + f) ≤ nI (lsN o % 6)
        · rw [if_pos c'', if_neg (fun q => by
            have := sub_x.mp q _ c2 c3
            rw [hR _ c1] at this
            cases this)]
        · rw [if_neg c'']
  · obtain ⟨a1, a2, a3⟩ := t1 z
    rw [if_neg a1, if_pos a2, a3]
    by_cases q : o &&& sN k f (lsN o) = sN k f (lsN o)
    · have e : fitB k f o = true := by
        unfold fitB
        rw [decide_eq_true z, decide_eq_true (sub_m.mpr (sub_x.mp q))]; rfl
      rw [if_pos q, e, if_pos rfl]
    · have e : fitB k f o = false := by
        unfold fitB
        rw [decide_eq_false (fun r => q (sub_x.mpr (sub_m.mp r))), Bool.and_false]
      rw [if_neg q, e, if_neg (show ¬ false = true by decide)]
/-- what is left -/
noncomputable def rsN (k f : Nat) (o : Int64) : Int64 := o &&& (sN k f (lsN o) ^^^ (-1))
theorem rs_b6 (k f : Nat) (o : Int64) {i : Nat} (hi : i < 64) : b6 (rsN k f o) i = (b6 o i && !b6 (sN k f (lsN o)) i) := by
  unfold rsN
  rw [b6_and, b6_not _ hi]
theorem rs_R36 {k f : Nat} {o : Int64} (hR : R36 o) : R36 (rsN k f o) := R36_ext (fun i h1 h2 => by rw [rs_b6 k f o h2, hR i h1, Bool.false_and])
theorem cnt_sub {f g : Nat → Bool} : ∀ n, (∀ i, i < n → g i = true → f i = true) → cnt (fun i => f i && !g i) n + cnt g n = cnt f n
  | 0, _ => rfl
  | n + 1, h => by
    have ih := cnt_sub n (fun i hi => h i (by omega))
    show cnt (fun i => f i && !g i) n + (if (f n && !g n) = true then 1 else 0) + (cnt g n + (if g n = true then 1 else 0)) = cnt f n + (if f n = true then 1 else 0)
    have := h n (by omega)
    cases e : g n with
    | false => cases e2 : f n <;> simp <;> omega
    | true => rw [this e]; simp; omega
theorem rs_cnt {k f : Nat} {o : Int64} (hk : k < 3) (hf : f < fN k) (hR : R36 o) (h0 : ¬ o = 0) (h : fitB k f o = true) : cnt (b6 (rsN k f o)) 36 + szN k = cnt (b6 o) 36 := by
  obtain ⟨a, b⟩ := fitB_t h
  have f4 := (fN_le k).1
  rw [← st_cnt k hk f (by omega) hf (lsN o) (lsN_ok hR h0).1 a, ← cnt_sub (f := b6 o) (g := b6 (sN k f (lsN o))) 36 (fun i hi => b i (by omega))]
  congr 1
  exact cnt_congr 36 (fun i hi => rs_b6 k f o (by omega))
/-! the coverings, one behind the other -/
def ct {α : Type} (g : Nat → List α) : Nat → Nat → List α
  | _, 0 => []
  | f, m + 1 => g f ++ ct g (f + 1) m
def sm2 (g : Nat → Nat) : Nat → Nat → Nat
  | _, 0 => 0
  | f, m + 1 => g f + sm2 g (f + 1) m
def upF (fm : Nat → Int32) (s : Int64) (f : Nat) : Nat → Int32 := fun c => if b6 s c then nI f else fm c
abbrev Lf : Type := (Nat → Int32) × UInt32
noncomputable def en : Nat → Nat → Int64 → (Nat → Int32) → UInt32 → List Lf
  | 0, _, _, _, _ => []
  | n + 1, k, o, fm, w => if o = 0 then [(fm, w)] else ct (fun f => if fitB k f o = true then en n k (rsN k f o) (upF fm (sN k f (lsN o)) f) (FP.fmul w (facF (nI f))) else []) 0 (fN k)
noncomputable def tr : Nat → Nat → Int64 → Nat
  | 0, _, _ => 0
  | n + 1, k, o => if o = 0 then 0 else (fN k + 1) + sm2 (fun f => if fitB k f o = true then tr n k (rsN k f o) else 0) 0 (fN k)
abbrev St4 : Type := Int32 × (Nat → Int64) × (Nat → Int32) × (Nat → UInt32)
def LM (d : Nat) (s : St4) (l : Lf) : Prop := s.2.2.2 d = l.2 ∧ PF d l.2 ∧ ∀ c, c < 36 → N_formOver (nI c) (nI d) s.2.1 s.2.2.1 = some (l.1 c)
def Rn (k : Nat) : Nat → Nat → St4 → List Lf → St4 → Prop
  | 0, n, s, L, t => n = 0 ∧ L = [] ∧ t = s
  | m + 1, n, s, L, t => ∃ d, d ≤ 18 ∧ s.1 = nI d ∧ ((¬ s.2.1 d = 0 ∧ ∃ n' s1, n = n' + 1 ∧ N_tryNext (nI k) s.1 s.2.1 s.2.2.1 s.2.2.2 = some s1 ∧ Rn k m n' s1 L t) ∨ (s.2.1 d = 0 ∧ ∃ l L', L = l :: L' ∧ LM d s l ∧ Rn k m n (s.1 - 1, s.2) L' t))
theorem Rn_s {k m n : Nat} {s t : St4} {L : List Lf} : Rn k (m + 1) n s L t = ∃ d, d ≤ 18 ∧ s.1 = nI d ∧ ((¬ s.2.1 d = 0 ∧ ∃ n' s1, n = n' + 1 ∧ N_tryNext (nI k) s.1 s.2.1 s.2.2.1 s.2.2.2 = some s1 ∧ Rn k m n' s1 L t) ∨ (s.2.1 d = 0 ∧ ∃ l L', L = l :: L' ∧ LM d s l ∧ Rn k m n (s.1 - 1, s.2) L' t)) := rfl
theorem Rn_0 {k n : Nat} {s t : St4} {L : List Lf} : Rn k 0 n s L t = (n = 0 ∧ L = [] ∧ t = s) := rfl
theorem Rn_cat {k m2 n2 : Nat} {L2 : List Lf} {t u : St4} (h2 : Rn k m2 n2 t L2 u) : ∀ (m1 n1 : Nat) (s : St4) (L1 : List Lf), Rn k m1 n1 s L1 t → Rn k (m1 + m2) (n1 + n2) s (L1 ++ L2) u
  | 0, n1, s, L1, h => by
    rw [Rn_0] at h
    obtain ⟨a, b, c⟩ := h
    subst a b c
    rw [Nat.zero_add, Nat.zero_add]
    exact h2
  | m + 1, n1, s, L1, h => by
    rw [Rn_s] at h
    rw [show m + 1 + m2 = (m + m2) + 1 by omega, Rn_s]
    obtain ⟨d, hd, e, c⟩ := h
    refine ⟨d, hd, e, ?_⟩
    rcases c with ⟨z, n', s1, en, et, h⟩ | ⟨z, l, L', el, lm, h⟩
    · exact Or.inl ⟨z, n' + n2, s1, by omega, et, Rn_cat h2 m n' s1 L1 h⟩
    · exact Or.inr ⟨z, l, L' ++ L2, by rw [el]; rfl, lm, Rn_cat h2 m n1 _ L' h⟩
theorem Rn_try {k m n d : Nat} {s s1 t : St4} {L : List Lf} (hd : d ≤ 18) (e : s.1 = nI d) (z : ¬ s.2.1 d = 0) (et : N_tryNext (nI k) s.1 s.2.1 s.2.2.1 s.2.2.2 = some s1) (h : Rn k m n s1 L t) : Rn k (m + 1) (n + 1) s L t := by
  rw [Rn_s]
  exact ⟨d, hd, e, Or.inl ⟨z, n, s1, rfl, et, h⟩⟩
/-! forms on the stack -/
def Jf (d : Nat) (fm : Nat → Int32) (sop : Nat → Int64) (str : Nat → Int32) : Prop := (∀ i, i < d → ∀ c, c < 36 → b6 (sop i) c = true → b6 (sop (i + 1)) c = false → fm c = str i ∧ b6 (sop d) c = false) ∧ (∀ c, c < 36 → (∀ i, i < d → ¬ (b6 (sop i) c = true ∧ b6 (sop (i + 1)) c = false)) → fm c = -5)
theorem Jf_ext {d : Nat} {fm : Nat → Int32} {sop sop' : Nat → Int64} {str str' : Nat → Int32} (h1 : ∀ i, i ≤ d → sop' i = sop i) (h2 : ∀ i, i < d → str' i = str i) (h : Jf d fm sop str) : Jf d fm sop' str' := by
  refine ⟨fun i hi c hc a b => ?_, fun c hc a => h.2 c hc (fun i hi q => a i hi ?_)⟩
  · rw [h1 i (by omega)] at a
    rw [h1 (i + 1) (by omega)] at b
    rw [h2 i hi, h1 d (Nat.le_refl d)]
    exact h.1 i hi c hc a b
  · rw [h1 i (by omega), h1 (i + 1) (by omega)]
    exact q
theorem formOver_eq {d c : Nat} {fm : Nat → Int32} {sop : Nat → Int64} {str : Nat → Int32} (hd : d ≤ 18) (hJ : Jf d fm sop str) (hc : c < 36) : N_formOver (nI c) (nI d) sop str = some (fm c) := by
  obtain ⟨r, e, hr⟩ := wh_tot (st := N_formOver_s2 (nI c) (nI d) sop) (fun m s => ∃ i, s = nI i ∧ i + m = d ∧ ∀ j, j < i → ¬ (b6 (sop j) c = true ∧ b6 (sop (j + 1)) c = false)) (B := fun r => (∃ i, i < d ∧ r = Sum.inl (nI i) ∧ b6 (sop i) c = true ∧ b6 (sop (i + 1)) c = false) ∨ (r = Sum.inr () ∧ ∀ j, j < d → ¬ (b6 (sop j) c = true ∧ b6 (sop (j + 1)) c = false))) (fun m s ⟨i, es, hi, hn⟩ => by
    subst es
    rcases Nat.lt_or_ge i d with q | q
    · have E : N_formOver_s2 (nI c) (nI d) sop (nI i) = if (b6 (sop i) c && !b6 (sop (i + 1)) c) then some (Sum.inr (Sum.inl (nI i))) else some (Sum.inl (nI (i + 1))) := by
        unfold N_formOver_s2
        rw [if_neg (nI_ge q (by omega)), if_neg (show ¬ (18:Int32) ≤ nI i from nI_ge (a := i) (b := 18) (by omega) (by decide)), nI_1, grd_t (gi_nI (by omega) (by decide)), grd_t (gi_nI (by omega) (by decide)), nI_clamp (by omega), nI_clamp (by omega), holds_eq hc, b6_and, b6_not _ (by omega), bI_if]
      cases b : (b6 (sop i) c && !b6 (sop (i + 1)) c) with
      | true =>
        rw [b, if_pos rfl] at E
        left
        refine ⟨_, E, Or.inl ⟨i, q, rfl, ?_⟩⟩
        obtain ⟨b1, b2⟩ := (Bool.and_eq_true _ _).mp b
        exact ⟨b1, by cases e : b6 (sop (i + 1)) c with | false => rfl | true => rw [e] at b2; cases b2⟩
      | false =>
        rw [b, if_neg (show ¬ false = true by decide)] at E
        right
        refine ⟨m - 1, _, by omega, E, i + 1, rfl, by omega, fun j hj => ?_⟩
        by_cases c' : j = i
        · subst c'
          rintro ⟨x, y⟩
          rw [x, y] at b
          cases b
        · exact hn j (by omega)
    · have e : i = d := by omega
      subst e
      left
      refine ⟨Sum.inr (), ?_, Or.inr ⟨rfl, hn⟩⟩
      unfold N_formOver_s2
      rw [if_pos (nI_le (Nat.le_refl _) (by omega))]) FU d (nI 0) (by have := FU_big; omega) ⟨0, rfl, by omega, fun j hj => absurd hj (Nat.not_lt_zero _)⟩
  unfold N_formOver
  rw [show (0:Int32) = nI 0 from rfl, e, wbind rfl]
  rcases hr with ⟨i, hi, e2, b1, b2⟩ | ⟨e2, hn⟩
  · subst e2
    show grd (gi (nI i) 19) (some (str (nI i).toNatClampNeg)) = _
    rw [grd_t (gi_nI (by omega) (by decide)), nI_clamp (by omega), (hJ.1 i hi c hc b1 b2).1]
  · subst e2
    show some (-5) = some (fm c)
    rw [hJ.2 c hc hn]
/-! one try -/
theorem forms_eq {k : Nat} (hk : k < 3) : N_forms (nI k) = nI (fN k) := (by decide : ∀ k, k < 3 → N_forms (nI k) = nI (fN k)) k hk
theorem vfu_eq (f : Nat → UInt32) (k : Nat) (x : UInt32) : vf_upd f k x k = x := by simp [vf_upd]
theorem vfu_ne (f : Nat → UInt32) {k j : Nat} (x : UInt32) (h : j ≠ k) : vf_upd f k x j = f j := by simp [vf_upd, h]
section TRY
variable {k d f : Nat} {sop : Nat → Int64} {str : Nat → Int32} {spr : Nat → UInt32}
theorem try_end (hk : k < 3) (hd : d ≤ 18) (hs : str d + 1 = nI f) (hf : fN k ≤ f) (hf4 : f ≤ 4) : N_tryNext (nI k) (nI d) sop str spr = some (nI d - 1, sop, str, spr) := by
  unfold N_tryNext
  rw [if_neg (nI_pos (by omega)), if_pos (show nI d ≤ (18:Int32) from nI_le (b := 18) hd (by decide)), grd_t (gi_nI (by omega) (by decide)), nI_clamp (by omega), hs, forms_eq hk, if_neg (nI_nlt hf (by omega))]
theorem try_no (hk : k < 3) (hd : d ≤ 18) (hs : str d + 1 = nI f) (hf : f < fN k) (hR : R36 (sop d)) (h0 : ¬ sop d = 0) (hB : fitB k f (sop d) = false) : N_tryNext (nI k) (nI d) sop str spr = some (nI d, sop, upd str d (nI f), spr) := by
  have f4 := (fN_le k).1
  unfold N_tryNext N_tryNext_j176
  rw [if_neg (nI_pos (by omega)), if_pos (show nI d ≤ (18:Int32) from nI_le (b := 18) hd (by decide)), grd_t (gi_nI (by omega) (by decide)), nI_clamp (by omega), hs, forms_eq hk, if_pos (nI_lt hf (by omega)), grd_t (gi_nI (by omega) (by decide)), grd_t (gi_nI (by omega) (by decide)), stoneAt_eq hk hf hR h0, wbind rfl, hB, if_neg (show ¬ false = true by decide), if_pos rfl]
theorem try_go (hk : k < 3) (hd : d < 18) (hs : str d + 1 = nI f) (hf : f < fN k) (hR : R36 (sop d)) (h0 : ¬ sop d = 0) (hB : fitB k f (sop d) = true) (hP : PF d (spr d)) : N_tryNext (nI k) (nI d) sop str spr = some (nI (d + 1), vp_updL sop (d + 1) (rsN k f (sop d)), upd (upd str d (nI f)) (d + 1) (-1), vf_upd spr (d + 1) (FP.fmul (spr d) (facF (nI f)))) := by
  have f4 := (fN_le k).1
  have g : nn32 (FP.fmul (spr d) (facF (nI f))) = true := PF_nn (PF_step hP (by omega) (facF_or (nI f))) (by omega)
  unfold facF at g
  unfold N_tryNext
  rw [if_neg (nI_pos (by omega)), if_pos (show nI d ≤ (18:Int32) from nI_le (b := 18) (by omega) (by decide)), grd_t (gi_nI (by omega) (by decide)), nI_clamp (by omega), hs, forms_eq hk, if_pos (nI_lt hf (by omega)), grd_t (gi_nI (by omega) (by decide)), grd_t (gi_nI (by omega) (by decide)), stoneAt_eq hk hf hR h0, wbind rfl, hB, if_pos rfl, if_neg (fitB_t hB).1, if_neg (show ¬ (18:Int32) ≤ nI d from nI_ge (a := d) (b := 18) hd (by decide)), grd_t (gi_nI (by omega) (by decide)), nI_1, grd_t (gi_nI (by omega) (by decide)), grd_t (gi_nI (by omega) (by decide)), grd_t (gi_nI (by omega) (by decide)), grd_t g, grd_t (gi_nI (by omega) (by decide)), nI_clamp (by omega)]
  rfl
end TRY
theorem Jf_push {k d f : Nat} {o : Int64} {fm : Nat → Int32} {sop : Nat → Int64} {str : Nat → Int32} (ho : sop d = o) (hB : fitB k f o = true) (h : Jf d fm sop str) : Jf (d + 1) (upF fm (sN k f (lsN o)) f) (vp_updL sop (d + 1) (rsN k f o)) (upd (upd str d (nI f)) (d + 1) (-1)) := by
  obtain ⟨a, b⟩ := fitB_t hB
  have u1 : ∀ i, i ≤ d → vp_updL sop (d + 1) (rsN k f o) i = sop i := fun i hi => updL_ne _ _ (by omega)
  have u2 : vp_updL sop (d + 1) (rsN k f o) (d + 1) = rsN k f o := updL_eq _ _ _
  refine ⟨fun i hi c hc x y => ?_, fun c hc q => ?_⟩
  · by_cases e : i = d
    · subst e
      rw [u1 i (Nat.le_refl i), ho] at x
      rw [u2, rs_b6 k f o (by omega), x, Bool.true_and] at y
      have y' : b6 (sN k f (lsN o)) c = true := by
        cases e : b6 (sN k f (lsN o)) c with
        | true => rfl
        | false => rw [e] at y; cases y
      refine ⟨?_, by rw [u2, rs_b6 k f o (by omega), y']; exact Bool.and_false _⟩
      unfold upF
      rw [if_pos y', upd_ne _ _ (by omega), upd_eq]
    · rw [u1 i (by omega)] at x
      rw [u1 (i + 1) (by omega)] at y
      obtain ⟨z1, z2⟩ := h.1 i (by omega) c hc x y
      rw [ho] at z2
      refine ⟨?_, by rw [u2, rs_b6 k f o (by omega), z2, Bool.false_and]⟩
      unfold upF
      rw [if_neg (fun t => by rw [b c (by omega) t] at z2; cases z2), upd_ne _ _ (by omega), upd_ne _ _ (by omega), z1]
  · unfold upF
    by_cases e : b6 (sN k f (lsN o)) c = true
    · refine absurd ⟨?_, ?_⟩ (q d (by omega))
      · rw [u1 d (Nat.le_refl d), ho]; exact b c (by omega) e
      · rw [u2, rs_b6 k f o (by omega), e]; exact Bool.and_false _
    · rw [if_neg e]
      refine h.2 c hc (fun i hi t => q i (by omega) ?_)
      rw [u1 i (by omega), u1 (i + 1) (by omega)]
      exact t
/-! from a cell not covered back to the stone ahead -/
def VIS (n k : Nat) : Prop := ∀ (d : Nat) (o : Int64) (fm : Nat → Int32) (w : UInt32) (sop : Nat → Int64) (str : Nat → Int32) (spr : Nat → UInt32), sop d = o → str d = -1 → spr d = w → R36 o → cnt (b6 o) 36 + szN k * d ≤ 36 → cnt (b6 o) 36 < 2 * n → Jf d fm sop str → PF d w → ∃ m t, Rn k m (tr n k o) (nI d, sop, str, spr) (en n k o fm w) t ∧ t.1 = nI d - 1 ∧ ∀ i, i < d → t.2.1 i = sop i ∧ t.2.2.1 i = str i ∧ t.2.2.2 i = spr i
theorem cnt_pos {o : Int64} (hR : R36 o) (h0 : ¬ o = 0) : 1 ≤ cnt (b6 o) 36 := by
  obtain ⟨l, l1, _, _⟩ := lsN_ok hR h0
  have : ∀ n, lsN o < n → 1 ≤ cnt (b6 o) n := fun n => by
    induction n with
    | zero => intro h; omega
    | succ n ih =>
      intro h
      show 1 ≤ cnt (b6 o) n + (if b6 o n = true then 1 else 0)
      by_cases q : lsN o = n
      · rw [← q, l1, if_pos rfl]; omega
      · have := ih (by omega)
        omega
  exact this 36 l
theorem vis_in {n k d : Nat} {o : Int64} {fm : Nat → Int32} {w : UInt32} (hk : k < 3) (H : VIS n k) (hR : R36 o) (h0 : ¬ o = 0) (hc : cnt (b6 o) 36 + szN k * d ≤ 36) (hn : cnt (b6 o) 36 < 2 * (n + 1)) (hP : PF d w) : ∀ (m f : Nat), f + m = fN k → ∀ (sop : Nat → Int64) (str : Nat → Int32) (spr : Nat → UInt32), sop d = o → str d + 1 = nI f → spr d = w → Jf d fm sop str → ∃ j t, Rn k j (m + 1 + sm2 (fun f => if fitB k f o = true then tr n k (rsN k f o) else 0) f m) (nI d, sop, str, spr) (ct (fun f => if fitB k f o = true then en n k (rsN k f o) (upF fm (sN k f (lsN o)) f) (FP.fmul w (facF (nI f))) else []) f m) t ∧ t.1 = nI d - 1 ∧ ∀ i, i < d → t.2.1 i = sop i ∧ t.2.2.1 i = str i ∧ t.2.2.2 i = spr i := by
  have c1 := cnt_pos hR h0
  have s2 := szN_ge k
  have d17 : d ≤ 17 := by
    have : 2 * d ≤ szN k * d := Nat.mul_le_mul_right d s2
    omega
  have f4 := (fN_le k).1
  intro m
  induction m with
  | zero =>
    intro f hf sop str spr ho hs hw hJ
    refine ⟨1, (nI d - 1, sop, str, spr), ?_, rfl, fun i hi => ⟨rfl, rfl, rfl⟩⟩
    exact Rn_try (d := d) (by omega) rfl (by dsimp only; rw [ho]; exact h0) (try_end hk (by omega) hs (by omega) (by omega)) (by rw [Rn_0]; exact ⟨rfl, rfl, rfl⟩)
  | succ m ih =>
    intro f hf sop str spr ho hs hw hJ
    have fk : f < fN k := by omega
    have hR' : R36 (sop d) := by rw [ho]; exact hR
    have h0' : ¬ sop d = 0 := by rw [ho]; exact h0
    have hP' : PF d (spr d) := by rw [hw]; exact hP
    show ∃ j t, Rn k j (m + 1 + 1 + ((if fitB k f o = true then tr n k (rsN k f o) else 0) + sm2 (fun f => if fitB k f o = true then tr n k (rsN k f o) else 0) (f + 1) m)) (nI d, sop, str, spr) ((if fitB k f o = true then en n k (rsN k f o) (upF fm (sN k f (lsN o)) f) (FP.fmul w (facF (nI f))) else []) ++ ct (fun f => if fitB k f o = true then en n k (rsN k f o) (upF fm (sN k f (lsN o)) f) (FP.fmul w (facF (nI f))) else []) (f + 1) m) t ∧ _
    cases hB : fitB k f o with
    | false =>
      have hB' : fitB k f (sop d) = false := by rw [ho]; exact hB
      obtain ⟨j, t, r1, r2, r3⟩ := ih (f + 1) (by omega) sop (upd str d (nI f)) spr ho (by rw [upd_eq, nI_1]) hw (Jf_ext (fun i hi => rfl) (fun i hi => upd_ne _ _ (by omega)) hJ)
      rw [if_neg (show ¬ false = true by decide), if_neg (show ¬ false = true by decide)]
      refine ⟨j + 1, t, ?_, r2, fun i hi => ?_⟩
      · rw [show m + 1 + 1 + (0 + sm2 (fun f => if fitB k f o = true then tr n k (rsN k f o) else 0) (f + 1) m) = (m + 1 + sm2 (fun f => if fitB k f o = true then tr n k (rsN k f o) else 0) (f + 1) m) + 1 by omega]
        exact Rn_try (d := d) (by omega) rfl h0' (try_no hk (by omega) hs fk hR' h0' hB') r1
      · obtain ⟨a1, a2, a3⟩ := r3 i hi
        exact ⟨a1, a2.trans (upd_ne _ _ (by omega)), a3⟩
    | true =>
      have hB' : fitB k f (sop d) = true := by rw [ho]; exact hB
      have hcn := rs_cnt hk fk hR h0 hB
      have hm : szN k * (d + 1) = szN k * d + szN k := Nat.mul_succ _ _
      obtain ⟨j1, t1, q1, q2, q3⟩ := H (d + 1) (rsN k f o) (upF fm (sN k f (lsN o)) f) (FP.fmul w (facF (nI f))) (vp_updL sop (d + 1) (rsN k f o)) (upd (upd str d (nI f)) (d + 1) (-1)) (vf_upd spr (d + 1) (FP.fmul w (facF (nI f)))) (updL_eq _ _ _) (upd_eq _ _ _) (vfu_eq _ _ _) (rs_R36 hR) (by omega) (by omega) (Jf_push ho hB hJ) (PF_step hP (by omega) (facF_or _))
      obtain ⟨x1, xo, xt, xp⟩ := t1
      dsimp only at q2 q3
      have e1 : x1 = nI d := by
        rw [q2, ← nI_1]
        exact Int32.add_sub_cancel _ _
      subst e1
      obtain ⟨j, t, r1, r2, r3⟩ := ih (f + 1) (by omega) xo xt xp ((q3 d (by omega)).1.trans ((updL_ne _ _ (by omega)).trans ho)) (by rw [(q3 d (by omega)).2.1, upd_ne _ _ (by omega), upd_eq, nI_1]) ((q3 d (by omega)).2.2.trans ((vfu_ne _ _ (by omega)).trans hw)) (Jf_ext (fun i hi => (q3 i (by omega)).1.trans (updL_ne _ _ (by omega))) (fun i hi => (q3 i (by omega)).2.1.trans ((upd_ne _ _ (by omega)).trans (upd_ne _ _ (by omega)))) hJ)
      rw [if_pos rfl, if_pos rfl]
      refine ⟨j1 + j + 1, t, ?_, r2, fun i hi => ?_⟩
      · rw [show m + 1 + 1 + (tr n k (rsN k f o) + sm2 (fun f => if fitB k f o = true then tr n k (rsN k f o) else 0) (f + 1) m) = (tr n k (rsN k f o) + (m + 1 + sm2 (fun f => if fitB k f o = true then tr n k (rsN k f o) else 0) (f + 1) m)) + 1 by omega]
        refine Rn_try (d := d) (by omega) rfl h0' (try_go hk (by omega) hs fk hR' h0' hB' hP') ?_
        dsimp only
        rw [ho, hw]
        exact Rn_cat r1 _ _ _ _ q1
      · obtain ⟨a1, a2, a3⟩ := r3 i hi
        obtain ⟨b1, b2, b3⟩ := q3 i (by omega)
        exact ⟨a1.trans (b1.trans (updL_ne _ _ (by omega))), a2.trans (b2.trans ((upd_ne _ _ (by omega)).trans (upd_ne _ _ (by omega)))), a3.trans (b3.trans (vfu_ne _ _ (by omega)))⟩
theorem vis {k : Nat} (hk : k < 3) : ∀ n, VIS n k
  | 0 => fun d o fm w sop str spr _ _ _ _ _ hn => by omega
  | n + 1 => fun d o fm w sop str spr ho hs hw hR hc hn hJ hP => by
    have d18 : d ≤ 18 := by
      have : 2 * d ≤ szN k * d := Nat.mul_le_mul_right d (szN_ge k)
      omega
    by_cases z : o = 0
    · refine ⟨1, (nI d - 1, sop, str, spr), ?_, rfl, fun i hi => ⟨rfl, rfl, rfl⟩⟩
      have e1 : tr (n + 1) k o = 0 := by unfold tr; rw [if_pos z]
      have e2 : en (n + 1) k o fm w = [(fm, w)] := by unfold en; rw [if_pos z]
      rw [e1, e2, Rn_s]
      refine ⟨d, d18, rfl, Or.inr ⟨by dsimp only; rw [ho]; exact z, (fm, w), [], rfl, ⟨hw, hP, fun c hc => formOver_eq d18 hJ hc⟩, ?_⟩⟩
      rw [Rn_0]
      exact ⟨rfl, rfl, rfl⟩
    · have e1 : tr (n + 1) k o = fN k + 1 + sm2 (fun f => if fitB k f o = true then tr n k (rsN k f o) else 0) 0 (fN k) := by
        show (if o = 0 then 0 else _) = _
        rw [if_neg z]
      have e2 : en (n + 1) k o fm w = ct (fun f => if fitB k f o = true then en n k (rsN k f o) (upF fm (sN k f (lsN o)) f) (FP.fmul w (facF (nI f))) else []) 0 (fN k) := by
        show (if o = 0 then _ else _) = _
        rw [if_neg z]
      rw [e1, e2]
      exact vis_in hk (vis hk n) hR z hc hn hP (fN k) 0 (by omega) sop str spr ho (by rw [hs]; decide) hw hJ
