/-! WHAT IS KEPT between calls: the class's leaves beside the reference's. The ground in numbers: vertices v (0 .. 48), ways w (0 r, 1 d, 2 l, 3 u), cells (-1: beyond) -/
def cellN (r c : Int) : Int := if 0 ≤ r ∧ r < 6 ∧ 0 ≤ c ∧ c < 6 then 6 * r + c else -1
def drN (w : Nat) : Int := if w = 1 then 1 else if w = 3 then -1 else 0
def dcN (w : Nat) : Int := if w = 0 then 1 else if w = 2 then -1 else 0
def vtxN (r c : Int) : Int := if 0 ≤ r ∧ r < 7 ∧ 0 ≤ c ∧ c < 7 then 7 * r + c else -1
def nxN (v w : Nat) : Int := vtxN (v / 7 + drN w) (v % 7 + dcN w)
def lrN (v w : Nat) : Int := v / 7 - (if w = 0 ∨ w = 3 then 1 else 0)
def lcN (v w : Nat) : Int := v % 7 - (if w = 2 ∨ w = 3 then 1 else 0)
def rrN (v w : Nat) : Int := v / 7 - (if w = 2 ∨ w = 3 then 1 else 0)
def rcN (v w : Nat) : Int := v % 7 - (if w = 1 ∨ w = 2 then 1 else 0)
/-- the cell on the left, on the right of a step -/
def leN (v w : Nat) : Int := cellN (lrN v w) (lcN v w)
def riN (v w : Nat) : Int := cellN (rrN v w) (rcN v w)
/-- its height -/
def hsN (v w : Nat) : Int := if (lrN v w + lcN v w) % 2 = 0 then 1 else -1
/-- whether a cell (or what is beyond) is in a region -/
def hz (w : Int64) (z : Int) : Bool := decide (0 ≤ z) && b6 w z.toNat
/-- a region: cells 0 .. 35 alone -/
def R36 (w : Int64) : Prop := ∀ k, 36 ≤ k → b6 w k = false
def IR (nrg mrg : Int64) : Prop := mrg = nrg ∧ R36 nrg
/-- a tiling that is laid -/
def Tiled (w : Int64) (mt : Nat → Int32) : Prop := True
def IA (nrg : Int64) (nld : Int32) (nmt ms : Nat → Int32) : Prop :=
  (nld = 0 ∧ ms 0 = 0 ∧ ∀ c, c < 36 → ms (6 + c) = -5) ∨ (nld = 1 ∧ ms 0 = 1 ∧ (∀ c, c < 36 → nmt c = ms (6 + c)) ∧ Tiled nrg nmt)
/-- the walk: vertices vs 0 .. vs l, ways ws -/
def IP (nps npl : Int32) (npw ms : Nat → Int32) : Prop := ∃ (l : Nat) (vs ws : Nat → Nat), l ≤ 40 ∧ vs 0 < 49 ∧ nps = nI (vs 0) ∧ ms 1 = nI (vs 0) ∧ npl = nI l ∧ ms 2 = nI l ∧
  ∀ i, i < l → ws i < 4 ∧ vs (i + 1) < 49 ∧ nxN (vs i) (ws i) = vs (i + 1) ∧ npw i = nI (ws i) ∧ ms (42 + i) = nI (ws i)
/-- rows of two numbers, at most cap of them, counted at ci, standing from base on -/
def IL (vld : Nat → Nat → Prop) (cap ci base : Nat) (sz : Int32) (o q ms : Nat → Int32) : Prop := ∃ l : Nat, l ≤ cap ∧ sz = nI l ∧ ms ci = nI l ∧
  ∀ i, i < l → ∃ a b : Nat, vld a b ∧ o i = nI a ∧ q i = nI b ∧ ms (base + 2 * i) = nI a ∧ ms (base + 2 * i + 1) = nI b
def vSeen (a b : Nat) : Prop := a ≤ 2 ∧ b ≤ 144
def vEvent (a b : Nat) : Prop := a ≤ 3 ∧ (a = 0 → b < 36) ∧ (a = 1 ∨ a = 2 → b < 6) ∧ (a = 3 → b = 0)
def vBook (a b : Nat) : Prop := a < 36 ∧ b ≤ 1
/-- what the image keeps -/
def St (rg : Int64) (ld : Int32) (mt : Nat → Int32) (ps pl : Int32) (pw : Nat → Int32) (ss : Int32) (so sq : Nat → Int32) (es : Int32) (eo eq : Nat → Int32) (gs : Int32) (go gq : Nat → Int32) (mrg : Int64) (ms : Nat → Int32) : Prop :=
  IR rg mrg ∧ IA rg ld mt ms ∧ IP ps pl pw ms ∧ IL vSeen 4 3 82 ss so sq ms ∧ IL vEvent 8 4 90 es eo eq ms ∧ IL vBook 8 5 106 gs go gq ms
/-- the outline: what a look at its region found -/
def IO (okn : Int32) (org : Int64) (osi oti ole oto : Int32) (oow oco : Int64) (ost owa owv owh olo ohi : Nat → Int32) : Prop := okn = 0 ∨ (okn = 1 ∧ R36 org ∧
  ∃ (g0 : Int64) (s0 t0 l0 u0 : Int32) (w0 c0 : Int64) (a1 a2 a3 a4 a5 a6 a7 a8 a9 b1 b2 : Nat → Int32), O_look org 0 g0 s0 t0 l0 u0 w0 c0 a1 a2 a3 a4 a5 a6 a7 a8 a9 = some (1, org, osi, oti, ole, oto, oow, oco, ost, owa, owv, owh, olo, ohi, b1, b2))
/-- the text -/
def IX (rsz : Int32) (rsg : Nat → Int32) (msz : Int32) (mtx : Nat → Int32) : Prop := ∃ l : Nat, l ≤ 100 ∧ rsz = nI l ∧ msz = nI l ∧ ∀ i, i < l → ∃ c : Nat, c < 128 ∧ rsg i = nI c ∧ mtx i = nI c
/-- tapes -/
def IT (tp : Nat → tTp) (mso mmy : Nat → Int32) (mit : Nat → Int64) : Prop := ∀ t, t < 6 → ∃ l : Nat, l ≤ 60 ∧ (tp t).1 = mso t ∧ (mso t = -1 ∨ ∃ o : Nat, o ≤ 4 ∧ mso t = nI o) ∧ (mso t = -1 → l = 0) ∧ (tp t).2.1 = nI l ∧ mmy t = nI l ∧ ∀ i, i < 60 → (tp t).2.2 i = mit (60 * t + i)
def sIR {nrg mrg : Int64} (h : IR nrg mrg) : mrg = nrg := h.1
/-! what of s each of them looks at -/
theorem IA_ext {w : Int64} {ld : Int32} {mt ms ms' : Nat → Int32} (e0 : ms' 0 = ms 0) (e : ∀ c, c < 36 → ms' (6 + c) = ms (6 + c)) (h : IA w ld mt ms) : IA w ld mt ms' := by
  rcases h with ⟨h1, h2, h3⟩ | ⟨h1, h2, h3, h4⟩
  · exact Or.inl ⟨h1, e0 ▸ h2, fun c hc => (e c hc).trans (h3 c hc)⟩
  · exact Or.inr ⟨h1, e0 ▸ h2, fun c hc => (h3 c hc).trans (e c hc).symm, h4⟩
theorem IP_ext {ps pl : Int32} {pw ms ms' : Nat → Int32} (e1 : ms' 1 = ms 1) (e2 : ms' 2 = ms 2) (e : ∀ i, i < 40 → ms' (42 + i) = ms (42 + i)) (h : IP ps pl pw ms) : IP ps pl pw ms' := by
  obtain ⟨l, vs, ws, h1, h2, h3, h4, h5, h6, h7⟩ := h
  refine ⟨l, vs, ws, h1, h2, h3, e1.trans h4, h5, e2.trans h6, fun i hi => ?_⟩
  obtain ⟨k1, k2, k3, k4, k5⟩ := h7 i hi
  exact ⟨k1, k2, k3, k4, (e i (by omega)).trans k5⟩
theorem IL_ext {vld : Nat → Nat → Prop} {cap ci base : Nat} {sz : Int32} {o q ms ms' : Nat → Int32} (e1 : ms' ci = ms ci) (e : ∀ j, base ≤ j → j < base + 2 * cap → ms' j = ms j) (h : IL vld cap ci base sz o q ms) : IL vld cap ci base sz o q ms' := by
  obtain ⟨l, h1, h2, h3, h4⟩ := h
  refine ⟨l, h1, h2, e1.trans h3, fun i hi => ?_⟩
  obtain ⟨a, b, k1, k2, k3, k4, k5⟩ := h4 i hi
  exact ⟨a, b, k1, k2, k3, (e _ (by omega) (by omega)).trans k4, (e _ (by omega) (by omega)).trans k5⟩
/-! small ints -/
theorem nIc {x : Int32} {n : Nat} (hn : n < 2 ^ 31) (h : M_isIn x 0 (nI n) = 1) : ∃ k, k ≤ n ∧ x = nI k := by
  unfold M_isIn at h
  split at h
  · exact absurd h (by decide)
  · rename_i h1
    split at h
    · exact absurd h (by decide)
    · rename_i h2
      exact nI_of2 (M := nI n) (nI_toInt hn) h1 (Int32.not_lt.mp h2)
theorem M_isIn_01 (x a b : Int32) : M_isIn x a b = 0 ∨ M_isIn x a b = 1 := M_isIn_z
theorem M_isIn_y {k n : Nat} (hn : n < 2 ^ 31) (h : k ≤ n) : M_isIn (nI k) 0 (nI n) = 1 := by
  unfold M_isIn
  rw [if_neg (nI_pos (by omega)), if_neg (nI_nlt (a := n) (b := k) h hn)]
theorem upd_eq (f : Nat → Int32) (k : Nat) (x : Int32) : upd f k x k = x := by simp [upd]
theorem upd_ne (f : Nat → Int32) {k j : Nat} (x : Int32) (h : j ≠ k) : upd f k x j = f j := by simp [upd, h]
/-- lists of the reference: the row appended -/
def lstM (ms : Nat → Int32) (ci base l : Nat) (a b : Int32) : Nat → Int32 := upd (upd (upd ms (base + 2 * l) a) (base + 2 * l + 1) b) ci (nI (l + 1))
theorem M_lists_eq {ms : Nat → Int32} {ci base cap l : Nat} (a b : Int32) (h0 : ms ci = nI l) (hl : l ≤ cap) (hc : ci < base) (hb : base + 2 * cap ≤ 122) :
    M_lists (nI ci) (nI base) (nI cap) a b ms = if l = cap then some (-4, ms) else some (nI (l + 1), lstM ms ci base l a b) := by
  have c1 : (nI ci).toNatClampNeg = ci := nI_clamp (by omega)
  have g1 : gi (nI ci) 122 = true := gi_nI (by omega) (by decide)
  have m1 : (2 : Int32) * nI l = nI (2 * l) := pk_mul 2 l
  unfold M_lists
  rw [grd_t g1, c1, h0]
  by_cases e : l = cap
  · rw [if_pos (by rw [e]), if_pos e]
  · rw [if_neg (fun q => e ((nI_eq (by omega) (by omega)).mp q)), if_neg e]
    have c2 : (nI base + 2 * nI l).toNatClampNeg = base + 2 * l := by rw [m1, nI_add, nI_clamp (by omega)]
    have g2 : gi (nI base + 2 * nI l) 122 = true := by rw [m1, nI_add]; exact gi_nI (by omega) (by decide)
    have u1 : upd ms (base + 2 * l) a ci = nI l := by rw [upd_ne _ _ (by omega), h0]
    have c3 : (nI base + 2 * nI l + 1).toNatClampNeg = base + 2 * l + 1 := by rw [m1, nI_add, nI_1, nI_clamp (by omega)]
    have g3 : gi (nI base + 2 * nI l + 1) 122 = true := by rw [m1, nI_add, nI_1]; exact gi_nI (by omega) (by decide)
    have u2 : upd (upd ms (base + 2 * l) a) (base + 2 * l + 1) b ci = nI l := by rw [upd_ne _ _ (by omega), u1]
    rw [c2, u1, c3, u2, grd_t g1, grd_t g2, grd_t g1, grd_t g3, grd_t g1, grd_t g1, grd_t g1, nI_1, upd_eq]
    rfl
theorem lstM_ne {ms : Nat → Int32} {ci base l j : Nat} {a b : Int32} (h1 : j ≠ ci) (h2 : j ≠ base + 2 * l) (h3 : j ≠ base + 2 * l + 1) : lstM ms ci base l a b j = ms j := by
  unfold lstM
  rw [upd_ne _ _ h1, upd_ne _ _ h3, upd_ne _ _ h2]
theorem IL_app {vld : Nat → Nat → Prop} {cap ci base l : Nat} {o q ms : Nat → Int32} {a b : Nat} (hv : vld a b) (hl : l < cap) (hc : ci < base)
    (h : ∀ i, i < l → ∃ a b : Nat, vld a b ∧ o i = nI a ∧ q i = nI b ∧ ms (base + 2 * i) = nI a ∧ ms (base + 2 * i + 1) = nI b) :
    IL vld cap ci base (nI (l + 1)) (upd o l (nI a)) (upd q l (nI b)) (lstM ms ci base l (nI a) (nI b)) := by
  refine ⟨l + 1, by omega, rfl, by unfold lstM; rw [upd_eq], fun i hi => ?_⟩
  rcases Nat.lt_or_ge i l with h1 | h1
  · obtain ⟨a', b', k1, k2, k3, k4, k5⟩ := h i h1
    refine ⟨a', b', k1, ?_, ?_, ?_, ?_⟩
    · rw [upd_ne _ _ (by omega), k2]
    · rw [upd_ne _ _ (by omega), k3]
    · rw [lstM_ne (by omega) (by omega) (by omega), k4]
    · rw [lstM_ne (by omega) (by omega) (by omega), k5]
  · have e : i = l := by omega
    subst e
    refine ⟨a, b, hv, upd_eq _ _ _, upd_eq _ _ _, ?_, ?_⟩
    · unfold lstM; rw [upd_ne _ _ (by omega), upd_ne _ _ (by omega), upd_eq]
    · unfold lstM; rw [upd_ne _ _ (by omega), upd_eq]
theorem R_append_eq {l : Nat} {o q : Nat → Int32} (a b : Int32) (hl : l ≤ 4) : R_append a b (nI l) o q = if l = 4 then some (0, nI l, o, q) else some (1, nI (l + 1), upd o l a, upd q l b) := by
  unfold R_append
  rw [if_neg (nI_pos (by omega))]
  by_cases e : l = 4
  · subst e
    rw [if_pos (by decide), if_pos rfl]
    rfl
  · rw [if_neg e, if_neg (show ¬ Int32.ofNat 4 ≤ nI l from nI_ge (a := l) (b := 4) (by omega) (by decide)), if_pos (show nI l < Int32.ofNat 4 from nI_lt (a := l) (b := 4) (by omega) (by decide)), grd_t (gi_nI (by omega) (by decide)), grd_t (gi_nI (by omega) (by decide)), nI_1, nI_clamp (by omega)]
theorem R_append_2_eq {l : Nat} {o q : Nat → Int32} (a b : Int32) (hl : l ≤ 8) : R_append_2 a b (nI l) o q = if l = 8 then some (0, nI l, o, q) else some (1, nI (l + 1), upd o l a, upd q l b) := by
  unfold R_append_2
  rw [if_neg (nI_pos (by omega))]
  by_cases e : l = 8
  · subst e
    rw [if_pos (by decide), if_pos rfl]
    rfl
  · rw [if_neg e, if_neg (show ¬ Int32.ofNat 8 ≤ nI l from nI_ge (a := l) (b := 8) (by omega) (by decide)), if_pos (show nI l < Int32.ofNat 8 from nI_lt (a := l) (b := 8) (by omega) (by decide)), grd_t (gi_nI (by omega) (by decide)), grd_t (gi_nI (by omega) (by decide)), nI_1, nI_clamp (by omega)]
