/-! the real machine behind ours: numbers of cells and their addresses -/
def rv (ad : Nat → Nat) (fv : Value) : Value → Value
  | .ref k => .ref (ad k)
  | .retAddr _ => fv
  | .int x => .int x
  | .long x => .long x
  | .float x => .float x
  | .double x => .double x
  | .null => .null
theorem rv_cat {ad : Nat → Nat} {fv : Value} (hf : fv.category = 1) (v : Value) : (rv ad fv v).category = v.category := by
  cases v <;> simp [rv, Value.category]
  exact hf
theorem rv_sum {ad : Nat → Nat} {fv : Value} (hf : fv.category = 1) (st : List Value) : ((st.map (rv ad fv)).map fun v => v.category).sum = sxCat st := by
  unfold sxCat
  rw [List.map_map]
  congr 1
  exact List.map_congr_left fun v _ => rv_cat hf v
def rcell (ad : Nat → Nat) (fv : Value) (cA : Nat → ClassId) : va_E → va_E
  | .inl (t, n, .inr (.inr (.inr (.inr f)))) => .inl (cA t, n, .inr (.inr (.inr (.inr (fun i => (f i).map ad)))))
  | .inl (t, n, .inl f) => .inl (cA t, n, .inl f)
  | .inl (t, n, .inr (.inl f)) => .inl (cA t, n, .inr (.inl f))
  | .inl (t, n, .inr (.inr (.inl f))) => .inl (cA t, n, .inr (.inr (.inl f)))
  | .inl (t, n, .inr (.inr (.inr (.inl f)))) => .inl (cA t, n, .inr (.inr (.inr (.inl f))))
  | .inr (ci, fs) => .inr (ci, fs.map (rv ad fv))
def wld (ad : Nat → Nat) (fv : Value) (cA : Nat → ClassId) (hp : sxH) : va_W := hp.mapIdx (fun k c => (ad k, rcell ad fv cA c))
theorem sxg_eq : ∀ (hp : sxH) (k : Nat), sxg hp k = hp[k]?
  | [], k => by simp [sxg]
  | c :: r, 0 => by simp [sxg]
  | c :: r, k + 1 => by simp [sxg, sxg_eq r k]
section WLD
variable {ad : Nat → Nat} {fv : Value} {cA : Nat → ClassId} {hp : sxH}
theorem wld_get (k : Nat) : (wld ad fv cA hp)[k]? = (hp[k]?).map (fun c => (ad k, rcell ad fv cA c)) := by
  simp [wld, List.getElem?_mapIdx]
theorem wld_at {k : Nat} {c : va_E} (h : hp[k]? = some c) : (wld ad fv cA hp)[k]? = some (ad k, rcell ad fv cA c) := by
  rw [wld_get, h]; rfl
theorem wld_of {k : Nat} {q : Nat × va_E} (h : (wld ad fv cA hp)[k]? = some q) : ∃ c, hp[k]? = some c ∧ q = (ad k, rcell ad fv cA c) := by
  rw [wld_get] at h
  cases hc : hp[k]? with
  | none => rw [hc] at h; cases h
  | some c => rw [hc] at h; exact ⟨c, rfl, (Option.some.inj h).symm⟩
theorem wld_set (k : Nat) (c : va_E) : wld ad fv cA (hp.set k c) = (wld ad fv cA hp).set k (ad k, rcell ad fv cA c) := by
  apply List.ext_getElem?
  intro i
  rw [wld_get, List.getElem?_set, List.getElem?_set]
  have hl : (wld ad fv cA hp).length = hp.length := by simp [wld]
  rw [hl]
  by_cases h1 : k = i
  · subst h1
    by_cases h2 : k < hp.length
    · simp [h2]
    · simp [h2]
  · simp only [if_neg h1]
    rw [wld_get]
theorem wld_app (c : va_E) : wld ad fv cA (hp ++ [c]) = wld ad fv cA hp ++ [(ad hp.length, rcell ad fv cA c)] := by
  apply List.ext_getElem?
  intro i
  have hl : (wld ad fv cA hp).length = hp.length := by simp [wld]
  rw [wld_get]
  rcases Nat.lt_trichotomy i hp.length with h | h | h
  · rw [List.getElem?_append_left h, List.getElem?_append_left (by rw [hl]; exact h), wld_get]
  · subst h
    rw [List.getElem?_append_right (Nat.le_refl _), List.getElem?_append_right (by rw [hl]; exact Nat.le_refl _), hl]
    simp
  · rw [List.getElem?_append_right (by omega), List.getElem?_append_right (by rw [hl]; omega), hl]
    have : i - hp.length ≠ 0 := by omega
    cases hq : i - hp.length with
    | zero => omega
    | succ k => simp
end WLD
/-! references that are there -/
def okv (n : Nat) : Value → Prop
  | .ref k => k < n ∨ 1000000 ≤ k
  | _ => True
def okc (n : Nat) : va_E → Prop
  | .inl (_, _, .inr (.inr (.inr (.inr f)))) => ∀ i k, f i = some k → k < n
  | .inl _ => True
  | .inr (_, fs) => ∀ v ∈ fs, okv n v
def okH (hp : sxH) : Prop := ∀ c ∈ hp, okc hp.length c
def okS (n : Nat) (st : List Value) : Prop := ∀ v ∈ st, okv n v
theorem okv.mono {n m : Nat} (h : n ≤ m) {v : Value} (hv : okv n v) : okv m v := by
  cases v with
  | ref k => exact hv.elim (fun q => Or.inl (Nat.lt_of_lt_of_le q h)) Or.inr
  | _ => trivial
theorem okc.mono {n m : Nat} (h : n ≤ m) {c : va_E} (hc : okc n c) : okc m c := by
  rcases c with ⟨t, k, f | f | f | f | f⟩ | ⟨ci, fs⟩
  · trivial
  · trivial
  · trivial
  · trivial
  · exact fun i k hk => Nat.lt_of_lt_of_le (hc i k hk) h
  · exact fun v hv => (hc v hv).mono h
theorem okS.mono {n m : Nat} (h : n ≤ m) {st : List Value} (hv : okS n st) : okS m st := fun v q => (hv v q).mono h
theorem okS.cons {n : Nat} {v : Value} {st : List Value} (h : okv n v) (hs : okS n st) : okS n (v :: st) := by
  intro w hw
  rcases List.mem_cons.mp hw with rfl | hw
  · exact h
  · exact hs w hw
theorem okS.tl {n : Nat} {v : Value} {st : List Value} (hs : okS n (v :: st)) : okS n st := fun w hw => hs w (List.mem_cons_of_mem _ hw)
theorem okS.hd {n : Nat} {v : Value} {st : List Value} (hs : okS n (v :: st)) : okv n v := hs v List.mem_cons_self
theorem okS.app {n : Nat} {a b : List Value} (ha : okS n a) (hb : okS n b) : okS n (a ++ b) := fun w hw => (List.mem_append.mp hw).elim (ha w) (hb w)
theorem okH.set {hp : sxH} (h : okH hp) {k : Nat} {c : va_E} (hc : okc hp.length c) : okH (hp.set k c) := by
  intro x hx
  rw [List.length_set]
  rcases List.mem_or_eq_of_mem_set hx with hx | rfl
  · exact h x hx
  · exact hc
theorem okH.push {hp : sxH} (h : okH hp) {c : va_E} (hc : okc (hp.length + 1) c) : okH (hp ++ [c]) := by
  intro x hx
  rw [List.length_append]
  rcases List.mem_append.mp hx with hx | hx
  · exact (h x hx).mono (Nat.le_add_right _ _)
  · rw [List.mem_singleton.mp hx]
    exact hc
theorem okH.at {hp : sxH} (h : okH hp) {k : Nat} {c : va_E} (hk : hp[k]? = some c) : okc hp.length c := h c (List.mem_of_getElem? hk)
/-- two readings of the numbers that agree on what is there -/
def agr (n : Nat) (ad ad' : Nat → Nat) : Prop := ∀ k, (k < n ∨ 1000000 ≤ k) → ad' k = ad k
theorem agr.rf {n : Nat} {ad : Nat → Nat} : agr n ad ad := fun _ _ => rfl
theorem agr.trans {n m : Nat} {a b c : Nat → Nat} (h : n ≤ m) (h1 : agr n a b) (h2 : agr m b c) : agr n a c := fun k hk => (h2 k (by omega)).trans (h1 k hk)
theorem agr.val {n : Nat} {ad ad' : Nat → Nat} {fv : Value} (h : agr n ad ad') {v : Value} (hv : okv n v) : rv ad' fv v = rv ad fv v := by
  cases v <;> simp only [rv]
  rw [h _ hv]
theorem agr.st {n : Nat} {ad ad' : Nat → Nat} {fv : Value} (h : agr n ad ad') {st : List Value} (hs : okS n st) : st.map (rv ad' fv) = st.map (rv ad fv) := List.map_congr_left fun v hv => h.val (hs v hv)
theorem agr.cell {n : Nat} {ad ad' : Nat → Nat} {fv : Value} {cA : Nat → ClassId} (h : agr n ad ad') {c : va_E} (hc : okc n c) : rcell ad' fv cA c = rcell ad fv cA c := by
  rcases c with ⟨t, k, f | f | f | f | f⟩ | ⟨ci, fs⟩
  · rfl
  · rfl
  · rfl
  · rfl
  · have e : (fun i => (f i).map ad') = (fun i => (f i).map ad) := by
      funext i
      cases hf : f i with
      | none => rfl
      | some k => simp only [Option.map_some]; rw [h k (Or.inl (hc i k hf))]
    show Sum.inl (cA t, k, Sum.inr (Sum.inr (Sum.inr (Sum.inr (fun i => (f i).map ad'))))) = _
    rw [e]
    rfl
  · show Sum.inr (ci, fs.map (rv ad' fv)) = _
    rw [h.st hc]
    rfl
theorem agr.wl {ad ad' : Nat → Nat} {fv : Value} {cA : Nat → ClassId} {hp : sxH} (h : agr hp.length ad ad') (hk : okH hp) : wld ad' fv cA hp = wld ad fv cA hp := by
  apply List.ext_getElem?
  intro i
  rw [wld_get, wld_get]
  cases hc : hp[i]? with
  | none => rfl
  | some c =>
    simp only [Option.map_some]
    rw [h i (Or.inl (List.getElem?_eq_some_iff.mp hc).1), h.cell (hk.at hc)]
/-- a new cell's address -/
def adn (ad : Nat → Nat) (n q : Nat) : Nat → Nat := fun k => if k = n then q else ad k
theorem agr_adn {ad : Nat → Nat} {n q : Nat} (h : n < 1000000) : agr n ad (adn ad n q) := by
  intro k hk
  unfold adn
  rw [if_neg (by omega)]
theorem adn_self {ad : Nat → Nat} {n q : Nat} : adn ad n q n = q := by simp [adn]
/-! locals -/
theorem sxl_s1 : ∀ (L : sxL) (i j : Nat) (v : Value), i < L.length → sxl (sxs1 L i v) j = if j = i then some v else if j + 1 = i then sxc2 (sxl L j) else sxl L j
  | [], i, j, v, h => by simp at h
  | a :: r, 0, j, v, _ => by
    cases j with
    | zero => simp [sxs1, sxl]
    | succ j => simp [sxs1, sxl]
  | a :: r, 1, j, v, h => by
    cases j with
    | zero => simp [sxs1, sxl]
    | succ j =>
      have h1 := sxl_s1 r 0 j v (by simp at h; omega)
      show sxl (sxs1 r 0 v) j = if j + 1 = 1 then some v else if j + 1 + 1 = 1 then sxc2 (sxl r j) else sxl r j
      rw [h1]
      by_cases q : j = 0
      · rw [if_pos q, if_pos (show j + 1 = 1 by omega)]
      · rw [if_neg q, if_neg (show ¬ j + 1 = 0 by omega), if_neg (show ¬ j + 1 = 1 by omega), if_neg (show ¬ j + 1 + 1 = 1 by omega)]
  | a :: r, i + 2, j, v, h => by
    cases j with
    | zero =>
      show a = if 0 = i + 2 then some v else if 0 + 1 = i + 2 then sxc2 a else a
      rw [if_neg (show ¬ 0 = i + 2 by omega), if_neg (show ¬ 0 + 1 = i + 2 by omega)]
    | succ j =>
      have h1 := sxl_s1 r (i + 1) j v (by simp at h; omega)
      show sxl (sxs1 r (i + 1) v) j = if j + 1 = i + 2 then some v else if j + 1 + 1 = i + 2 then sxc2 (sxl r j) else sxl r j
      rw [h1]
      by_cases q : j = i + 1
      · rw [if_pos q, if_pos (show j + 1 = i + 2 by omega)]
      · rw [if_neg q, if_neg (show ¬ j + 1 = i + 2 by omega)]
        by_cases q2 : j + 1 = i + 1
        · rw [if_pos q2, if_pos (show j + 1 + 1 = i + 2 by omega)]
        · rw [if_neg q2, if_neg (show ¬ j + 1 + 1 = i + 2 by omega)]
theorem sxl_s2 : ∀ (L : sxL) (i j : Nat) (v : Value), i + 1 < L.length → sxl (sxs2 L i v) j = if j = i then some v else if j = i + 1 then none else if j + 1 = i then sxc2 (sxl L j) else sxl L j
  | [], i, j, v, h => by simp at h
  | [a], i, j, v, h => by simp at h
  | a :: b :: r, 0, j, v, _ => by
    match j with
    | 0 => simp [sxs2, sxl]
    | 1 => simp [sxs2, sxl]
    | j + 2 => simp [sxs2, sxl]
  | a :: b :: r, 1, j, v, h => by
    cases j with
    | zero => simp [sxs2, sxl]
    | succ j =>
      have h1 := sxl_s2 (b :: r) 0 j v (by simp at h ⊢; omega)
      show sxl (sxs2 (b :: r) 0 v) j = if j + 1 = 1 then some v else if j + 1 = 1 + 1 then none else if j + 1 + 1 = 1 then sxc2 (sxl (b :: r) j) else sxl (b :: r) j
      rw [h1]
      by_cases q : j = 0
      · rw [if_pos q, if_pos (show j + 1 = 1 by omega)]
      · rw [if_neg q, if_neg (show ¬ j + 1 = 1 by omega)]
        by_cases q3 : j = 0 + 1
        · rw [if_pos q3, if_pos (show j + 1 = 1 + 1 by omega)]
        · rw [if_neg q3, if_neg (show ¬ j + 1 = 1 + 1 by omega), if_neg (show ¬ j + 1 = 0 by omega), if_neg (show ¬ j + 1 + 1 = 1 by omega)]
  | a :: b :: r, i + 2, j, v, h => by
    cases j with
    | zero =>
      show a = if 0 = i + 2 then some v else if 0 = i + 2 + 1 then none else if 0 + 1 = i + 2 then sxc2 a else a
      rw [if_neg (show ¬ 0 = i + 2 by omega), if_neg (show ¬ 0 = i + 2 + 1 by omega), if_neg (show ¬ 0 + 1 = i + 2 by omega)]
    | succ j =>
      have h1 := sxl_s2 (b :: r) (i + 1) j v (by simp at h ⊢; omega)
      show sxl (sxs2 (b :: r) (i + 1) v) j = if j + 1 = i + 2 then some v else if j + 1 = i + 2 + 1 then none else if j + 1 + 1 = i + 2 then sxc2 (sxl (b :: r) j) else sxl (b :: r) j
      rw [h1]
      by_cases q : j = i + 1
      · rw [if_pos q, if_pos (show j + 1 = i + 2 by omega)]
      · rw [if_neg q, if_neg (show ¬ j + 1 = i + 2 by omega)]
        by_cases q3 : j = i + 1 + 1
        · rw [if_pos q3, if_pos (show j + 1 = i + 2 + 1 by omega)]
        · rw [if_neg q3, if_neg (show ¬ j + 1 = i + 2 + 1 by omega)]
          by_cases q2 : j + 1 = i + 1
          · rw [if_pos q2, if_pos (show j + 1 + 1 = i + 2 by omega)]
          · rw [if_neg q2, if_neg (show ¬ j + 1 + 1 = i + 2 by omega)]
theorem sxs1_len : ∀ (L : sxL) (i : Nat) (v : Value), (sxs1 L i v).length = L.length
  | [], i, v => by simp [sxs1]
  | a :: r, 0, v => by simp [sxs1]
  | a :: r, 1, v => by simp [sxs1, sxs1_len r 0 v]
  | a :: r, i + 2, v => by simp [sxs1, sxs1_len r (i + 1) v]
theorem sxs2_len : ∀ (L : sxL) (i : Nat) (v : Value), (sxs2 L i v).length = L.length
  | [], i, v => by simp [sxs2]
  | [a], 0, v => by simp [sxs2]
  | a :: b :: r, 0, v => by simp [sxs2]
  | a :: r, 1, v => by simp [sxs2, sxs2_len r 0 v]
  | a :: r, i + 2, v => by simp [sxs2, sxs2_len r (i + 1) v]
theorem sxc2_some {o : Option Value} {v : Value} (h : sxc2 o = some v) : o = some v ∧ v.category = 1 := by
  cases o with
  | none => simp [sxc2] at h
  | some w => cases w <;> simp [sxc2] at h <;> subst h <;> simp [Value.category]
def RL (ad : Nat → Nat) (fv : Value) (nL n : Nat) (ls : Array Slot) (L : sxL) : Prop := ls.size = nL ∧ lv_wf ls ∧ L.length = nL ∧ ∀ (i : Nat) (v : Value), sxl L i = some v → ls[i]? = some (.val (rv ad fv v)) ∧ okv n v
def lvL (ad : Nat → Nat) (fv : Value) (L : sxL) : List (Nat × Value) := (List.range L.length).filterMap (fun i => (sxl L i).map (fun v => (i, rv ad fv v)))
theorem sxl_lt : ∀ (L : sxL) (i : Nat) (v : Value), sxl L i = some v → i < L.length
  | [], i, v, h => by simp [sxl] at h
  | a :: r, 0, v, h => by simp
  | a :: r, i + 1, v, h => by
    have := sxl_lt r i v (by simpa [sxl] using h)
    simpa using this
section RLS
variable {ad ad' : Nat → Nat} {fv : Value} {nL n : Nat} {ls : Array Slot} {L : sxL}
theorem RL.has (h : RL ad fv nL n ls L) : lv_has ls nL (lvL ad fv L) := by
  obtain ⟨h1, h2, h3, h4⟩ := h
  refine ⟨h1, h2, fun q hq => ?_⟩
  obtain ⟨i, -, hi⟩ := List.mem_filterMap.mp hq
  cases hs : sxl L i with
  | none => rw [hs] at hi; cases hi
  | some v =>
    rw [hs] at hi
    cases hi
    exact (h4 i v hs).1
theorem lvL_mem {i : Nat} {v : Value} (h : sxl L i = some v) : (i, rv ad fv v) ∈ lvL ad fv L := by
  refine List.mem_filterMap.mpr ⟨i, List.mem_range.mpr (sxl_lt L i v h), ?_⟩
  rw [h]; rfl
theorem RL.get (h : RL ad fv nL n ls L) {i : Nat} {v : Value} (hs : sxl L i = some v) : ls[i]? = some (.val (rv ad fv v)) := (h.2.2.2 i v hs).1
theorem RL.ok (h : RL ad fv nL n ls L) {i : Nat} {v : Value} (hs : sxl L i = some v) : okv n v := (h.2.2.2 i v hs).2
theorem RL.s1 (hf : fv.category = 1) (h : RL ad fv nL n ls L) {i : Nat} {v : Value} (hi : i < nL) (hv : okv n v) {ls' : Array Slot} (hl : lv_has ls' nL ((i, rv ad fv v) :: (lvL ad fv L).filter (fun q => !(q.1 == i) && !(q.1 + 1 == i && q.2.category == 2)))) : RL ad fv nL n ls' (sxs1 L i v) := by
  refine ⟨hl.1, hl.2.1, (sxs1_len L i v).trans h.2.2.1, fun j u hj => ?_⟩
  rw [sxl_s1 L i j v (by rw [h.2.2.1]; exact hi)] at hj
  by_cases q1 : j = i
  · rw [if_pos q1] at hj
    cases hj
    rw [q1]
    exact ⟨hl.2.2 (i, rv ad fv v) List.mem_cons_self, hv⟩
  · rw [if_neg q1] at hj
    by_cases q2 : j + 1 = i
    · rw [if_pos q2] at hj
      obtain ⟨e1, e2⟩ := sxc2_some hj
      refine ⟨hl.2.2 (j, rv ad fv u) (List.mem_cons_of_mem _ (List.mem_filter.mpr ⟨lvL_mem e1, ?_⟩)), h.ok e1⟩
      simp [q1, rv_cat hf, e2]
    · rw [if_neg q2] at hj
      refine ⟨hl.2.2 (j, rv ad fv u) (List.mem_cons_of_mem _ (List.mem_filter.mpr ⟨lvL_mem hj, ?_⟩)), h.ok hj⟩
      simp [q1, q2]
theorem RL.s2 (hf : fv.category = 1) (h : RL ad fv nL n ls L) {i : Nat} {v : Value} (hi : i + 1 < nL) (hv : okv n v) {ls' : Array Slot} (hl : lv_has ls' nL ((i, rv ad fv v) :: (lvL ad fv L).filter (fun q => !(q.1 == i) && (!(q.1 == i + 1) && !(q.1 + 1 == i && q.2.category == 2))))) : RL ad fv nL n ls' (sxs2 L i v) := by
  refine ⟨hl.1, hl.2.1, (sxs2_len L i v).trans h.2.2.1, fun j u hj => ?_⟩
  rw [sxl_s2 L i j v (by rw [h.2.2.1]; exact hi)] at hj
  by_cases q1 : j = i
  · rw [if_pos q1] at hj
    cases hj
    rw [q1]
    exact ⟨hl.2.2 (i, rv ad fv v) List.mem_cons_self, hv⟩
  · rw [if_neg q1] at hj
    by_cases q3 : j = i + 1
    · rw [if_pos q3] at hj
      cases hj
    · rw [if_neg q3] at hj
      by_cases q2 : j + 1 = i
      · rw [if_pos q2] at hj
        obtain ⟨e1, e2⟩ := sxc2_some hj
        refine ⟨hl.2.2 (j, rv ad fv u) (List.mem_cons_of_mem _ (List.mem_filter.mpr ⟨lvL_mem e1, ?_⟩)), h.ok e1⟩
        simp [q1, q3, rv_cat hf, e2]
      · rw [if_neg q2] at hj
        refine ⟨hl.2.2 (j, rv ad fv u) (List.mem_cons_of_mem _ (List.mem_filter.mpr ⟨lvL_mem hj, ?_⟩)), h.ok hj⟩
        simp [q1, q2, q3]
theorem RL.agr {m : Nat} (h : RL ad fv nL n ls L) (hm : n ≤ m) (ha : agr n ad ad') : RL ad' fv nL m ls L := by
  refine ⟨h.1, h.2.1, h.2.2.1, fun i v hs => ⟨?_, (h.ok hs).mono hm⟩⟩
  rw [ha.val (h.ok hs)]
  exact h.get hs
end RLS
