/-! a CLAUSE done on both sides -/
theorem let_c : ∀ c, c < 128 → 0 ≤ C_digitsOf (nI c) → c = 99 ∨ c = 101 ∨ c = 102 ∨ c = 103 ∨ c = 108 ∨ c = 109 ∨ c = 116 ∨ c = 119 := by decide +kernel
section DOES
variable {rg mrg : Int64} {ld ps pl ss es gs : Int32} {mt pw so sq eo eq go gq ms : Nat → Int32}
variable {okn : Int32} {org : Int64} {osi oti ole oto : Int32} {oow oco : Int64} {ost owa owv owh olo ohi : Nat → Int32}
variable {l b j : Nat} {g g' t : Nat → Int32}
theorem xh (hX : TX l g g') (hb : b ≤ 100) (k : Nat) (hk : k ≤ 10) {x : Int32} (e : x = nI k) : C_digit (nI b + x) (nI l) g = some (dgT (sgT l g (b + k))) := by
  subst e
  rw [nI_add]
  exact digit_eq hX (by omega)
theorem dd9 (hX : TX l g g') {a : Nat} (h : ¬ dgT (sgT l g a) = -1) : ∃ d, d < 10 ∧ dgT (sgT l g a) = nI d := by
  rcases dg_ok (sg_ok hX a) with ⟨e, _⟩ | ⟨d, hd, e, _⟩
  · exact absurd e h
  · exact ⟨d, by omega, e⟩
theorem do_c (hX : TX l g g') (hj : j < 12) (hb : b ≤ 100) (h : St rg ld mt ps pl pw ss so sq es eo eq gs go gq mrg ms) (hI : TI rg ld mt) (hO : IOk okn org osi oti ole oto oow oco ost owa owv owh olo ohi) (ora odi oqu : Nat → Int32) (gle gsu : Int32) (gma gpi gst ghe gow gfa gqu glo ghi gby gib : Nat → Int32) (hx : sgT l g b = 99) (t0 : t (26 * j) = 99) {r cc : Nat} (hr : r < 10) (hc : cc < 10) (x1 : dgT (sgT l g (b + 1)) = nI r) (x2 : dgT (sgT l g (b + 2)) = nI cc) (t1 : t (26 * j + 1) = nI r) (t2 : t (26 * j + 2) = nI cc) : ∃ q, X_carriedOut (nI b) rg ld mt ps pl pw okn org osi oti ole oto oow oco ost owa owv owh olo ohi ora odi oqu (nI l) g = some q ∧ ∃ q', M_does (nI (26 * j)) mrg gle gsu ms gma gpi gst ghe gow gfa gqu glo ghi gby gib t = some q' ∧ q'.1 = q.1 ∧ (q.1 = 0 ∨ q.1 = 1) ∧ St q.2.1 q.2.2.1 q.2.2.2.1 q.2.2.2.2.1 q.2.2.2.2.2.1 q.2.2.2.2.2.2.1 ss so sq es eo eq gs go gq q'.2.1 q'.2.2.2.2.1 ∧ TI q.2.1 q.2.2.1 q.2.2.2.1 ∧ IOt q.2.2.2.2.2.2.2 := by
  have e := h.1.1
  have hw := h.1.2
  subst e
  unfold X_carriedOut
  rw [xh hX hb 1 (by decide) (x := 1) rfl, wbind rfl, xh hX hb 2 (by decide) (x := 2) rfl, wbind rfl, sign_eq hX (by omega), wbind rfl, hx, if_pos (show (99:Int32) = 99 from rfl)]
  unfold M_does
  rw [nI_1 (26 * j), show nI (26 * j) + (2:Int32) = nI (26 * j + 2) from nI_add _ 2, grd_t (gi_nI (show 26 * j + 1 < 312 by omega) (by decide)), grd_t (gi_nI (show 26 * j + 2 < 312 by omega) (by decide)), grd_t (gi_nI (show 26 * j < 312 by omega) (by decide)), nI_clamp (show 26 * j < 2 ^ 31 by omega), nI_clamp (show 26 * j + 1 < 2 ^ 31 by omega), nI_clamp (show 26 * j + 2 < 2 ^ 31 by omega), t0, if_pos (show (99:Int32) = 99 from rfl)]
  obtain ⟨v1, v2, v3⟩ := cell_t r hr cc hc
  unfold X_toggled
  rw [x1, x2, t1, t2, v1, v2, v3]
  by_cases q : r < 6 ∧ cc < 6
  · rw [if_pos q, if_pos q, if_neg (show ¬ (1:Int32) = 0 by decide), if_pos (nI_pos' (by omega)), S_become_eq, wbind rfl, wbind rfl, M_becomes_eq, wbind rfl, grd_t (by decide : zb (1:Int32) = true)]
    have hR : R36 (mrg ^^^ ((1:Int64) <<< ((nI (6 * r + cc)).toInt64 &&& 63))) := R36_xor hw (by omega)
    exact ⟨_, rfl, _, rfl, rfl, Or.inr rfl, St_become _ hR h, TI_become hI _, hO⟩
  · rw [if_neg q, if_neg q, if_pos rfl, if_neg (by decide), wbind rfl, grd_t (by decide : zb (0:Int32) = true)]
    exact ⟨_, rfl, _, rfl, rfl, Or.inl rfl, h, hI, hO⟩
theorem do_m (hX : TX l g g') (hj : j < 12) (hb : b ≤ 100) (h : St rg ld mt ps pl pw ss so sq es eo eq gs go gq mrg ms) (hI : TI rg ld mt) (hO : IOk okn org osi oti ole oto oow oco ost owa owv owh olo ohi) (ora odi oqu : Nat → Int32) (gle gsu : Int32) (gma gpi gst ghe gow gfa gqu glo ghi gby gib : Nat → Int32) (hx : sgT l g b = 109) (t0 : t (26 * j) = 109) : ∃ q, X_carriedOut (nI b) rg ld mt ps pl pw okn org osi oti ole oto oow oco ost owa owv owh olo ohi ora odi oqu (nI l) g = some q ∧ ∃ q', M_does (nI (26 * j)) mrg gle gsu ms gma gpi gst ghe gow gfa gqu glo ghi gby gib t = some q' ∧ q'.1 = q.1 ∧ (q.1 = 0 ∨ q.1 = 1) ∧ St q.2.1 q.2.2.1 q.2.2.2.1 q.2.2.2.2.1 q.2.2.2.2.2.1 q.2.2.2.2.2.2.1 ss so sq es eo eq gs go gq q'.2.1 q'.2.2.2.2.1 ∧ TI q.2.1 q.2.2.1 q.2.2.2.1 ∧ IOt q.2.2.2.2.2.2.2 := by
  have e := h.1.1
  have hw := h.1.2
  subst e
  unfold X_carriedOut
  rw [xh hX hb 1 (by decide) (x := 1) rfl, wbind rfl, xh hX hb 2 (by decide) (x := 2) rfl, wbind rfl, sign_eq hX (by omega), wbind rfl, hx, if_neg (show ¬ (109:Int32) = 99 by decide), if_neg (show ¬ (109:Int32) = 100 by decide), if_neg (show ¬ (109:Int32) = 101 by decide), if_neg (show ¬ (109:Int32) = 102 by decide), if_neg (show ¬ (109:Int32) = 103 by decide), if_neg (show ¬ (109:Int32) = 104 by decide), if_neg (show ¬ (109:Int32) = 105 by decide), if_neg (show ¬ (109:Int32) = 106 by decide), if_neg (show ¬ (109:Int32) = 107 by decide), if_neg (show ¬ (109:Int32) = 108 by decide), if_pos (show (109:Int32) = 109 from rfl)]
  unfold M_does
  rw [nI_1 (26 * j), show nI (26 * j) + (2:Int32) = nI (26 * j + 2) from nI_add _ 2, grd_t (gi_nI (show 26 * j + 1 < 312 by omega) (by decide)), grd_t (gi_nI (show 26 * j + 2 < 312 by omega) (by decide)), grd_t (gi_nI (show 26 * j < 312 by omega) (by decide)), nI_clamp (show 26 * j < 2 ^ 31 by omega), nI_clamp (show 26 * j + 1 < 2 ^ 31 by omega), nI_clamp (show 26 * j + 2 < 2 ^ 31 by omega), t0, if_neg (show ¬ (109:Int32) = 99 by decide), if_neg (show ¬ (109:Int32) = 101 by decide), if_neg (show ¬ (109:Int32) = 102 by decide), if_pos (show (109:Int32) = 109 from rfl)]
  obtain ⟨r, m1, m2, m3⟩ := mirror_eq mrg
  rw [m1, wbind rfl, S_become_eq, wbind rfl, m2, wbind rfl, M_becomes_eq, wbind rfl]
  exact ⟨_, rfl, _, rfl, rfl, Or.inr rfl, St_become r m3 h, TI_become hI r, hO⟩
theorem do_l (hX : TX l g g') (hj : j < 12) (hb : b ≤ 100) (h : St rg ld mt ps pl pw ss so sq es eo eq gs go gq mrg ms) (hI : TI rg ld mt) (hO : IOk okn org osi oti ole oto oow oco ost owa owv owh olo ohi) (ora odi oqu : Nat → Int32) (gle gsu : Int32) (gma gpi gst ghe gow gfa gqu glo ghi gby gib : Nat → Int32) (hx : sgT l g b = 108) (t0 : t (26 * j) = 108) : ∃ q, X_carriedOut (nI b) rg ld mt ps pl pw okn org osi oti ole oto oow oco ost owa owv owh olo ohi ora odi oqu (nI l) g = some q ∧ ∃ q', M_does (nI (26 * j)) mrg gle gsu ms gma gpi gst ghe gow gfa gqu glo ghi gby gib t = some q' ∧ q'.1 = q.1 ∧ (q.1 = 0 ∨ q.1 = 1) ∧ St q.2.1 q.2.2.1 q.2.2.2.1 q.2.2.2.2.1 q.2.2.2.2.2.1 q.2.2.2.2.2.2.1 ss so sq es eo eq gs go gq q'.2.1 q'.2.2.2.2.1 ∧ TI q.2.1 q.2.2.1 q.2.2.2.1 ∧ IOt q.2.2.2.2.2.2.2 := by
  unfold X_carriedOut
  rw [xh hX hb 1 (by decide) (x := 1) rfl, wbind rfl, xh hX hb 2 (by decide) (x := 2) rfl, wbind rfl, sign_eq hX (by omega), wbind rfl, hx, if_neg (show ¬ (108:Int32) = 99 by decide), if_neg (show ¬ (108:Int32) = 100 by decide), if_neg (show ¬ (108:Int32) = 101 by decide), if_neg (show ¬ (108:Int32) = 102 by decide), if_neg (show ¬ (108:Int32) = 103 by decide), if_neg (show ¬ (108:Int32) = 104 by decide), if_neg (show ¬ (108:Int32) = 105 by decide), if_neg (show ¬ (108:Int32) = 106 by decide), if_neg (show ¬ (108:Int32) = 107 by decide), if_pos (show (108:Int32) = 108 from rfl)]
  unfold M_does
  rw [nI_1 (26 * j), show nI (26 * j) + (2:Int32) = nI (26 * j + 2) from nI_add _ 2, grd_t (gi_nI (show 26 * j + 1 < 312 by omega) (by decide)), grd_t (gi_nI (show 26 * j + 2 < 312 by omega) (by decide)), grd_t (gi_nI (show 26 * j < 312 by omega) (by decide)), nI_clamp (show 26 * j < 2 ^ 31 by omega), nI_clamp (show 26 * j + 1 < 2 ^ 31 by omega), nI_clamp (show 26 * j + 2 < 2 ^ 31 by omega), t0, if_neg (show ¬ (108:Int32) = 99 by decide), if_neg (show ¬ (108:Int32) = 101 by decide), if_neg (show ¬ (108:Int32) = 102 by decide), if_neg (show ¬ (108:Int32) = 109 by decide), if_neg (show ¬ (108:Int32) = 116 by decide), if_neg (show ¬ (108:Int32) = 119 by decide), grd_t (gi_nI (show 26 * j < 312 by omega) (by decide)), if_pos (show (108:Int32) = 108 from rfl)]
  obtain ⟨q, e1, q', e2, e3, e4, hS, hT, hK⟩ := c_lay false h hI hO ora odi oqu gle gsu gma gpi gst ghe gow gfa gqu glo ghi gby gib
  have e1 : S_layDown (0:Int32) rg ld mt okn org osi oti ole oto oow oco ost owa owv owh olo ohi ora odi oqu = some q := e1
  have e2 : M_lay (0:Int32) mrg gle gsu ms gma gpi gst ghe gow gfa gqu glo ghi gby gib = some q' := e2
  have hz : zb q.1 = true := by
    unfold zb
    exact decide_eq_true e4
  rw [e1, wbind rfl, grd_t hz, e2, wbind rfl]
  exact ⟨_, rfl, _, rfl, e3, e4, hS, hT, hK⟩
theorem do_g (hX : TX l g g') (hj : j < 12) (hb : b ≤ 100) (h : St rg ld mt ps pl pw ss so sq es eo eq gs go gq mrg ms) (hI : TI rg ld mt) (hO : IOk okn org osi oti ole oto oow oco ost owa owv owh olo ohi) (ora odi oqu : Nat → Int32) (gle gsu : Int32) (gma gpi gst ghe gow gfa gqu glo ghi gby gib : Nat → Int32) (hx : sgT l g b = 103) (t0 : t (26 * j) = 103) : ∃ q, X_carriedOut (nI b) rg ld mt ps pl pw okn org osi oti ole oto oow oco ost owa owv owh olo ohi ora odi oqu (nI l) g = some q ∧ ∃ q', M_does (nI (26 * j)) mrg gle gsu ms gma gpi gst ghe gow gfa gqu glo ghi gby gib t = some q' ∧ q'.1 = q.1 ∧ (q.1 = 0 ∨ q.1 = 1) ∧ St q.2.1 q.2.2.1 q.2.2.2.1 q.2.2.2.2.1 q.2.2.2.2.2.1 q.2.2.2.2.2.2.1 ss so sq es eo eq gs go gq q'.2.1 q'.2.2.2.2.1 ∧ TI q.2.1 q.2.2.1 q.2.2.2.1 ∧ IOt q.2.2.2.2.2.2.2 := by
  unfold X_carriedOut
  rw [xh hX hb 1 (by decide) (x := 1) rfl, wbind rfl, xh hX hb 2 (by decide) (x := 2) rfl, wbind rfl, sign_eq hX (by omega), wbind rfl, hx, if_neg (show ¬ (103:Int32) = 99 by decide), if_neg (show ¬ (103:Int32) = 100 by decide), if_neg (show ¬ (103:Int32) = 101 by decide), if_neg (show ¬ (103:Int32) = 102 by decide), if_pos (show (103:Int32) = 103 from rfl)]
  unfold M_does
  rw [nI_1 (26 * j), show nI (26 * j) + (2:Int32) = nI (26 * j + 2) from nI_add _ 2, grd_t (gi_nI (show 26 * j + 1 < 312 by omega) (by decide)), grd_t (gi_nI (show 26 * j + 2 < 312 by omega) (by decide)), grd_t (gi_nI (show 26 * j < 312 by omega) (by decide)), nI_clamp (show 26 * j < 2 ^ 31 by omega), nI_clamp (show 26 * j + 1 < 2 ^ 31 by omega), nI_clamp (show 26 * j + 2 < 2 ^ 31 by omega), t0, if_neg (show ¬ (103:Int32) = 99 by decide), if_neg (show ¬ (103:Int32) = 101 by decide), if_neg (show ¬ (103:Int32) = 102 by decide), if_neg (show ¬ (103:Int32) = 109 by decide), if_neg (show ¬ (103:Int32) = 116 by decide), if_neg (show ¬ (103:Int32) = 119 by decide), grd_t (gi_nI (show 26 * j < 312 by omega) (by decide)), if_neg (show ¬ (103:Int32) = 108 by decide)]
  obtain ⟨q, e1, q', e2, e3, e4, hS, hT, hK⟩ := c_lay true h hI hO ora odi oqu gle gsu gma gpi gst ghe gow gfa gqu glo ghi gby gib
  have e1 : S_layDown (1:Int32) rg ld mt okn org osi oti ole oto oow oco ost owa owv owh olo ohi ora odi oqu = some q := e1
  have e2 : M_lay (1:Int32) mrg gle gsu ms gma gpi gst ghe gow gfa gqu glo ghi gby gib = some q' := e2
  have hz : zb q.1 = true := by
    unfold zb
    exact decide_eq_true e4
  rw [e1, wbind rfl, grd_t hz, e2, wbind rfl]
  exact ⟨_, rfl, _, rfl, e3, e4, hS, hT, hK⟩
theorem do_t (hX : TX l g g') (hj : j < 12) (hb : b ≤ 100) (h : St rg ld mt ps pl pw ss so sq es eo eq gs go gq mrg ms) (hI : TI rg ld mt) (hO : IOk okn org osi oti ole oto oow oco ost owa owv owh olo ohi) (ora odi oqu : Nat → Int32) (gle gsu : Int32) (gma gpi gst ghe gow gfa gqu glo ghi gby gib : Nat → Int32) (hx : sgT l g b = 116) (t0 : t (26 * j) = 116) {r cc : Nat} (hr : r < 10) (hc : cc < 10) (x1 : dgT (sgT l g (b + 1)) = nI r) (x2 : dgT (sgT l g (b + 2)) = nI cc) (t1 : t (26 * j + 1) = nI r) (t2 : t (26 * j + 2) = nI cc) : ∃ q, X_carriedOut (nI b) rg ld mt ps pl pw okn org osi oti ole oto oow oco ost owa owv owh olo ohi ora odi oqu (nI l) g = some q ∧ ∃ q', M_does (nI (26 * j)) mrg gle gsu ms gma gpi gst ghe gow gfa gqu glo ghi gby gib t = some q' ∧ q'.1 = q.1 ∧ (q.1 = 0 ∨ q.1 = 1) ∧ St q.2.1 q.2.2.1 q.2.2.2.1 q.2.2.2.2.1 q.2.2.2.2.2.1 q.2.2.2.2.2.2.1 ss so sq es eo eq gs go gq q'.2.1 q'.2.2.2.2.1 ∧ TI q.2.1 q.2.2.1 q.2.2.2.1 ∧ IOt q.2.2.2.2.2.2.2 := by
  unfold X_carriedOut
  rw [xh hX hb 1 (by decide) (x := 1) rfl, wbind rfl, xh hX hb 2 (by decide) (x := 2) rfl, wbind rfl, sign_eq hX (by omega), wbind rfl, hx, if_neg (show ¬ (116:Int32) = 99 by decide), if_neg (show ¬ (116:Int32) = 100 by decide), if_neg (show ¬ (116:Int32) = 101 by decide), if_neg (show ¬ (116:Int32) = 102 by decide), if_neg (show ¬ (116:Int32) = 103 by decide), if_neg (show ¬ (116:Int32) = 104 by decide), if_neg (show ¬ (116:Int32) = 105 by decide), if_neg (show ¬ (116:Int32) = 106 by decide), if_neg (show ¬ (116:Int32) = 107 by decide), if_neg (show ¬ (116:Int32) = 108 by decide), if_neg (show ¬ (116:Int32) = 109 by decide), if_neg (show ¬ (116:Int32) = 110 by decide), if_neg (show ¬ (116:Int32) = 111 by decide), if_neg (show ¬ (116:Int32) = 112 by decide), if_neg (show ¬ (116:Int32) = 113 by decide), if_neg (show ¬ (116:Int32) = 114 by decide), if_neg (show ¬ (116:Int32) = 115 by decide), if_pos (show (116:Int32) = 116 from rfl)]
  unfold M_does
  rw [nI_1 (26 * j), show nI (26 * j) + (2:Int32) = nI (26 * j + 2) from nI_add _ 2, grd_t (gi_nI (show 26 * j + 1 < 312 by omega) (by decide)), grd_t (gi_nI (show 26 * j + 2 < 312 by omega) (by decide)), grd_t (gi_nI (show 26 * j < 312 by omega) (by decide)), nI_clamp (show 26 * j < 2 ^ 31 by omega), nI_clamp (show 26 * j + 1 < 2 ^ 31 by omega), nI_clamp (show 26 * j + 2 < 2 ^ 31 by omega), t0, if_neg (show ¬ (116:Int32) = 99 by decide), if_neg (show ¬ (116:Int32) = 101 by decide), if_neg (show ¬ (116:Int32) = 102 by decide), if_neg (show ¬ (116:Int32) = 109 by decide), if_pos (show (116:Int32) = 116 from rfl)]
  obtain ⟨v1, v2, v3⟩ := vtx_t r hr cc hc
  obtain ⟨_, v4, _⟩ := vtx_t cc hc cc hc
  unfold M_does_j247 M_does_j248
  rw [x1, x2, t1, t2, v1, v2, v3, v4, grd_t (by decide)]
  by_cases q : r < 7 ∧ cc < 7
  · obtain ⟨qq, e1, q', e2, e3, e4, hS, hT⟩ := c_turn (show 7 * r + cc < 49 by omega) h hI gle gsu gma gpi gst ghe gow gfa gqu glo ghi gby gib
    have hz : zb qq.1 = true := by
      unfold zb
      exact decide_eq_true e4
    rw [if_pos q, if_pos q.1, if_pos q.2, if_neg (show ¬ (1:Int32) = 0 by decide), if_neg (show ¬ (1:Int32) = 0 by decide), e1, wbind rfl, grd_t hz, e2, wbind rfl]
    exact ⟨_, rfl, _, rfl, e3, e4, hS, hT, hO⟩
  · have s0 : S_turnAt (-1) ld mt = some (0, mt) := by
      unfold S_turnAt
      rw [if_pos (by decide)]
    rw [if_neg q, s0, wbind rfl, grd_t (by decide : zb (0:Int32) = true)]
    by_cases q1 : r < 7
    · have q2 : ¬ cc < 7 := fun z => q ⟨q1, z⟩
      rw [if_pos q1, if_neg q2, if_neg (show ¬ (1:Int32) = 0 by decide), if_pos rfl]
      exact ⟨_, rfl, _, rfl, rfl, Or.inl rfl, h, hI, hO⟩
    · rw [if_neg q1, if_pos rfl]
      exact ⟨_, rfl, _, rfl, rfl, Or.inl rfl, h, hI, hO⟩
theorem do_w (hX : TX l g g') (hj : j < 12) (hb : b ≤ 100) (h : St rg ld mt ps pl pw ss so sq es eo eq gs go gq mrg ms) (hI : TI rg ld mt) (hO : IOk okn org osi oti ole oto oow oco ost owa owv owh olo ohi) (ora odi oqu : Nat → Int32) (gle gsu : Int32) (gma gpi gst ghe gow gfa gqu glo ghi gby gib : Nat → Int32) (hx : sgT l g b = 119) (t0 : t (26 * j) = 119) {r cc : Nat} (hr : r < 10) (hc : cc < 10) (x1 : dgT (sgT l g (b + 1)) = nI r) (x2 : dgT (sgT l g (b + 2)) = nI cc) (t1 : t (26 * j + 1) = nI r) (t2 : t (26 * j + 2) = nI cc) {n : Nat} (hn : n = rdL l g 20 (b + 3)) (h0 : 0 < n) (t5 : t (26 * j + 5) = nI n) (t6 : ∀ k, k < n → t (26 * j + 6 + k) = wyT (sgT l g (b + 3 + k))) : ∃ q, X_carriedOut (nI b) rg ld mt ps pl pw okn org osi oti ole oto oow oco ost owa owv owh olo ohi ora odi oqu (nI l) g = some q ∧ ∃ q', M_does (nI (26 * j)) mrg gle gsu ms gma gpi gst ghe gow gfa gqu glo ghi gby gib t = some q' ∧ q'.1 = q.1 ∧ (q.1 = 0 ∨ q.1 = 1) ∧ St q.2.1 q.2.2.1 q.2.2.2.1 q.2.2.2.2.1 q.2.2.2.2.2.1 q.2.2.2.2.2.2.1 ss so sq es eo eq gs go gq q'.2.1 q'.2.2.2.2.1 ∧ TI q.2.1 q.2.2.1 q.2.2.2.1 ∧ IOt q.2.2.2.2.2.2.2 := by
  unfold X_carriedOut
  rw [xh hX hb 1 (by decide) (x := 1) rfl, wbind rfl, xh hX hb 2 (by decide) (x := 2) rfl, wbind rfl, sign_eq hX (by omega), wbind rfl, hx, if_neg (show ¬ (119:Int32) = 99 by decide), if_neg (show ¬ (119:Int32) = 100 by decide), if_neg (show ¬ (119:Int32) = 101 by decide), if_neg (show ¬ (119:Int32) = 102 by decide), if_neg (show ¬ (119:Int32) = 103 by decide), if_neg (show ¬ (119:Int32) = 104 by decide), if_neg (show ¬ (119:Int32) = 105 by decide), if_neg (show ¬ (119:Int32) = 106 by decide), if_neg (show ¬ (119:Int32) = 107 by decide), if_neg (show ¬ (119:Int32) = 108 by decide), if_neg (show ¬ (119:Int32) = 109 by decide), if_neg (show ¬ (119:Int32) = 110 by decide), if_neg (show ¬ (119:Int32) = 111 by decide), if_neg (show ¬ (119:Int32) = 112 by decide), if_neg (show ¬ (119:Int32) = 113 by decide), if_neg (show ¬ (119:Int32) = 114 by decide), if_neg (show ¬ (119:Int32) = 115 by decide), if_neg (show ¬ (119:Int32) = 116 by decide)]
  unfold M_does
  rw [nI_1 (26 * j), show nI (26 * j) + (2:Int32) = nI (26 * j + 2) from nI_add _ 2, grd_t (gi_nI (show 26 * j + 1 < 312 by omega) (by decide)), grd_t (gi_nI (show 26 * j + 2 < 312 by omega) (by decide)), grd_t (gi_nI (show 26 * j < 312 by omega) (by decide)), nI_clamp (show 26 * j < 2 ^ 31 by omega), nI_clamp (show 26 * j + 1 < 2 ^ 31 by omega), nI_clamp (show 26 * j + 2 < 2 ^ 31 by omega), t0, if_neg (show ¬ (119:Int32) = 99 by decide), if_neg (show ¬ (119:Int32) = 101 by decide), if_neg (show ¬ (119:Int32) = 102 by decide), if_neg (show ¬ (119:Int32) = 109 by decide), if_neg (show ¬ (119:Int32) = 116 by decide), if_pos (show (119:Int32) = 119 from rfl)]
  obtain ⟨q, e1, q', e2, e3, e4, hS⟩ := c_walks hX (by omega) hj hn h0 hr hc t1 t2 t5 t6 h
  have hz : zb q.1 = true := by
    unfold zb
    exact decide_eq_true e4
  have hz' : zb q'.1 = true := by rw [e3]; exact hz
  unfold X_carriedOut_j195
  rw [show nI b + (3:Int32) = nI (b + 3) from nI_add _ 3, x1, x2, e1, wbind rfl, grd_t hz, e2, wbind rfl, grd_t hz']
  exact ⟨_, rfl, _, rfl, e3, e4, hS, hI, hO⟩
theorem do_e (hX : TX l g g') (hj : j < 12) (hb : b ≤ 100) (h : St rg ld mt ps pl pw ss so sq es eo eq gs go gq mrg ms) (hI : TI rg ld mt) (hO : IOk okn org osi oti ole oto oow oco ost owa owv owh olo ohi) (ora odi oqu : Nat → Int32) (gle gsu : Int32) (gma gpi gst ghe gow gfa gqu glo ghi gby gib : Nat → Int32) (hx : sgT l g b = 101) (t0 : t (26 * j) = 101) {r cc : Nat} (hr : r < 10) (hc : cc < 10) (x1 : dgT (sgT l g (b + 1)) = nI r) (x2 : dgT (sgT l g (b + 2)) = nI cc) (t1 : t (26 * j + 1) = nI r) (t2 : t (26 * j + 2) = nI cc) {r2 c2 : Nat} (hr2 : r2 < 10) (hc2 : c2 < 10) (x3 : dgT (sgT l g (b + 3)) = nI r2) (x4 : dgT (sgT l g (b + 4)) = nI c2) (t3 : t (26 * j + 3) = nI r2) (t4 : t (26 * j + 4) = nI c2) : ∃ q, X_carriedOut (nI b) rg ld mt ps pl pw okn org osi oti ole oto oow oco ost owa owv owh olo ohi ora odi oqu (nI l) g = some q ∧ ∃ q', M_does (nI (26 * j)) mrg gle gsu ms gma gpi gst ghe gow gfa gqu glo ghi gby gib t = some q' ∧ q'.1 = q.1 ∧ (q.1 = 0 ∨ q.1 = 1) ∧ St q.2.1 q.2.2.1 q.2.2.2.1 q.2.2.2.2.1 q.2.2.2.2.2.1 q.2.2.2.2.2.2.1 ss so sq es eo eq gs go gq q'.2.1 q'.2.2.2.2.1 ∧ TI q.2.1 q.2.2.1 q.2.2.2.1 ∧ IOt q.2.2.2.2.2.2.2 := by
  unfold X_carriedOut
  rw [xh hX hb 1 (by decide) (x := 1) rfl, wbind rfl, xh hX hb 2 (by decide) (x := 2) rfl, wbind rfl, sign_eq hX (by omega), wbind rfl, hx, if_neg (show ¬ (101:Int32) = 99 by decide), if_neg (show ¬ (101:Int32) = 100 by decide), if_pos (show (101:Int32) = 101 from rfl)]
  unfold M_does
  rw [nI_1 (26 * j), show nI (26 * j) + (2:Int32) = nI (26 * j + 2) from nI_add _ 2, grd_t (gi_nI (show 26 * j + 1 < 312 by omega) (by decide)), grd_t (gi_nI (show 26 * j + 2 < 312 by omega) (by decide)), grd_t (gi_nI (show 26 * j < 312 by omega) (by decide)), nI_clamp (show 26 * j < 2 ^ 31 by omega), nI_clamp (show 26 * j + 1 < 2 ^ 31 by omega), nI_clamp (show 26 * j + 2 < 2 ^ 31 by omega), t0, if_neg (show ¬ (101:Int32) = 99 by decide), if_pos (show (101:Int32) = 101 from rfl)]
  obtain ⟨v1, v2, v3⟩ := cell_t r hr cc hc
  obtain ⟨u1, u2, u3⟩ := cell_t r2 hr2 c2 hc2
  have g3 : gi (nI (26 * j + 3)) 312 = true := gi_nI (by omega) (by decide)
  have g4 : gi (nI (26 * j + 4)) 312 = true := gi_nI (by omega) (by decide)
  have g0 : gi (nI (26 * j)) 312 = true := gi_nI (by omega) (by decide)
  unfold X_blockSet M_does_j113 M_does_j143
  rw [xh hX hb 1 (by decide) (x := 1) rfl, wbind rfl, xh hX hb 2 (by decide) (x := 2) rfl, wbind rfl, xh hX hb 3 (by decide) (x := 3) rfl, wbind rfl, xh hX hb 4 (by decide) (x := 4) rfl, wbind rfl, x1, x2, x3, x4, v1, u1, t1, t2, v2, v3, show nI (26 * j) + (3:Int32) = nI (26 * j + 3) from nI_add _ 3, show nI (26 * j) + (4:Int32) = nI (26 * j + 4) from nI_add _ 4, grd_t g3, grd_t g4, nI_clamp (show 26 * j + 3 < 2 ^ 31 by omega), nI_clamp (show 26 * j + 4 < 2 ^ 31 by omega), t3, t4, u2, u3, grd_t g3, grd_t g4, grd_t g0, nI_clamp (show 26 * j < 2 ^ 31 by omega), t0, if_neg (show ¬ (101:Int32) = 102 by decide)]
  have bm1 : ∀ x, G_block (-1) x = some 0 := fun x => by
    unfold G_block G_block_j16
    rw [if_pos (by decide)]
  have bm2 : ∀ k, k < 36 → G_block (nI k) (-1) = some 0 := fun k hk => by
    unfold G_block G_block_j16
    rw [(by decide : ∀ k, k < 36 → G_isCell (nI k) = 1) k hk, if_neg (show ¬ (1:Int32) = 0 by decide), if_pos (by decide)]
  by_cases q : r < 6 ∧ cc < 6
  · by_cases p : r2 < 6 ∧ c2 < 6
    · rw [if_pos q, if_pos p, if_pos q, if_pos p, if_neg (show ¬ (1:Int32) = 0 by decide), if_neg (show ¬ (1:Int32) = 0 by decide)]
      obtain ⟨blk, e1, qq, e2, q', e3, e4, e5, hS, hT⟩ := c_block false (show 6 * r + cc < 36 by omega) (show 6 * r2 + c2 < 36 by omega) h hI
      have e2 : (if blk = (0:Int64) then (some ((0:Int32), rg, ld)) else (Option.bind (S_become (G_with rg blk (0:Int32)) rg ld) (fun q7 => some ((1:Int32), q7.1, q7.2)))) = some qq := e2
      have e3 : M_fill (nI (6 * r + cc)) (nI (6 * r2 + c2)) (0:Int32) mrg ms = some q' := e3
      have hz : zb qq.1 = true := by
        unfold zb
        exact decide_eq_true e5
      rw [e1, wbind rfl, e2, wbind rfl, grd_t hz, e3, wbind rfl]
      exact ⟨_, rfl, _, rfl, e4, e5, hS, hT, hO⟩
    · rw [if_pos q, if_neg p, if_pos q, if_neg p, if_neg (show ¬ (1:Int32) = 0 by decide), if_pos rfl, bm2 _ (by omega), wbind rfl, if_pos rfl, wbind rfl, grd_t (by decide : zb (0:Int32) = true)]
      exact ⟨_, rfl, _, rfl, rfl, Or.inl rfl, h, hI, hO⟩
  · rw [if_neg q, if_neg q, if_pos rfl, bm1, wbind rfl, if_pos rfl, wbind rfl, grd_t (by decide : zb (0:Int32) = true)]
    exact ⟨_, rfl, _, rfl, rfl, Or.inl rfl, h, hI, hO⟩
theorem do_f (hX : TX l g g') (hj : j < 12) (hb : b ≤ 100) (h : St rg ld mt ps pl pw ss so sq es eo eq gs go gq mrg ms) (hI : TI rg ld mt) (hO : IOk okn org osi oti ole oto oow oco ost owa owv owh olo ohi) (ora odi oqu : Nat → Int32) (gle gsu : Int32) (gma gpi gst ghe gow gfa gqu glo ghi gby gib : Nat → Int32) (hx : sgT l g b = 102) (t0 : t (26 * j) = 102) {r cc : Nat} (hr : r < 10) (hc : cc < 10) (x1 : dgT (sgT l g (b + 1)) = nI r) (x2 : dgT (sgT l g (b + 2)) = nI cc) (t1 : t (26 * j + 1) = nI r) (t2 : t (26 * j + 2) = nI cc) {r2 c2 : Nat} (hr2 : r2 < 10) (hc2 : c2 < 10) (x3 : dgT (sgT l g (b + 3)) = nI r2) (x4 : dgT (sgT l g (b + 4)) = nI c2) (t3 : t (26 * j + 3) = nI r2) (t4 : t (26 * j + 4) = nI c2) : ∃ q, X_carriedOut (nI b) rg ld mt ps pl pw okn org osi oti ole oto oow oco ost owa owv owh olo ohi ora odi oqu (nI l) g = some q ∧ ∃ q', M_does (nI (26 * j)) mrg gle gsu ms gma gpi gst ghe gow gfa gqu glo ghi gby gib t = some q' ∧ q'.1 = q.1 ∧ (q.1 = 0 ∨ q.1 = 1) ∧ St q.2.1 q.2.2.1 q.2.2.2.1 q.2.2.2.2.1 q.2.2.2.2.2.1 q.2.2.2.2.2.2.1 ss so sq es eo eq gs go gq q'.2.1 q'.2.2.2.2.1 ∧ TI q.2.1 q.2.2.1 q.2.2.2.1 ∧ IOt q.2.2.2.2.2.2.2 := by
  unfold X_carriedOut
  rw [xh hX hb 1 (by decide) (x := 1) rfl, wbind rfl, xh hX hb 2 (by decide) (x := 2) rfl, wbind rfl, sign_eq hX (by omega), wbind rfl, hx, if_neg (show ¬ (102:Int32) = 99 by decide), if_neg (show ¬ (102:Int32) = 100 by decide), if_neg (show ¬ (102:Int32) = 101 by decide), if_pos (show (102:Int32) = 102 from rfl)]
  unfold M_does
  rw [nI_1 (26 * j), show nI (26 * j) + (2:Int32) = nI (26 * j + 2) from nI_add _ 2, grd_t (gi_nI (show 26 * j + 1 < 312 by omega) (by decide)), grd_t (gi_nI (show 26 * j + 2 < 312 by omega) (by decide)), grd_t (gi_nI (show 26 * j < 312 by omega) (by decide)), nI_clamp (show 26 * j < 2 ^ 31 by omega), nI_clamp (show 26 * j + 1 < 2 ^ 31 by omega), nI_clamp (show 26 * j + 2 < 2 ^ 31 by omega), t0, if_neg (show ¬ (102:Int32) = 99 by decide), if_neg (show ¬ (102:Int32) = 101 by decide), if_pos (show (102:Int32) = 102 from rfl)]
  obtain ⟨v1, v2, v3⟩ := cell_t r hr cc hc
  obtain ⟨u1, u2, u3⟩ := cell_t r2 hr2 c2 hc2
  have g3 : gi (nI (26 * j + 3)) 312 = true := gi_nI (by omega) (by decide)
  have g4 : gi (nI (26 * j + 4)) 312 = true := gi_nI (by omega) (by decide)
  have g0 : gi (nI (26 * j)) 312 = true := gi_nI (by omega) (by decide)
  unfold X_blockSet M_does_j113 M_does_j143
  rw [xh hX hb 1 (by decide) (x := 1) rfl, wbind rfl, xh hX hb 2 (by decide) (x := 2) rfl, wbind rfl, xh hX hb 3 (by decide) (x := 3) rfl, wbind rfl, xh hX hb 4 (by decide) (x := 4) rfl, wbind rfl, x1, x2, x3, x4, v1, u1, t1, t2, v2, v3, show nI (26 * j) + (3:Int32) = nI (26 * j + 3) from nI_add _ 3, show nI (26 * j) + (4:Int32) = nI (26 * j + 4) from nI_add _ 4, grd_t g3, grd_t g4, nI_clamp (show 26 * j + 3 < 2 ^ 31 by omega), nI_clamp (show 26 * j + 4 < 2 ^ 31 by omega), t3, t4, u2, u3, grd_t g3, grd_t g4, grd_t g0, nI_clamp (show 26 * j < 2 ^ 31 by omega), t0, if_pos (show (102:Int32) = 102 from rfl)]
  have bm1 : ∀ x, G_block (-1) x = some 0 := fun x => by
    unfold G_block G_block_j16
    rw [if_pos (by decide)]
  have bm2 : ∀ k, k < 36 → G_block (nI k) (-1) = some 0 := fun k hk => by
    unfold G_block G_block_j16
    rw [(by decide : ∀ k, k < 36 → G_isCell (nI k) = 1) k hk, if_neg (show ¬ (1:Int32) = 0 by decide), if_pos (by decide)]
  by_cases q : r < 6 ∧ cc < 6
  · by_cases p : r2 < 6 ∧ c2 < 6
    · rw [if_pos q, if_pos p, if_pos q, if_pos p, if_neg (show ¬ (1:Int32) = 0 by decide), if_neg (show ¬ (1:Int32) = 0 by decide)]
      obtain ⟨blk, e1, qq, e2, q', e3, e4, e5, hS, hT⟩ := c_block true (show 6 * r + cc < 36 by omega) (show 6 * r2 + c2 < 36 by omega) h hI
      have e2 : (if blk = (0:Int64) then (some ((0:Int32), rg, ld)) else (Option.bind (S_become (G_with rg blk (1:Int32)) rg ld) (fun q7 => some ((1:Int32), q7.1, q7.2)))) = some qq := e2
      have e3 : M_fill (nI (6 * r + cc)) (nI (6 * r2 + c2)) (1:Int32) mrg ms = some q' := e3
      have hz : zb qq.1 = true := by
        unfold zb
        exact decide_eq_true e5
      rw [e1, wbind rfl, e2, wbind rfl, grd_t hz, e3, wbind rfl]
      exact ⟨_, rfl, _, rfl, e4, e5, hS, hT, hO⟩
    · rw [if_pos q, if_neg p, if_pos q, if_neg p, if_neg (show ¬ (1:Int32) = 0 by decide), if_pos rfl, bm2 _ (by omega), wbind rfl, if_pos rfl, wbind rfl, grd_t (by decide : zb (0:Int32) = true)]
      exact ⟨_, rfl, _, rfl, rfl, Or.inl rfl, h, hI, hO⟩
  · rw [if_neg q, if_neg q, if_pos rfl, bm1, wbind rfl, if_pos rfl, wbind rfl, grd_t (by decide : zb (0:Int32) = true)]
    exact ⟨_, rfl, _, rfl, rfl, Or.inl rfl, h, hI, hO⟩
theorem does_eq (hX : TX l g g') (hj : j < 12) (hb : b ≤ 100) (h : St rg ld mt ps pl pw ss so sq es eo eq gs go gq mrg ms) (hI : TI rg ld mt) (hO : IOk okn org osi oti ole oto oow oco ost owa owv owh olo ohi) (ora odi oqu : Nat → Int32) (gle gsu : Int32) (gma gpi gst ghe gow gfa gqu glo ghi gby gib : Nat → Int32) (hG : GC l g b) (hT : TC l g t j b) : ∃ q, X_carriedOut (nI b) rg ld mt ps pl pw okn org osi oti ole oto oow oco ost owa owv owh olo ohi ora odi oqu (nI l) g = some q ∧ ∃ q', M_does (nI (26 * j)) mrg gle gsu ms gma gpi gst ghe gow gfa gqu glo ghi gby gib t = some q' ∧ q'.1 = q.1 ∧ (q.1 = 0 ∨ q.1 = 1) ∧ St q.2.1 q.2.2.1 q.2.2.2.1 q.2.2.2.2.1 q.2.2.2.2.2.1 q.2.2.2.2.2.2.1 ss so sq es eo eq gs go gq q'.2.1 q'.2.2.2.2.1 ∧ TI q.2.1 q.2.2.1 q.2.2.2.1 ∧ IOt q.2.2.2.2.2.2.2 := by
  obtain ⟨g1, g2, g3, g4, g5⟩ := hG
  obtain ⟨T0, T1, T2⟩ := hT
  rcases sg_ok hX b with e | ⟨c, hc, e⟩
  · rw [e] at g3
    exact absurd g3 (by decide)
  have lc := let_c c hc (by rw [← e, g3]; exact nI_pos' (by omega))
  have D : ∀ k, k < wqT (sgT l g b) → ∃ d, d < 10 ∧ dgT (sgT l g (b + (k + 1))) = nI d ∧ t (26 * j + (k + 1)) = nI d := fun k hk => by
    obtain ⟨d, d1, d2⟩ := dd9 hX (dc_in l g (wqT (sgT l g b)) (b + 1) k (by omega))
    refine ⟨d, d1, ?_, ?_⟩
    · rw [show b + (k + 1) = b + 1 + k by omega]; exact d2
    · rw [show 26 * j + (k + 1) = 26 * j + 1 + k by omega, T1 k hk]; exact d2
  rcases lc with z | z | z | z | z | z | z | z
  · subst z
    have hx : sgT l g b = 99 := e
    have t0 : t (26 * j) = 99 := T0.trans hx
    have hw : wqT (sgT l g b) = 2 := by rw [hx]; decide
    obtain ⟨d0, a0, b0, c0⟩ := D 0 (by omega)
    obtain ⟨d1, a1, b1, c1⟩ := D 1 (by omega)
    exact do_c hX hj hb h hI hO ora odi oqu gle gsu gma gpi gst ghe gow gfa gqu glo ghi gby gib hx t0 a0 a1 b0 b1 c0 c1
  · subst z
    have hx : sgT l g b = 101 := e
    have t0 : t (26 * j) = 101 := T0.trans hx
    have hw : wqT (sgT l g b) = 4 := by rw [hx]; decide
    obtain ⟨d0, a0, b0, c0⟩ := D 0 (by omega)
    obtain ⟨d1, a1, b1, c1⟩ := D 1 (by omega)
    obtain ⟨d2, a2, b2, c2⟩ := D 2 (by omega)
    obtain ⟨d3, a3, b3, c3⟩ := D 3 (by omega)
    exact do_e hX hj hb h hI hO ora odi oqu gle gsu gma gpi gst ghe gow gfa gqu glo ghi gby gib hx t0 a0 a1 b0 b1 c0 c1 a2 a3 b2 b3 c2 c3
  · subst z
    have hx : sgT l g b = 102 := e
    have t0 : t (26 * j) = 102 := T0.trans hx
    have hw : wqT (sgT l g b) = 4 := by rw [hx]; decide
    obtain ⟨d0, a0, b0, c0⟩ := D 0 (by omega)
    obtain ⟨d1, a1, b1, c1⟩ := D 1 (by omega)
    obtain ⟨d2, a2, b2, c2⟩ := D 2 (by omega)
    obtain ⟨d3, a3, b3, c3⟩ := D 3 (by omega)
    exact do_f hX hj hb h hI hO ora odi oqu gle gsu gma gpi gst ghe gow gfa gqu glo ghi gby gib hx t0 a0 a1 b0 b1 c0 c1 a2 a3 b2 b3 c2 c3
  · subst z
    have hx : sgT l g b = 103 := e
    have t0 : t (26 * j) = 103 := T0.trans hx
    exact do_g hX hj hb h hI hO ora odi oqu gle gsu gma gpi gst ghe gow gfa gqu glo ghi gby gib hx t0
  · subst z
    have hx : sgT l g b = 108 := e
    have t0 : t (26 * j) = 108 := T0.trans hx
    exact do_l hX hj hb h hI hO ora odi oqu gle gsu gma gpi gst ghe gow gfa gqu glo ghi gby gib hx t0
  · subst z
    have hx : sgT l g b = 109 := e
    have t0 : t (26 * j) = 109 := T0.trans hx
    exact do_m hX hj hb h hI hO ora odi oqu gle gsu gma gpi gst ghe gow gfa gqu glo ghi gby gib hx t0
  · subst z
    have hx : sgT l g b = 116 := e
    have t0 : t (26 * j) = 116 := T0.trans hx
    have hw : wqT (sgT l g b) = 2 := by rw [hx]; decide
    obtain ⟨d0, a0, b0, c0⟩ := D 0 (by omega)
    obtain ⟨d1, a1, b1, c1⟩ := D 1 (by omega)
    exact do_t hX hj hb h hI hO ora odi oqu gle gsu gma gpi gst ghe gow gfa gqu glo ghi gby gib hx t0 a0 a1 b0 b1 c0 c1
  · subst z
    have hx : sgT l g b = 119 := e
    have t0 : t (26 * j) = 119 := T0.trans hx
    have hw : wqT (sgT l g b) = 2 := by rw [hx]; decide
    obtain ⟨d0, a0, b0, c0⟩ := D 0 (by omega)
    obtain ⟨d1, a1, b1, c1⟩ := D 1 (by omega)
    obtain ⟨t5, t6⟩ := T2 hx
    exact do_w hX hj hb h hI hO ora odi oqu gle gsu gma gpi gst ghe gow gfa gqu glo ghi gby gib hx t0 a0 a1 b0 b1 c0 c1 rfl (g5 hx).2 t5 t6
end DOES
