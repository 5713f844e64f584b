/-! READ -/
section READ
variable {ss es gs : Int32} {so sq eo eq go gq : Nat → Int32}
variable {l : Nat} {g g' t st : Nat → Int32}
theorem read_loop (hX : TX l g g') {m : Nat} (hm : m ≤ 12) (hst : ∀ j, j < m → ∃ b, st j = nI b ∧ GC l g b ∧ TC l g t j b) (ora : Nat → Int32) : ∀ (r k : Nat), k + r = m → ∀ (dn : Int32) (rg : Int64) (ld : Int32) (mt : Nat → Int32) (ps pl : Int32) (pw : Nat → Int32) (okn : Int32) (org : Int64) (osi oti ole oto : Int32) (oow oco : Int64) (ost owa owv owh olo ohi odi oqu : Nat → Int32) (mrg : Int64) (gle gsu : Int32) (ms gma gpi gst ghe gow gfa gqu glo ghi gby gib : Nat → Int32) (F1 F2 : Nat), r < F1 → r < F2 → St rg ld mt ps pl pw ss so sq es eo eq gs go gq mrg ms → TI rg ld mt → IOk okn org osi oti ole oto oow oco ost owa owv owh olo ohi → ∃ w w', wh (X_read_s12 (-1) ora (nI l) (nI m) g st) F1 (dn, nI k, rg, ld, mt, ps, pl, pw, okn, org, osi, oti, ole, oto, oow, oco, ost, owa, owv, owh, olo, ohi, odi, oqu) = some w ∧ wh (M_read_s40 (nI m) t) F2 (dn, nI k, mrg, gle, gsu, ms, gma, gpi, gst, ghe, gow, gfa, gqu, glo, ghi, gby, gib) = some w' ∧ w'.1 = w.1 ∧ St w.2.1 w.2.2.1 w.2.2.2.1 w.2.2.2.2.1 w.2.2.2.2.2.1 w.2.2.2.2.2.2.1 ss so sq es eo eq gs go gq w'.2.1 w'.2.2.2.2.1 ∧ TI w.2.1 w.2.2.1 w.2.2.2.1 ∧ IOt w.2.2.2.2.2.2.2 := by
  have hl := hX.1
  intro r
  induction r with
  | zero =>
    intro k hk dn rg ld mt ps pl pw okn org osi oti ole oto oow oco ost owa owv owh olo ohi odi oqu mrg gle gsu ms gma gpi gst ghe gow gfa gqu glo ghi gby gib F1 F2 h1 h2 h hI hO
    obtain ⟨E1, rfl⟩ : ∃ E1, F1 = E1 + 1 := ⟨F1 - 1, by omega⟩
    obtain ⟨E2, rfl⟩ : ∃ E2, F2 = E2 + 1 := ⟨F2 - 1, by omega⟩
    refine ⟨(dn, rg, ld, mt, ps, pl, pw, okn, org, osi, oti, ole, oto, oow, oco, ost, owa, owv, owh, olo, ohi, odi, oqu), (dn, mrg, gle, gsu, ms, gma, gpi, gst, ghe, gow, gfa, gqu, glo, ghi, gby, gib), wh_inr ?_, wh_inr ?_, rfl, h, hI, hO⟩
    · unfold X_read_s12
      dsimp only
      rw [if_neg (by decide), if_pos (nI_le (by omega) (by omega))]
    · unfold M_read_s40
      dsimp only
      rw [if_pos (nI_le (by omega) (by omega))]
  | succ r ih =>
    intro k hk dn rg ld mt ps pl pw okn org osi oti ole oto oow oco ost owa owv owh olo ohi odi oqu mrg gle gsu ms gma gpi gst ghe gow gfa gqu glo ghi gby gib F1 F2 h1 h2 h hI hO
    obtain ⟨E1, rfl⟩ : ∃ E1, F1 = E1 + 1 := ⟨F1 - 1, by omega⟩
    obtain ⟨E2, rfl⟩ : ∃ E2, F2 = E2 + 1 := ⟨F2 - 1, by omega⟩
    obtain ⟨b, sb, hG, hT⟩ := hst k (by omega)
    obtain ⟨q, e1, q', e2, e3, e4, hS, hI', hK⟩ := does_eq hX (show k < 12 by omega) (by have := hG.1; omega) h hI hO ora odi oqu gle gsu gma gpi gst ghe gow gfa gqu glo ghi gby gib hG hT
    obtain ⟨qa, rg', ld', mt', ps', pl', pw', okn', org', osi', oti', ole', oto', oow', oco', ost', owa', owv', owh', olo', ohi', odi', oqu'⟩ := q
    obtain ⟨qb, mrg', gle', gsu', ms', gma', gpi', gst', ghe', gow', gfa', gqu', glo', ghi', gby', gib'⟩ := q'
    have hK : IOk okn' org' osi' oti' ole' oto' oow' oco' ost' owa' owv' owh' olo' ohi' := hK
    dsimp only at e3 e4 hS hI'
    have e3 := e3.symm
    subst e3
    have cs : C_start (nI k) st = some (nI b) := by
      unfold C_start C_start_j20
      rw [if_neg (nI_pos (by omega)), if_neg (show ¬ (12:Int32) ≤ nI k from nI_ge (a := k) (b := 12) (by omega) (by decide)), grd_t (gi_nI (by omega) (by decide)), nI_clamp (by omega), sb]
    have s1 : X_read_s12 (-1) ora (nI l) (nI m) g st (dn, nI k, rg, ld, mt, ps, pl, pw, okn, org, osi, oti, ole, oto, oow, oco, ost, owa, owv, owh, olo, ohi, odi, oqu) = some (Sum.inl (if qa = 0 then dn else dn + 1, nI (k + 1), rg', ld', mt', ps', pl', pw', okn', org', osi', oti', ole', oto', oow', oco', ost', owa', owv', owh', olo', ohi', odi', oqu')) := by
      unfold X_read_s12
      dsimp only
      rw [if_neg (by decide), if_neg (nI_ge (show k < m by omega) (by omega)), cs, wbind rfl, e1, wbind rfl, nI_1]
    have s2 : M_read_s40 (nI m) t (dn, nI k, mrg, gle, gsu, ms, gma, gpi, gst, ghe, gow, gfa, gqu, glo, ghi, gby, gib) = some (Sum.inl (if qa = 0 then dn else dn + 1, nI (k + 1), mrg', gle', gsu', ms', gma', gpi', gst', ghe', gow', gfa', gqu', glo', ghi', gby', gib')) := by
      unfold M_read_s40
      dsimp only
      rw [if_neg (nI_ge (show k < m by omega) (by omega)), show (26:Int32) * nI k = nI (26 * k) from pk_mul 26 k, e2, wbind rfl, nI_1]
      dsimp only
      by_cases z : qa = 0
      · rw [if_pos z, if_pos z, Int32.add_zero]
      · rw [if_neg z, if_neg z]
    obtain ⟨w, w', r1, r2, r3⟩ := ih (k + 1) (by omega) (if qa = 0 then dn else dn + 1) rg' ld' mt' ps' pl' pw' okn' org' osi' oti' ole' oto' oow' oco' ost' owa' owv' owh' olo' ohi' odi' oqu' mrg' gle' gsu' ms' gma' gpi' gst' ghe' gow' gfa' gqu' glo' ghi' gby' gib' E1 E2 (by omega) (by omega) hS hI' hK
    exact ⟨w, w', by rw [wh_inl s1]; exact r1, by rw [wh_inl s2]; exact r2, r3⟩
end READ
section READ2
variable {rg mrg : Int64} {ld ps pl ss es gs : Int32} {mt pw so sq eo eq go gq ms : Nat → Int32}
variable {okn : Int32} {org : Int64} {osi oti ole oto : Int32} {oow oco : Int64} {ost owa owv owh olo ohi : Nat → Int32}
theorem p_read {rsz msz : Int32} {rsg mtx : Nat → Int32} (hX : IX rsz rsg msz mtx) (h : St rg ld mt ps pl pw ss so sq es eo eq gs go gq mrg ms) (hI : TI rg ld mt) (hO : IOk okn org osi oti ole oto oow oco ost owa owv owh olo ohi) (ora odi oqu rst : Nat → Int32) (gle gsu : Int32) (gma gpi gst ghe gow gfa gqu glo ghi gby gib tto : Nat → Int32) : ∃ q, X_read rg ld mt ps pl pw okn org osi oti ole oto oow oco ost owa owv owh olo ohi ora odi oqu rsz rsg rst = some q ∧ ∃ q', M_read mrg msz gle gsu ms mtx gma gpi gst ghe gow gfa gqu glo ghi gby gib tto = some q' ∧ q'.1 = q.1 ∧ St q.2.1 q.2.2.1 q.2.2.2.1 q.2.2.2.2.1 q.2.2.2.2.2.1 q.2.2.2.2.2.2.1 ss so sq es eo eq gs go gq q'.2.1 q'.2.2.2.2.2.2.2.1 ∧ TI q.2.1 q.2.2.1 q.2.2.2.1 ∧ IOt q.2.2.2.2.2.2.2 ∧ q.2.2.2.2.2.2.2.2.2.2.2.2.2.2.2.2.2.2.2.2.2.2.2.1 = 0 ∧ q'.2.2.1 = 0 := by
  obtain ⟨l, l1, l2, l3, l4⟩ := hX
  subst l2 l3
  have hT : TX l rsg mtx := ⟨l1, l4⟩
  obtain ⟨F, n, st, f1, q1, f2, f3, f4⟩ := parse_eq hT rst tto
  unfold X_read M_read
  rw [f1, wbind rfl, f2, wbind rfl]
  dsimp only
  unfold C_clear
  rcases f4 with ⟨f, hf, eF⟩ | ⟨eF, m, hm, en, em, hst⟩
  · have nF : ¬ F = -1 := by rw [eF]; exact nI_ne_m1 f (by omega)
    have pF : (0:Int32) ≤ F := by rw [eF]; exact nI_pos' (by omega)
    have w1 : wh (X_read_s12 F ora (nI l) n rsg st) FU ((0:Int32), (0:Int32), rg, ld, mt, ps, pl, pw, okn, org, osi, oti, ole, oto, oow, oco, ost, owa, owv, owh, olo, ohi, odi, oqu) = some ((0:Int32), rg, ld, mt, ps, pl, pw, okn, org, osi, oti, ole, oto, oow, oco, ost, owa, owv, owh, olo, ohi, odi, oqu) := by
      have hF : FU = (FU - 1) + 1 := by have := FU_big; omega
      rw [hF]
      refine wh_inr ?_
      unfold X_read_s12
      dsimp only
      rw [if_pos pF]
    rw [w1, wbind rfl, wbind rfl, if_neg (show ¬ q1.2.2.1 = -1 by rw [f3]; exact nF), if_pos pF]
    exact ⟨_, rfl, _, rfl, by dsimp only; rw [f3], h, hI, hO, rfl, rfl⟩
  · subst eF
    subst en
    obtain ⟨w, w', r1, r2, r3, r4, r5, r6⟩ := read_loop hT hm hst ora m 0 (by omega) 0 rg ld mt ps pl pw okn org osi oti ole oto oow oco ost owa owv owh olo ohi odi oqu mrg gle gsu ms gma gpi gst ghe gow gfa gqu glo ghi gby gib FU FU (by have := FU_big; omega) (by have := FU_big; omega) h hI hO
    have r1 : wh (X_read_s12 (-1) ora (nI l) (nI m) rsg st) FU ((0:Int32), (0:Int32), rg, ld, mt, ps, pl, pw, okn, org, osi, oti, ole, oto, oow, oco, ost, owa, owv, owh, olo, ohi, odi, oqu) = some w := r1
    have r2 : wh (M_read_s40 (nI m) q1.2.2.2) FU ((0:Int32), (0:Int32), mrg, gle, gsu, ms, gma, gpi, gst, ghe, gow, gfa, gqu, glo, ghi, gby, gib) = some w' := r2
    rw [r1, wbind rfl, wbind rfl, if_pos f3, em, r2, wbind rfl, if_neg (show ¬ (0:Int32) ≤ -1 by decide)]
    exact ⟨_, rfl, _, rfl, r3, r4, r5, r6, rfl, rfl⟩
end READ2
