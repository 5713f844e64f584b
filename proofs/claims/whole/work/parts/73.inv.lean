/-! WHAT IS KEPT, over the heap; each call -/
def KI (im mik : Int32) (krg : Int64) (kld : Int32) (kmt : Nat → Int32) (kps kpl : Int32) (kpw : Nat → Int32) (kss : Int32) (kso ksq : Nat → Int32) (kes : Int32) (keo keq : Nat → Int32) (kgs : Int32) (kgo kgq : Nat → Int32) (mkr : Int64) (mkp : Nat → Int32) : Prop := (im = 0 ∧ mik = 0) ∨ (im = 1 ∧ mik = 1 ∧ St krg kld kmt kps kpl kpw kss kso ksq kes keo keq kgs kgo kgq mkr mkp ∧ TI krg kld kmt)
def Inv (n : Nat) (hp : sxH) : Prop := ∀ (P : Prop), (∀ (im : Int32) (nrg : Int64) (nld : Int32) (nmt : (Nat → Int32)) (nps : Int32) (npl : Int32) (npw : (Nat → Int32)) (npr : (Nat → Int32)) (nss : Int32) (nso : (Nat → Int32)) (nsq : (Nat → Int32)) (nes : Int32) (neo : (Nat → Int32)) (neq : (Nat → Int32)) (ngs : Int32) (ngo : (Nat → Int32)) (ngq : (Nat → Int32)) (krg : Int64) (kld : Int32) (kmt : (Nat → Int32)) (kps : Int32) (kpl : Int32) (kpw : (Nat → Int32)) (kpr : (Nat → Int32)) (kss : Int32) (kso : (Nat → Int32)) (ksq : (Nat → Int32)) (kes : Int32) (keo : (Nat → Int32)) (keq : (Nat → Int32)) (kgs : Int32) (kgo : (Nat → Int32)) (kgq : (Nat → Int32)) (okn : Int32) (org : Int64) (osi : Int32) (oti : Int32) (ole : Int32) (oto : Int32) (oow : Int64) (oco : Int64) (ost : (Nat → Int32)) (owa : (Nat → Int32)) (owv : (Nat → Int32)) (owh : (Nat → Int32)) (olo : (Nat → Int32)) (ohi : (Nat → Int32)) (ora : (Nat → Int32)) (odi : (Nat → Int32)) (oqu : (Nat → Int32)) (skd : Int32) (sdp : Int32) (sfd : Int32) (sop : (Nat → Int64)) (str : (Nat → Int32)) (spr : (Nat → UInt32)) (rsz : Int32) (rcl : Int32) (rsg : (Nat → Int32)) (rst : (Nat → Int32)) (mrg : Int64) (mkr : Int64) (mik : Int32) (msz : Int32) (gle : Int32) (gsu : Int32) (tat : Int32) (tfa : Int32) (cco : Int64) (cct : Int64) (cac : Int32) (caf : Int32) (cwe : UInt32) (ms : (Nat → Int32)) (mkp : (Nat → Int32)) (mtx : (Nat → Int32)) (mso : (Nat → Int32)) (mmy : (Nat → Int32)) (mit : (Nat → Int64)) (gma : (Nat → Int32)) (gpi : (Nat → Int32)) (gst : (Nat → Int32)) (ghe : (Nat → Int32)) (gow : (Nat → Int32)) (gfa : (Nat → Int32)) (gqu : (Nat → Int32)) (glo : (Nat → Int32)) (ghi : (Nat → Int32)) (gby : (Nat → Int32)) (gib : (Nat → Int32)) (tto : (Nat → Int32)) (cfo : (Nat → Int32)) (cff : (Nat → Int32)) (ccl : (Nat → Int32)) (tp : Nat → tTp) (T : sxH), hp = wF im nrg nld nmt nps npl npw npr nss nso nsq nes neo neq ngs ngo ngq krg kld kmt kps kpl kpw kpr kss kso ksq kes keo keq kgs kgo kgq okn org osi oti ole oto oow oco ost owa owv owh olo ohi ora odi oqu skd sdp sfd sop str spr rsz rcl rsg rst mrg mkr mik msz gle gsu tat tfa cco cct cac caf cwe ms mkp mtx mso mmy mit gma gpi gst ghe gow gfa gqu glo ghi gby gib tto cfo cff ccl tp T → T.length ≤ n → St nrg nld nmt nps npl npw nss nso nsq nes neo neq ngs ngo ngq mrg ms → TI nrg nld nmt → KI im mik krg kld kmt kps kpl kpw kss kso ksq kes keo keq kgs kgo kgq mkr mkp → IOk okn org osi oti ole oto oow oco ost owa owv owh olo ohi → IX rsz rsg msz mtx → IT tp mso mmy mit → P) → P
theorem Inv_W : ∀ n hp, Inv n hp → isW hp := by
  intro n hp hI
  refine hI _ (fun im nrg nld nmt nps npl npw npr nss nso nsq nes neo neq ngs ngo ngq krg kld kmt kps kpl kpw kpr kss kso ksq kes keo keq kgs kgo kgq okn org osi oti ole oto oow oco ost owa owv owh olo ohi ora odi oqu skd sdp sfd sop str spr rsz rcl rsg rst mrg mkr mik msz gle gsu tat tfa cco cct cac caf cwe ms mkp mtx mso mmy mit gma gpi gst ghe gow gfa gqu glo ghi gby gib tto cfo cff ccl tp T e _ _ _ _ _ _ _ => ?_)
  subst e
  exact isW_wF
theorem Inv_mo : ∀ n hp, Inv n hp → Inv (n + 1) hp := by
  intro n hp hI P k
  exact hI P (fun im nrg nld nmt nps npl npw npr nss nso nsq nes neo neq ngs ngo ngq krg kld kmt kps kpl kpw kpr kss kso ksq kes keo keq kgs kgo kgq okn org osi oti ole oto oow oco ost owa owv owh olo ohi ora odi oqu skd sdp sfd sop str spr rsz rcl rsg rst mrg mkr mik msz gle gsu tat tfa cco cct cac caf cwe ms mkp mtx mso mmy mit gma gpi gst ghe gow gfa gqu glo ghi gby gib tto cfo cff ccl tp T e hT h1 h2 h3 h4 h5 h6 => k im nrg nld nmt nps npl npw npr nss nso nsq nes neo neq ngs ngo ngq krg kld kmt kps kpl kpw kpr kss kso ksq kes keo keq kgs kgo kgq okn org osi oti ole oto oow oco ost owa owv owh olo ohi ora odi oqu skd sdp sfd sop str spr rsz rcl rsg rst mrg mkr mik msz gle gsu tat tfa cco cct cac caf cwe ms mkp mtx mso mmy mit gma gpi gst ghe gow gfa gqu glo ghi gby gib tto cfo cff ccl tp T e (Nat.le_succ_of_le hT) h1 h2 h3 h4 h5 h6)
theorem Inv_i {n : Nat} {im : Int32} {nrg : Int64} {nld : Int32} {nmt : (Nat → Int32)} {nps : Int32} {npl : Int32} {npw : (Nat → Int32)} {npr : (Nat → Int32)} {nss : Int32} {nso : (Nat → Int32)} {nsq : (Nat → Int32)} {nes : Int32} {neo : (Nat → Int32)} {neq : (Nat → Int32)} {ngs : Int32} {ngo : (Nat → Int32)} {ngq : (Nat → Int32)} {krg : Int64} {kld : Int32} {kmt : (Nat → Int32)} {kps : Int32} {kpl : Int32} {kpw : (Nat → Int32)} {kpr : (Nat → Int32)} {kss : Int32} {kso : (Nat → Int32)} {ksq : (Nat → Int32)} {kes : Int32} {keo : (Nat → Int32)} {keq : (Nat → Int32)} {kgs : Int32} {kgo : (Nat → Int32)} {kgq : (Nat → Int32)} {okn : Int32} {org : Int64} {osi : Int32} {oti : Int32} {ole : Int32} {oto : Int32} {oow : Int64} {oco : Int64} {ost : (Nat → Int32)} {owa : (Nat → Int32)} {owv : (Nat → Int32)} {owh : (Nat → Int32)} {olo : (Nat → Int32)} {ohi : (Nat → Int32)} {ora : (Nat → Int32)} {odi : (Nat → Int32)} {oqu : (Nat → Int32)} {skd : Int32} {sdp : Int32} {sfd : Int32} {sop : (Nat → Int64)} {str : (Nat → Int32)} {spr : (Nat → UInt32)} {rsz : Int32} {rcl : Int32} {rsg : (Nat → Int32)} {rst : (Nat → Int32)} {mrg : Int64} {mkr : Int64} {mik : Int32} {msz : Int32} {gle : Int32} {gsu : Int32} {tat : Int32} {tfa : Int32} {cco : Int64} {cct : Int64} {cac : Int32} {caf : Int32} {cwe : UInt32} {ms : (Nat → Int32)} {mkp : (Nat → Int32)} {mtx : (Nat → Int32)} {mso : (Nat → Int32)} {mmy : (Nat → Int32)} {mit : (Nat → Int64)} {gma : (Nat → Int32)} {gpi : (Nat → Int32)} {gst : (Nat → Int32)} {ghe : (Nat → Int32)} {gow : (Nat → Int32)} {gfa : (Nat → Int32)} {gqu : (Nat → Int32)} {glo : (Nat → Int32)} {ghi : (Nat → Int32)} {gby : (Nat → Int32)} {gib : (Nat → Int32)} {tto : (Nat → Int32)} {cfo : (Nat → Int32)} {cff : (Nat → Int32)} {ccl : (Nat → Int32)} {tp : Nat → tTp} {T : sxH} (hT : T.length ≤ n) (h1 : St nrg nld nmt nps npl npw nss nso nsq nes neo neq ngs ngo ngq mrg ms) (h2 : TI nrg nld nmt) (h3 : KI im mik krg kld kmt kps kpl kpw kss kso ksq kes keo keq kgs kgo kgq mkr mkp) (h4 : IOk okn org osi oti ole oto oow oco ost owa owv owh olo ohi) (h5 : IX rsz rsg msz mtx) (h6 : IT tp mso mmy mit) : Inv n (wF im nrg nld nmt nps npl npw npr nss nso nsq nes neo neq ngs ngo ngq krg kld kmt kps kpl kpw kpr kss kso ksq kes keo keq kgs kgo kgq okn org osi oti ole oto oow oco ost owa owv owh olo ohi ora odi oqu skd sdp sfd sop str spr rsz rcl rsg rst mrg mkr mik msz gle gsu tat tfa cco cct cac caf cwe ms mkp mtx mso mmy mit gma gpi gst ghe gow gfa gqu glo ghi gby gib tto cfo cff ccl tp T) := fun P k => k im nrg nld nmt nps npl npw npr nss nso nsq nes neo neq ngs ngo ngq krg kld kmt kps kpl kpw kpr kss kso ksq kes keo keq kgs kgo kgq okn org osi oti ole oto oow oco ost owa owv owh olo ohi ora odi oqu skd sdp sfd sop str spr rsz rcl rsg rst mrg mkr mik msz gle gsu tat tfa cco cct cac caf cwe ms mkp mtx mso mmy mit gma gpi gst ghe gow gfa gqu glo ghi gby gib tto cfo cff ccl tp T rfl hT h1 h2 h3 h4 h5 h6
theorem cell_TI {a b : Int32} {rg : Int64} {ld : Int32} {mt : Nat → Int32} {q : Int32 × Int64 × Int32} (h : X_cell a b rg ld = some q) (hI : TI rg ld mt) : TI q.2.1 q.2.2 mt := by
  unfold X_cell at h
  by_cases c1 : G_isCell a = 0
  · rw [if_pos c1] at h
    obtain rfl := Option.some.inj h
    exact hI
  · rw [if_neg c1] at h
    by_cases c2 : X_isBit b = 0
    · rw [if_pos c2] at h
      obtain rfl := Option.some.inj h
      exact hI
    · rw [if_neg c2, S_become_eq, wbind rfl] at h
      obtain rfl := Option.some.inj h
      exact TI_become hI _
theorem IX_0 {a b : Int32} {f g : Nat → Int32} (ha : a = 0) (hb : b = 0) : IX a f b g := ⟨0, Nat.zero_le _, ha, hb, fun i hi => absurd hi (Nat.not_lt_zero _)⟩
theorem tapc (a : Int32) : (∀ t, t < 6 → a ≠ nI t) ∨ a = nI 0 ∨ a = nI 1 ∨ a = nI 2 ∨ a = nI 3 ∨ a = nI 4 ∨ a = nI 5 := by
  by_cases h : ∃ t, t < 6 ∧ a = nI t
  · obtain ⟨t, ht, e⟩ := h
    right
    rcases (show t = 0 ∨ t = 1 ∨ t = 2 ∨ t = 3 ∨ t = 4 ∨ t = 5 by omega) with q | q | q | q | q | q <;> subst q
    · exact Or.inl e
    · exact Or.inr (Or.inl e)
    · exact Or.inr (Or.inr (Or.inl e))
    · exact Or.inr (Or.inr (Or.inr (Or.inl e)))
    · exact Or.inr (Or.inr (Or.inr (Or.inr (Or.inl e))))
    · exact Or.inr (Or.inr (Or.inr (Or.inr (Or.inr e))))
  · exact Or.inl fun t ht e => h ⟨t, ht, e⟩
theorem tl_len {T : sxH} {n : Nat} {o : Option (Nat → Int64)} (h : T.length ≤ n) : (tlT T o).length ≤ n + 1 := by
  cases o with
  | none => exact Nat.le_succ_of_le h
  | some f =>
    show (T ++ [al 60 f]).length ≤ n + 1
    rw [List.length_append]
    exact Nat.succ_le_succ h
