/-! each step of ours is one of the machine: the heap -/
theorem lay_all : ∀ (ci : Nat) (q : vw_C), vwCl[ci]? = some q → ∀ w ∈ u_ws q.1 q.2.1 q.2.2, w ∈ sxTB := by
  intro ci q h
  match ci, h with
  | 0, h => cases h; exact lay_RX2
  | 1, h => cases h; exact lay_RX3
  | 2, h => cases h; exact lay_RX4
  | 3, h => cases h; exact lay_RX5
  | 4, h => cases h; exact lay_RX6
  | 5, h => cases h; exact lay_RX7
  | 6, h => cases h; exact lay_RX8
  | 7, h => cases h; exact lay_RX9
  | 8, h => cases h; exact lay_RX10
  | k + 9, h => simp [vwCl] at h
theorem cls_ty : ∀ (ci : Nat) (q : vw_C), vwCl[ci]? = some q → ∀ k, k < q.2.2 → parseFieldDescriptor (q.2.1 k).2.2.1 = some (sxFT ci k) := by
  intro ci q h
  match ci, h with
  | 0, h => cases h; exact tyX2_ok
  | 1, h => cases h; exact tyX3_ok
  | 2, h => cases h; exact tyX4_ok
  | 3, h => cases h; exact tyX5_ok
  | 4, h => cases h; exact tyX6_ok
  | 5, h => cases h; exact tyX7_ok
  | 6, h => cases h; exact tyX8_ok
  | 7, h => cases h; exact tyX9_ok
  | 8, h => cases h; exact tyX10_ok
  | k + 9, h => simp [vwCl] at h
theorem cls_nm : ∀ (ci : Nat) (q : vw_C), vwCl[ci]? = some q → ∀ a, a < q.2.2 → ∀ b, b < q.2.2 → a ≠ b → (q.2.1 a).2.1 ≠ (q.2.1 b).2.1 := by
  intro ci q h
  match ci, h with
  | 0, h => cases h; exact nmX2
  | 1, h => cases h; exact nmX3
  | 2, h => cases h; exact nmX4
  | 3, h => cases h; exact nmX5
  | 4, h => cases h; exact nmX6
  | 5, h => cases h; exact nmX7
  | 6, h => cases h; exact nmX8
  | 7, h => cases h; exact nmX9
  | 8, h => cases h; exact nmX10
  | k + 9, h => simp [vwCl] at h
theorem cls_df : ∀ (ci : Nat) (q : vw_C), vwCl[ci]? = some q → ∀ j, j < q.2.2 → defaultValue (sxFT ci j) = sxDef (sxFT ci j) := by
  intro ci q h
  match ci, h with
  | 0, h => cases h; exact (by decide +kernel : ∀ j, j < 17 → defaultValue (sxFT 0 j) = sxDef (sxFT 0 j))
  | 1, h => cases h; exact (by decide +kernel : ∀ j, j < 4 → defaultValue (sxFT 1 j) = sxDef (sxFT 1 j))
  | 2, h => cases h; exact (by decide +kernel : ∀ j, j < 3 → defaultValue (sxFT 2 j) = sxDef (sxFT 2 j))
  | 3, h => cases h; exact (by decide +kernel : ∀ j, j < 4 → defaultValue (sxFT 3 j) = sxDef (sxFT 3 j))
  | 4, h => cases h; exact (by decide +kernel : ∀ j, j < 7 → defaultValue (sxFT 4 j) = sxDef (sxFT 4 j))
  | 5, h => cases h; exact (by decide +kernel : ∀ j, j < 6 → defaultValue (sxFT 5 j) = sxDef (sxFT 5 j))
  | 6, h => cases h; exact (by decide +kernel : ∀ j, j < 3 → defaultValue (sxFT 6 j) = sxDef (sxFT 6 j))
  | 7, h => cases h; exact (by decide +kernel : ∀ j, j < 7 → defaultValue (sxFT 7 j) = sxDef (sxFT 7 j))
  | 8, h => cases h; exact (by decide +kernel : ∀ j, j < 34 → defaultValue (sxFT 8 j) = sxDef (sxFT 8 j))
  | k + 9, h => simp [vwCl] at h
theorem bm_inv {b : Bool} {P : Prop} (h : match b with | true => P | false => False) : b = true ∧ P := by
  cases b with
  | true => exact ⟨rfl, h⟩
  | false => exact h.elim
theorem hO_inv {hp : sxH} {a ci : Nat} {k : List Value → Prop} (h : hO hp a ci k) : ∃ fs, hp[a]? = some (.inr (ci, fs)) ∧ k fs := by
  unfold hO at h
  rw [sxg_eq] at h
  cases h1 : Nat.ble 1000000 a with
  | true => rw [h1] at h; exact h.elim
  | false =>
    rw [h1] at h
    cases h2 : hp[a]? with
    | none => rw [h2] at h; exact h.elim
    | some c =>
      rw [h2] at h
      cases c with
      | inl x => exact h.elim
      | inr q =>
        obtain ⟨c, fs⟩ := q
        obtain ⟨h3, h4⟩ := bm_inv (b := Nat.beq c ci) h
        have e := beq1 h3
        subst e
        exact ⟨fs, rfl, h4⟩
theorem sxFld_inv {y idx : Nat} {dat : List Nat} {put : Bool} (h : sxFld y idx dat put = true) :
    (∃ (ci k pl : Nat) (q : vw_C), dat = [ci, k, pl] ∧ vwCl[ci]? = some q ∧ k < q.2.2 ∧ lk pl = some (.fieldLink (sxCs y) idx q.1 (q.2.1 k).2.1 (q.2.1 k).2.2.1) ∧ (q.2.1 k).1 = q.1 ∧ (put = false ∨ (q.2.1 k).2.2.2 = false ∨ ((mNm y).name = "<init>" ∧ q.1 = sxCs y))) ∨
    (∃ pl, dat = [0, pl] ∧ put = false ∧ lk pl = some (.fieldLink (sxCs y) idx "java/lang/String" "value" "[B")) ∨
    (∃ pl, dat = [1, pl] ∧ put = false ∧ lk pl = some (.fieldLink (sxCs y) idx "java/lang/String" "coder" "B")) := by
  unfold sxFld at h
  split at h
  · rename_i ci k pl
    cases hq : vwCl[ci]? with
    | none => rw [hq] at h; cases h
    | some q =>
      rw [hq] at h
      obtain ⟨f1, h⟩ := and1 h
      obtain ⟨f2, h⟩ := and1 h
      obtain ⟨f3, f4⟩ := and1 h
      refine Or.inl ⟨ci, k, pl, q, rfl, hq, Nat.le_of_ble_eq_true f1, dec1 f2, dec1 f3, ?_⟩
      cases put with
      | false => exact Or.inl rfl
      | true =>
        refine Or.inr ?_
        cases hfin : (q.2.1 k).2.2.2 with
        | false => exact Or.inl rfl
        | true =>
          rw [hfin] at f4
          obtain ⟨f5, f6⟩ := and1 (show (decide ((mNm y).name = "<init>") && decide (q.1 = sxCs y)) = true from f4)
          exact Or.inr ⟨dec1 f5, dec1 f6⟩
  · rename_i pl
    obtain ⟨f1, f2⟩ := and1 h
    exact Or.inr (Or.inl ⟨pl, rfl, by simpa using f1, dec1 f2⟩)
  · rename_i pl
    obtain ⟨f1, f2⟩ := and1 h
    exact Or.inr (Or.inr ⟨pl, rfl, by simpa using f1, dec1 f2⟩)
  · cases h
theorem fV_inv {fs : List Value} {i : Nat} {k : Value → Prop} (h : fV fs i k) : ∃ v, fs[i]? = some v ∧ k v := by
  unfold fV at h
  split at h
  · next v hv => exact ⟨v, hv, h⟩
  · exact h.elim
theorem hI_inv {sc : sxS} {hp : sxH} {a : Nat} {k : Nat → (Nat → Int32) → Prop} (h : hI sc hp a k) : (a = 1000000 ∧ k sc.1 sc.2) ∨ (a = 1000002 ∧ k 8 sxRIGHT) ∨ (a = 1000003 ∧ k 8 sxLEFT) ∨ ∃ n f, hp[a]? = some (.inl (0, n, .inl f)) ∧ k n f := by
  unfold hI at h
  rw [sxg_eq] at h
  split at h
  · next hb =>
    have hb := Nat.le_of_ble_eq_true hb
    split at h
    · next e => exact Or.inl ⟨by omega, h⟩
    · next e => exact Or.inr (Or.inl ⟨by omega, h⟩)
    · next e => exact Or.inr (Or.inr (Or.inl ⟨by omega, h⟩))
    · exact h.elim
  · split at h
    · next n f hc => exact Or.inr (Or.inr (Or.inr ⟨n, f, hc, h⟩))
    · exact h.elim
theorem hB_inv {hp : sxH} {a : Nat} {k : Nat → (Nat → Int32) → Prop} (h : hB hp a k) : (a = 1000005 ∧ k 4 sxRDLU) ∨ ∃ n f, hp[a]? = some (.inl (3, n, .inl f)) ∧ k n f := by
  unfold hB at h
  rw [sxg_eq] at h
  split at h
  · next hb =>
    have hb := Nat.le_of_ble_eq_true hb
    split at h
    · next e => exact Or.inl ⟨by omega, h⟩
    · exact h.elim
  · split at h
    · next n f hc => exact Or.inr ⟨n, f, hc, h⟩
    · exact h.elim
theorem hJ_inv {hp : sxH} {a : Nat} {k : Nat → (Nat → Int64) → Prop} (h : hJ hp a k) : (a = 1000001 ∧ k 8 sxSHAPES) ∨ ∃ n f, hp[a]? = some (.inl (1, n, .inr (.inl f))) ∧ k n f := by
  unfold hJ at h
  rw [sxg_eq] at h
  split at h
  · next hb =>
    have hb := Nat.le_of_ble_eq_true hb
    split at h
    · next e => exact Or.inl ⟨by omega, h⟩
    · exact h.elim
  · split at h
    · next n f hc => exact Or.inr ⟨n, f, hc, h⟩
    · exact h.elim
theorem hF_inv {hp : sxH} {a : Nat} {k : Nat → (Nat → UInt32) → Prop} (h : hF hp a k) : ∃ n f, hp[a]? = some (.inl (2, n, .inr (.inr (.inl f)))) ∧ k n f := by
  unfold hF at h
  rw [sxg_eq] at h
  split at h
  · next n f hc => exact ⟨n, f, hc, h⟩
  · exact h.elim
theorem hA_inv {hp : sxH} {a : Nat} {k : Nat → (Nat → Option Nat) → Prop} (h : hA hp a k) : ∃ n f, hp[a]? = some (.inl (4, n, .inr (.inr (.inr (.inr f))))) ∧ k n f := by
  unfold hA at h
  rw [sxg_eq] at h
  split at h
  · next n f hc => exact ⟨n, f, hc, h⟩
  · exact h.elim
theorem hN_inv {sc : sxS} {hp : sxH} {a : Nat} {k : Nat → Prop} (h : hN sc hp a k) : (a = 1000000 ∧ k sc.1) ∨ (a = 1000001 ∧ k 8) ∨ (a = 1000002 ∧ k 8) ∨ (a = 1000003 ∧ k 8) ∨ (a = 1000005 ∧ k 4) ∨ ∃ t n x, t ≤ 4 ∧ hp[a]? = some (.inl (t, n, x)) ∧ k n := by
  unfold hN at h
  rw [sxg_eq] at h
  split at h
  · next hb =>
    have hb := Nat.le_of_ble_eq_true hb
    split at h
    · next e => exact Or.inl ⟨by omega, h⟩
    · next e => exact Or.inr (Or.inl ⟨by omega, h⟩)
    · next e => exact Or.inr (Or.inr (Or.inl ⟨by omega, h⟩))
    · next e => exact Or.inr (Or.inr (Or.inr (Or.inl ⟨by omega, h⟩)))
    · next e => exact Or.inr (Or.inr (Or.inr (Or.inr (Or.inl ⟨by omega, h⟩))))
    · exact h.elim
  · split at h
    · next t n x hc =>
      split at h
      · next hb => exact Or.inr (Or.inr (Or.inr (Or.inr (Or.inr ⟨t, n, x, Nat.le_of_ble_eq_true hb, hc, h⟩))))
      · exact h.elim
    · exact h.elim
theorem sxFit_inv {ty : FieldType} {v : Value} {P : Prop} {ad : Nat → Nat} {fv : Value} (h : sxFit ty v P) : narrow ty (rv ad fv v) = rv ad fv v ∧ fits ty (rv ad fv v) = true ∧ P := by
  unfold sxFit at h
  split at h
  · exact ⟨rfl, rfl, h⟩
  · exact ⟨rfl, rfl, h⟩
  · exact ⟨rfl, rfl, h⟩
  · obtain ⟨h1 | h1, h2⟩ := h
    · subst h1; exact ⟨(by decide : narrow FieldType.boolean (Value.int 0) = Value.int 0), (by decide : fits FieldType.boolean (Value.int 0) = true), h2⟩
    · subst h1; exact ⟨(by decide : narrow FieldType.boolean (Value.int 1) = Value.int 1), (by decide : fits FieldType.boolean (Value.int 1) = true), h2⟩
  · exact ⟨rfl, rfl, h⟩
  · exact ⟨rfl, rfl, h⟩
  · exact h.elim
theorem sxDef_rv (ad : Nat → Nat) (fv : Value) (ty : FieldType) : rv ad fv (sxDef ty) = sxDef ty := by
  cases ty <;> rfl
theorem sxNew_rv (ad : Nat → Nat) (fv : Value) (ci : Nat) : (sxNew ci).map (rv ad fv) = sxNew ci := by
  unfold sxNew
  rw [List.map_map]
  exact List.map_congr_left fun k _ => sxDef_rv ad fv _
theorem sxNew_ok (n ci : Nat) : ∀ v ∈ sxNew ci, okv n v := by
  intro v hv
  unfold sxNew at hv
  obtain ⟨k, -, rfl⟩ := List.mem_map.mp hv
  generalize sxFT ci k = ty
  cases ty <;> trivial
theorem sxNew_at {ci j : Nat} (h : j < sxNF ci) : vp_V (sxNew ci) j = sxDef (sxFT ci j) := by
  unfold vp_V sxNew
  simp [List.getD, h]
section RHS
variable {D : va_G} {cA : Nat → ClassId} {fv : Value} {A : Nat → Prop} {ad0 ad : Nat → Nat} {n0 : Nat} {H0 H H1 : Heap} {hp : sxH} {locs locs1 : List Loc}
theorem RH.set (hH : RH D cA fv A ad0 n0 H0 hp ad H locs) {a : Nat} {c : va_E} (hc : okc hp.length c) (hP : va_P D vwCl ((wld ad fv cA hp).set a (ad a, rcell ad fv cA c)) H1) (hD : va_D A ((wld ad fv cA hp).set a (ad a, rcell ad fv cA c))) (hS : va_S A H0 H1 locs1) : RH D cA fv A ad0 n0 H0 (hp.set a c) ad H1 locs1 := by
  obtain ⟨-, -, -, h4, h5, h6⟩ := hH
  refine ⟨?_, ?_, hS, h4.set hc, h5, by rw [List.length_set]; exact h6⟩
  · rw [wld_set]; exact hP
  · rw [wld_set]; exact hD
theorem RH.push (hH : RH D cA fv A ad0 n0 H0 hp ad H locs) {q : Nat} {c : va_E} (hl : hp.length < 1000000) (hc : okc (hp.length + 1) c) (hP : va_P D vwCl (wld ad fv cA hp ++ [(q, rcell (adn ad hp.length q) fv cA c)]) H1) (hD : va_D A (wld ad fv cA hp ++ [(q, rcell (adn ad hp.length q) fv cA c)])) (hS : va_S A H0 H1 locs1) : RH D cA fv A ad0 n0 H0 (hp ++ [c]) (adn ad hp.length q) H1 locs1 := by
  obtain ⟨-, -, -, h4, h5, h6⟩ := hH
  have e : wld (adn ad hp.length q) fv cA (hp ++ [c]) = wld ad fv cA hp ++ [(q, rcell (adn ad hp.length q) fv cA c)] := by
    rw [wld_app, adn_self, (agr_adn hl).wl h4]
  refine ⟨?_, ?_, hS, h4.push hc, agr.trans h6 h5 (agr_adn hl), by rw [List.length_append]; omega⟩
  · rw [e]; exact hP
  · rw [e]; exact hD
end RHS
theorem spA {ad ad0 : Nat → Nat} {n0 : Nat} (h : agr n0 ad0 ad) {k : Nat} (hk : 1000000 ≤ k) : ad k = ad0 k := h k (Or.inr hk)
set_option maxHeartbeats 1000000 in
theorem sJ_getfield {p : Program} {l : Launch} {e : Env} {R : Room} {s : State} {m : MethodId} {args : Array Value} {below : List Frame} {meth : Method} {c : Code} {Qf : State → Prop} {D : va_G} {cA : Nat → ClassId} {fv : Value} {A : Nat → Prop} {ad0 : Nat → Nat} {n0 y : Nat} {sc : sxS} (C : Cx p R s m args meth c D cA fv A ad0 y sc) {call : sxX} {Q : sxR} {len : Nat} {dat : List Nat} {kv : Value} {pc : Nat} {L : sxL} {st : List Value} {hp : sxH} {cu su : Nat} {idx : Nat}
    (hF : sxJ sc call Q y (SP p l e R s m args below meth c Qf D cA fv A ad0 n0 y) (.getfield idx) dat kv pc L st hp cu su) (hdg : decode (mBy y) pc = .ok (.getfield idx, len)) (hg : sxGd y pc (.getfield idx) len dat kv = true) : SP p l e R s m args below meth c Qf D cA fv A ad0 n0 y (pc, L, st, hp, cu, su) := by
  obtain ⟨hx, hb, hml, hown, hts, hK, hA, hSp, hnm, hfr, hlo, hmc, hms, hy⟩ := C
  have hf : fv.category = 1 := hSp.2.2.2.2.2.2.2.2.2
  intro ad H locs ls hH hL hS
  have hH : RH D cA fv A ad0 n0 s.heap hp ad H locs := hH
  have hL : RL ad fv (mML y) hp.length ls L := hL
  have hS : okS hp.length st := hS
  show W p l e R s m args below meth c H locs cu su Qf (F0 m pc ls (st.map (rv ad fv)))
  obtain ⟨hP, hD, hSS, hok, hag, hn⟩ := id hH
  obtain ⟨e1, e2⟩ := and1 hg
  have e1 := beq1 e1
  subst e1
  obtain ⟨a, r, e5, hk0⟩ := pA_inv hF
  subst e5
  rcases sxFld_inv e2 with ⟨ci, k, pl, q, e6, hq, f1, f2, f3, -⟩ | ⟨pl, e6, -, f2⟩ | ⟨pl, e6, -, f2⟩
  · subst e6
    obtain ⟨fs, hat, hk1⟩ := hO_inv hk0
    obtain ⟨v, hv, hk⟩ := fV_inv hk1
    obtain ⟨Cn, T, N⟩ := q
    have hvok : okv hp.length v := (hok.at hat) v (List.mem_of_getElem? hv)
    exact va_get hx hb (own := sxCs y) (ref := Cn) (C := Cn) (T := T) (N := N) (ci := ci) (Ts := sxTB) hts (lay_all ci _ hq) hown hK hP a (fs := fs.map (rv ad fv)) (wld_at hat) hq k f1 (tbw hts f2 rfl) (fun x h => by rw [show (T k).1 = Cn from f3] at h; exact h) (v := rv ad fv v) (by rw [List.getElem?_map, hv]; rfl) hdg (hk ad H locs ls hH hL (okS.cons hvok hS.tl))
  · subst e6
    obtain ⟨h3, hk⟩ := bm_inv (b := Nat.beq a 1000004) hk0
    have e3 := beq1 h3
    subst e3
    have hE := (hSp.2.2.2.2.2.2.1.1 0 (by decide)).2.2.1
    have h4 : ad 1000004 = ad0 1000004 := spA hag (by decide)
    have h5 : ad 1000005 = ad0 1000005 := spA hag (by decide)
    exact vk_getf hx hb (o := "java/lang/String") (q := ad 1000004) (v := .ref (ad 1000005)) (A := A) (by rw [h4, h5]; exact hE) hSS hown (tbw hts f2 rfl) (fun x h => h) hdg (hk ad H locs ls hH hL (okS.cons (Or.inr (by decide)) hS.tl))
  · subst e6
    obtain ⟨h3, hk⟩ := bm_inv (b := Nat.beq a 1000004) hk0
    have e3 := beq1 h3
    subst e3
    have hE := (hSp.2.2.2.2.2.2.1.1 0 (by decide)).2.1
    have h4 : ad 1000004 = ad0 1000004 := spA hag (by decide)
    exact vk_getf hx hb (o := "java/lang/String") (q := ad 1000004) (v := .int 0) (A := A) (by rw [h4]; exact hE) hSS hown (tbw hts f2 rfl) (fun x h => h) hdg (hk ad H locs ls hH hL (okS.cons trivial hS.tl))
set_option maxHeartbeats 1000000 in
theorem sJ_putfield {p : Program} {l : Launch} {e : Env} {R : Room} {s : State} {m : MethodId} {args : Array Value} {below : List Frame} {meth : Method} {c : Code} {Qf : State → Prop} {D : va_G} {cA : Nat → ClassId} {fv : Value} {A : Nat → Prop} {ad0 : Nat → Nat} {n0 y : Nat} {sc : sxS} (C : Cx p R s m args meth c D cA fv A ad0 y sc) {call : sxX} {Q : sxR} {len : Nat} {dat : List Nat} {kv : Value} {pc : Nat} {L : sxL} {st : List Value} {hp : sxH} {cu su : Nat} {idx : Nat}
    (hF : sxJ sc call Q y (SP p l e R s m args below meth c Qf D cA fv A ad0 n0 y) (.putfield idx) dat kv pc L st hp cu su) (hdg : decode (mBy y) pc = .ok (.putfield idx, len)) (hg : sxGd y pc (.putfield idx) len dat kv = true) : SP p l e R s m args below meth c Qf D cA fv A ad0 n0 y (pc, L, st, hp, cu, su) := by
  obtain ⟨hx, hb, hml, hown, hts, hK, hA, hSp, hnm, hfr, hlo, hmc, hms, hy⟩ := C
  have hf : fv.category = 1 := hSp.2.2.2.2.2.2.2.2.2
  intro ad H locs ls hH hL hS
  have hH : RH D cA fv A ad0 n0 s.heap hp ad H locs := hH
  have hL : RL ad fv (mML y) hp.length ls L := hL
  have hS : okS hp.length st := hS
  show W p l e R s m args below meth c H locs cu su Qf (F0 m pc ls (st.map (rv ad fv)))
  obtain ⟨hP, hD, hSS, hok, hag, hn⟩ := id hH
  obtain ⟨e1, e2⟩ := and1 hg
  have e1 := beq1 e1
  subst e1
  obtain ⟨v, r0, e5, hk0⟩ := pV_inv hF
  subst e5
  obtain ⟨a, r, e7, hk1⟩ := pA_inv hk0
  subst e7
  rcases sxFld_inv e2 with ⟨ci, k, pl, q, e6, hq, f1, f2, f3, f4⟩ | ⟨pl, e6, f1, f2⟩ | ⟨pl, e6, f1, f2⟩
  · subst e6
    obtain ⟨fs, hat, hk2⟩ := hO_inv hk1
    have hat : hp[a]? = some (.inr (ci, fs)) := hat
    obtain ⟨hlt, hk3⟩ := bm_inv (b := Nat.blt k fs.length) hk2
    have hlt : k < fs.length := Nat.le_of_ble_eq_true hlt
    obtain ⟨g1, g2, hk⟩ := sxFit_inv (ad := ad) (fv := fv) hk3
    obtain ⟨Cn, T, N⟩ := q
    have hnew : okc hp.length (.inr (ci, fs.set k v)) := by
      intro w hw
      rcases List.mem_or_eq_of_mem_set hw with hw | rfl
      · exact (hok.at hat) w hw
      · exact hS.hd
    have hcell : rcell ad fv cA (.inr (ci, fs.set k v)) = .inr (ci, (fs.map (rv ad fv)).set k (rv ad fv v)) := by
      show Sum.inr (ci, (fs.set k v).map (rv ad fv)) = _
      rw [List.map_set]
    rcases f4 with f4 | hfin | ⟨f4, f5⟩
    · cases f4
    · refine va_put hx hb (own := sxCs y) (ref := Cn) (C := Cn) (T := T) (N := N) (ci := ci) (Ts := sxTB) hts (lay_all ci _ hq) (sxFT ci) (cls_ty ci _ hq) (cls_nm ci _ hq) hown hK hP hD hSS a (fs := fs.map (rv ad fv)) (wld_at hat) hq k f1 (tbw hts f2 rfl) (fun x h => by rw [show (T k).1 = Cn from f3] at h; exact h) hfin (cls_ty ci _ hq k f1) g1 g2 (by rw [List.length_map]; exact hlt) hdg (fun H1 locs1 hP1 hD1 hS1 => ?_)
      rw [← hcell] at hP1 hD1
      exact hk ad H1 locs1 ls (hH.set hnew hP1 hD1 hS1) (by show RL ad fv (mML y) (hp.set a _).length ls L; rw [List.length_set]; exact hL) (by show okS (hp.set a _).length r; rw [List.length_set]; exact hS.tl.tl)
    · by_cases hfin : (T k).2.2.2 = false
      · refine va_put hx hb (own := sxCs y) (ref := Cn) (C := Cn) (T := T) (N := N) (ci := ci) (Ts := sxTB) hts (lay_all ci _ hq) (sxFT ci) (cls_ty ci _ hq) (cls_nm ci _ hq) hown hK hP hD hSS a (fs := fs.map (rv ad fv)) (wld_at hat) hq k f1 (tbw hts f2 rfl) (fun x h => by rw [show (T k).1 = Cn from f3] at h; exact h) hfin (cls_ty ci _ hq k f1) g1 g2 (by rw [List.length_map]; exact hlt) hdg (fun H1 locs1 hP1 hD1 hS1 => ?_)
        rw [← hcell] at hP1 hD1
        exact hk ad H1 locs1 ls (hH.set hnew hP1 hD1 hS1) (by show RL ad fv (mML y) (hp.set a _).length ls L; rw [List.length_set]; exact hL) (by show okS (hp.set a _).length r; rw [List.length_set]; exact hS.tl.tl)
      · have hfin2 : (T k).2.2.2 = true := by simpa using hfin
        refine va_putF hx hb (own := sxCs y) (ref := Cn) (C := Cn) (T := T) (N := N) (ci := ci) (Ts := sxTB) hts (lay_all ci _ hq) (sxFT ci) (cls_ty ci _ hq) (cls_nm ci _ hq) hown hK hP hD hSS a (fs := fs.map (rv ad fv)) (wld_at hat) hq k f1 (tbw hts f2 rfl) (fun x h => by rw [show (T k).1 = Cn from f3] at h; exact h) hfin2 (hnm f4) (f3.trans f5) (cls_ty ci _ hq k f1) g1 g2 (by rw [List.length_map]; exact hlt) hdg (fun H1 locs1 hP1 hD1 hS1 => ?_)
        rw [← hcell] at hP1 hD1
        exact hk ad H1 locs1 ls (hH.set hnew hP1 hD1 hS1) (by show RL ad fv (mML y) (hp.set a _).length ls L; rw [List.length_set]; exact hL) (by show okS (hp.set a _).length r; rw [List.length_set]; exact hS.tl.tl)
  · cases f1
  · cases f1
set_option maxHeartbeats 1000000 in
theorem sJ_getstatic {p : Program} {l : Launch} {e : Env} {R : Room} {s : State} {m : MethodId} {args : Array Value} {below : List Frame} {meth : Method} {c : Code} {Qf : State → Prop} {D : va_G} {cA : Nat → ClassId} {fv : Value} {A : Nat → Prop} {ad0 : Nat → Nat} {n0 y : Nat} {sc : sxS} (C : Cx p R s m args meth c D cA fv A ad0 y sc) {call : sxX} {Q : sxR} {len : Nat} {dat : List Nat} {kv : Value} {pc : Nat} {L : sxL} {st : List Value} {hp : sxH} {cu su : Nat} {idx : Nat}
    (hF : sxJ sc call Q y (SP p l e R s m args below meth c Qf D cA fv A ad0 n0 y) (.getstatic idx) dat kv pc L st hp cu su) (hdg : decode (mBy y) pc = .ok (.getstatic idx, len)) (hg : sxGd y pc (.getstatic idx) len dat kv = true) : SP p l e R s m args below meth c Qf D cA fv A ad0 n0 y (pc, L, st, hp, cu, su) := by
  obtain ⟨hx, hb, hml, hown, hts, hK, hA, hSp, hnm, hfr, hlo, hmc, hms, hy⟩ := C
  have hf : fv.category = 1 := hSp.2.2.2.2.2.2.2.2.2
  intro ad H locs ls hH hL hS
  have hH : RH D cA fv A ad0 n0 s.heap hp ad H locs := hH
  have hL : RL ad fv (mML y) hp.length ls L := hL
  have hS : okS hp.length st := hS
  show W p l e R s m args below meth c H locs cu su Qf (F0 m pc ls (st.map (rv ad fv)))
  obtain ⟨hP, hD, hSS, hok, hag, hn⟩ := id hH
  obtain ⟨e1, e2⟩ := and1 hg
  have e1 := beq1 e1
  subst e1
  split at e2
  · have h1 : ad 1000001 = ad0 1000001 := spA hag (by decide)
    exact va_gets hx hb (v := .ref (ad 1000001)) (A := A) (by rw [h1]; exact hSp.2.1.1) hSS hown (tbw hts (dec1 e2) rfl) (fun x h => h) hdg (hF ad H locs ls hH hL (okS.cons (Or.inr (by decide)) hS))
  · have h1 : ad 1000002 = ad0 1000002 := spA hag (by decide)
    exact va_gets hx hb (v := .ref (ad 1000002)) (A := A) (by rw [h1]; exact hSp.2.2.1.1) hSS hown (tbw hts (dec1 e2) rfl) (fun x h => h) hdg (hF ad H locs ls hH hL (okS.cons (Or.inr (by decide)) hS))
  · have h1 : ad 1000003 = ad0 1000003 := spA hag (by decide)
    exact va_gets hx hb (v := .ref (ad 1000003)) (A := A) (by rw [h1]; exact hSp.2.2.2.1.1) hSS hown (tbw hts (dec1 e2) rfl) (fun x h => h) hdg (hF ad H locs ls hH hL (okS.cons (Or.inr (by decide)) hS))
  · exact va_gets hx hb (v := .int 1) (A := A) hSp.2.2.2.2.1 hSS hown (tbw hts (dec1 e2) rfl) (fun x h => h) hdg (hF ad H locs ls hH hL (okS.cons trivial hS))
  · exact va_gets hx hb (v := fv) (A := A) hSp.2.2.2.2.2.1 hSS hown (tbw hts (dec1 e2) rfl) (fun x h => h) hdg (hF ad H locs ls hH hL (okS.cons trivial hS))
  · cases e2
set_option maxHeartbeats 1000000 in
theorem sJ_iaload {p : Program} {l : Launch} {e : Env} {R : Room} {s : State} {m : MethodId} {args : Array Value} {below : List Frame} {meth : Method} {c : Code} {Qf : State → Prop} {D : va_G} {cA : Nat → ClassId} {fv : Value} {A : Nat → Prop} {ad0 : Nat → Nat} {n0 y : Nat} {sc : sxS} (C : Cx p R s m args meth c D cA fv A ad0 y sc) {call : sxX} {Q : sxR} {len : Nat} {dat : List Nat} {kv : Value} {pc : Nat} {L : sxL} {st : List Value} {hp : sxH} {cu su : Nat}
    (hF : sxJ sc call Q y (SP p l e R s m args below meth c Qf D cA fv A ad0 n0 y) (.iaload) dat kv pc L st hp cu su) (hdg : decode (mBy y) pc = .ok (.iaload, len)) (hg : sxGd y pc (.iaload) len dat kv = true) : SP p l e R s m args below meth c Qf D cA fv A ad0 n0 y (pc, L, st, hp, cu, su) := by
  obtain ⟨hx, hb, hml, hown, hts, hK, hA, hSp, hnm, hfr, hlo, hmc, hms, hy⟩ := C
  have hf : fv.category = 1 := hSp.2.2.2.2.2.2.2.2.2
  intro ad H locs ls hH hL hS
  have hH : RH D cA fv A ad0 n0 s.heap hp ad H locs := hH
  have hL : RL ad fv (mML y) hp.length ls L := hL
  have hS : okS hp.length st := hS
  show W p l e R s m args below meth c H locs cu su Qf (F0 m pc ls (st.map (rv ad fv)))
  obtain ⟨hP, hD, hSS, hok, hag, hn⟩ := id hH
  have e1 := beq1 hg
  subst e1
  obtain ⟨ix, a, r, rfl, hk⟩ := pIA_inv hF
  rcases hI_inv hk with ⟨rfl, hk⟩ | ⟨rfl, hk⟩ | ⟨rfl, hk⟩ | ⟨n, f, hat, hk⟩
  · have h1 : ad 1000000 = ad0 1000000 := spA hag (by decide)
    obtain ⟨x1, x2, x3⟩ := hSp.1
    exact va_sld hx hb (b := ad 1000000) (by rw [h1]; exact x1) (by rw [h1]; exact x2) (by rw [h1]; exact x3) hSS hk.1 hdg (hk.2 ad H locs ls hH hL (okS.cons trivial hS.tl.tl))
  · have h1 : ad 1000002 = ad0 1000002 := spA hag (by decide)
    exact va_ti hx hb (t := ad 1000002) (A := A) (N := 8) (f := fun j => .int (sxRIGHT j)) (by rw [h1]; exact hSp.2.2.1.2) hSS hk.1 rfl hdg (hk.2 ad H locs ls hH hL (okS.cons trivial hS.tl.tl))
  · have h1 : ad 1000003 = ad0 1000003 := spA hag (by decide)
    exact va_ti hx hb (t := ad 1000003) (A := A) (N := 8) (f := fun j => .int (sxLEFT j)) (by rw [h1]; exact hSp.2.2.2.1.2) hSS hk.1 rfl hdg (hk.2 ad H locs ls hH hL (okS.cons trivial hS.tl.tl))
  · exact va_iald hx hb hK hP a 0 (wld_at hat) rfl hk.1 hdg (hk.2 ad H locs ls hH hL (okS.cons trivial hS.tl.tl))
set_option maxHeartbeats 1000000 in
theorem sJ_baload {p : Program} {l : Launch} {e : Env} {R : Room} {s : State} {m : MethodId} {args : Array Value} {below : List Frame} {meth : Method} {c : Code} {Qf : State → Prop} {D : va_G} {cA : Nat → ClassId} {fv : Value} {A : Nat → Prop} {ad0 : Nat → Nat} {n0 y : Nat} {sc : sxS} (C : Cx p R s m args meth c D cA fv A ad0 y sc) {call : sxX} {Q : sxR} {len : Nat} {dat : List Nat} {kv : Value} {pc : Nat} {L : sxL} {st : List Value} {hp : sxH} {cu su : Nat}
    (hF : sxJ sc call Q y (SP p l e R s m args below meth c Qf D cA fv A ad0 n0 y) (.baload) dat kv pc L st hp cu su) (hdg : decode (mBy y) pc = .ok (.baload, len)) (hg : sxGd y pc (.baload) len dat kv = true) : SP p l e R s m args below meth c Qf D cA fv A ad0 n0 y (pc, L, st, hp, cu, su) := by
  obtain ⟨hx, hb, hml, hown, hts, hK, hA, hSp, hnm, hfr, hlo, hmc, hms, hy⟩ := C
  have hf : fv.category = 1 := hSp.2.2.2.2.2.2.2.2.2
  intro ad H locs ls hH hL hS
  have hH : RH D cA fv A ad0 n0 s.heap hp ad H locs := hH
  have hL : RL ad fv (mML y) hp.length ls L := hL
  have hS : okS hp.length st := hS
  show W p l e R s m args below meth c H locs cu su Qf (F0 m pc ls (st.map (rv ad fv)))
  obtain ⟨hP, hD, hSS, hok, hag, hn⟩ := id hH
  have e1 := beq1 hg
  subst e1
  obtain ⟨ix, a, r, rfl, hk⟩ := pIA_inv hF
  rcases hB_inv hk with ⟨rfl, hk⟩ | ⟨n, f, hat, hk⟩
  · have h1 : ad 1000005 = ad0 1000005 := spA hag (by decide)
    have hT := (hSp.2.2.2.2.2.2.1.1 0 (by decide)).2.2.2
    exact va_tb hx hb (t := ad 1000005) (A := A) (N := 4) (f := fun j => .int (sxRDLU j)) (by rw [h1]; exact hT) hSS hk.1 rfl hdg (hk.2 ad H locs ls hH hL (okS.cons trivial hS.tl.tl))
  · exact va_zald hx hb hK hP a 3 (wld_at hat) rfl hk.1 hdg (hk.2 ad H locs ls hH hL (okS.cons trivial hS.tl.tl))
set_option maxHeartbeats 1000000 in
theorem sJ_laload {p : Program} {l : Launch} {e : Env} {R : Room} {s : State} {m : MethodId} {args : Array Value} {below : List Frame} {meth : Method} {c : Code} {Qf : State → Prop} {D : va_G} {cA : Nat → ClassId} {fv : Value} {A : Nat → Prop} {ad0 : Nat → Nat} {n0 y : Nat} {sc : sxS} (C : Cx p R s m args meth c D cA fv A ad0 y sc) {call : sxX} {Q : sxR} {len : Nat} {dat : List Nat} {kv : Value} {pc : Nat} {L : sxL} {st : List Value} {hp : sxH} {cu su : Nat}
    (hF : sxJ sc call Q y (SP p l e R s m args below meth c Qf D cA fv A ad0 n0 y) (.laload) dat kv pc L st hp cu su) (hdg : decode (mBy y) pc = .ok (.laload, len)) (hg : sxGd y pc (.laload) len dat kv = true) : SP p l e R s m args below meth c Qf D cA fv A ad0 n0 y (pc, L, st, hp, cu, su) := by
  obtain ⟨hx, hb, hml, hown, hts, hK, hA, hSp, hnm, hfr, hlo, hmc, hms, hy⟩ := C
  have hf : fv.category = 1 := hSp.2.2.2.2.2.2.2.2.2
  intro ad H locs ls hH hL hS
  have hH : RH D cA fv A ad0 n0 s.heap hp ad H locs := hH
  have hL : RL ad fv (mML y) hp.length ls L := hL
  have hS : okS hp.length st := hS
  show W p l e R s m args below meth c H locs cu su Qf (F0 m pc ls (st.map (rv ad fv)))
  obtain ⟨hP, hD, hSS, hok, hag, hn⟩ := id hH
  have e1 := beq1 hg
  subst e1
  obtain ⟨ix, a, r, rfl, hk⟩ := pIA_inv hF
  rcases hJ_inv hk with ⟨rfl, hk⟩ | ⟨n, f, hat, hk⟩
  · have h1 : ad 1000001 = ad0 1000001 := spA hag (by decide)
    exact va_tl hx hb (t := ad 1000001) (A := A) (N := 8) (f := fun j => .long (sxSHAPES j)) (by rw [h1]; exact hSp.2.1.2) hSS hk.1 rfl hdg (hk.2 ad H locs ls hH hL (okS.cons trivial hS.tl.tl))
  · exact va_lald hx hb hK hP a 1 (wld_at hat) rfl hk.1 hdg (hk.2 ad H locs ls hH hL (okS.cons trivial hS.tl.tl))
set_option maxHeartbeats 1000000 in
theorem sJ_faload {p : Program} {l : Launch} {e : Env} {R : Room} {s : State} {m : MethodId} {args : Array Value} {below : List Frame} {meth : Method} {c : Code} {Qf : State → Prop} {D : va_G} {cA : Nat → ClassId} {fv : Value} {A : Nat → Prop} {ad0 : Nat → Nat} {n0 y : Nat} {sc : sxS} (C : Cx p R s m args meth c D cA fv A ad0 y sc) {call : sxX} {Q : sxR} {len : Nat} {dat : List Nat} {kv : Value} {pc : Nat} {L : sxL} {st : List Value} {hp : sxH} {cu su : Nat}
    (hF : sxJ sc call Q y (SP p l e R s m args below meth c Qf D cA fv A ad0 n0 y) (.faload) dat kv pc L st hp cu su) (hdg : decode (mBy y) pc = .ok (.faload, len)) (hg : sxGd y pc (.faload) len dat kv = true) : SP p l e R s m args below meth c Qf D cA fv A ad0 n0 y (pc, L, st, hp, cu, su) := by
  obtain ⟨hx, hb, hml, hown, hts, hK, hA, hSp, hnm, hfr, hlo, hmc, hms, hy⟩ := C
  have hf : fv.category = 1 := hSp.2.2.2.2.2.2.2.2.2
  intro ad H locs ls hH hL hS
  have hH : RH D cA fv A ad0 n0 s.heap hp ad H locs := hH
  have hL : RL ad fv (mML y) hp.length ls L := hL
  have hS : okS hp.length st := hS
  show W p l e R s m args below meth c H locs cu su Qf (F0 m pc ls (st.map (rv ad fv)))
  obtain ⟨hP, hD, hSS, hok, hag, hn⟩ := id hH
  have e1 := beq1 hg
  subst e1
  obtain ⟨ix, a, r, rfl, hk⟩ := pIA_inv hF
  obtain ⟨n, f, hat, hk⟩ := hF_inv hk
  exact va_fald hx hb hK hP a 2 (wld_at hat) rfl hk.1 hdg (hk.2 ad H locs ls hH hL (okS.cons trivial hS.tl.tl))
set_option maxHeartbeats 1000000 in
theorem sJ_aaload {p : Program} {l : Launch} {e : Env} {R : Room} {s : State} {m : MethodId} {args : Array Value} {below : List Frame} {meth : Method} {c : Code} {Qf : State → Prop} {D : va_G} {cA : Nat → ClassId} {fv : Value} {A : Nat → Prop} {ad0 : Nat → Nat} {n0 y : Nat} {sc : sxS} (C : Cx p R s m args meth c D cA fv A ad0 y sc) {call : sxX} {Q : sxR} {len : Nat} {dat : List Nat} {kv : Value} {pc : Nat} {L : sxL} {st : List Value} {hp : sxH} {cu su : Nat}
    (hF : sxJ sc call Q y (SP p l e R s m args below meth c Qf D cA fv A ad0 n0 y) (.aaload) dat kv pc L st hp cu su) (hdg : decode (mBy y) pc = .ok (.aaload, len)) (hg : sxGd y pc (.aaload) len dat kv = true) : SP p l e R s m args below meth c Qf D cA fv A ad0 n0 y (pc, L, st, hp, cu, su) := by
  obtain ⟨hx, hb, hml, hown, hts, hK, hA, hSp, hnm, hfr, hlo, hmc, hms, hy⟩ := C
  have hf : fv.category = 1 := hSp.2.2.2.2.2.2.2.2.2
  intro ad H locs ls hH hL hS
  have hH : RH D cA fv A ad0 n0 s.heap hp ad H locs := hH
  have hL : RL ad fv (mML y) hp.length ls L := hL
  have hS : okS hp.length st := hS
  show W p l e R s m args below meth c H locs cu su Qf (F0 m pc ls (st.map (rv ad fv)))
  obtain ⟨hP, hD, hSS, hok, hag, hn⟩ := id hH
  have e1 := beq1 hg
  subst e1
  obtain ⟨ix, a, r, rfl, hk⟩ := pIA_inv hF
  obtain ⟨n, f, hat, hk⟩ := hA_inv hk
  have hv : rv ad fv (va_rf (f ix.toNatClampNeg)) = va_rf ((f ix.toNatClampNeg).map ad) := by
    cases f ix.toNatClampNeg <;> rfl
  have hok1 : okv hp.length (va_rf (f ix.toNatClampNeg)) := by
    have h1 := hok.at hat
    cases hq : f ix.toNatClampNeg with
    | none => trivial
    | some k => exact Or.inl (h1 _ k hq)
  refine va_aldq hx hb hK hP a 4 (wld_at hat) rfl hk.1 hdg ?_
  rw [← hv]
  exact hk.2 ad H locs ls hH hL (okS.cons hok1 hS.tl.tl)
set_option maxHeartbeats 1000000 in
theorem sJ_arraylength {p : Program} {l : Launch} {e : Env} {R : Room} {s : State} {m : MethodId} {args : Array Value} {below : List Frame} {meth : Method} {c : Code} {Qf : State → Prop} {D : va_G} {cA : Nat → ClassId} {fv : Value} {A : Nat → Prop} {ad0 : Nat → Nat} {n0 y : Nat} {sc : sxS} (C : Cx p R s m args meth c D cA fv A ad0 y sc) {call : sxX} {Q : sxR} {len : Nat} {dat : List Nat} {kv : Value} {pc : Nat} {L : sxL} {st : List Value} {hp : sxH} {cu su : Nat}
    (hF : sxJ sc call Q y (SP p l e R s m args below meth c Qf D cA fv A ad0 n0 y) (.arraylength) dat kv pc L st hp cu su) (hdg : decode (mBy y) pc = .ok (.arraylength, len)) (hg : sxGd y pc (.arraylength) len dat kv = true) : SP p l e R s m args below meth c Qf D cA fv A ad0 n0 y (pc, L, st, hp, cu, su) := by
  obtain ⟨hx, hb, hml, hown, hts, hK, hA, hSp, hnm, hfr, hlo, hmc, hms, hy⟩ := C
  have hf : fv.category = 1 := hSp.2.2.2.2.2.2.2.2.2
  intro ad H locs ls hH hL hS
  have hH : RH D cA fv A ad0 n0 s.heap hp ad H locs := hH
  have hL : RL ad fv (mML y) hp.length ls L := hL
  have hS : okS hp.length st := hS
  show W p l e R s m args below meth c H locs cu su Qf (F0 m pc ls (st.map (rv ad fv)))
  obtain ⟨hP, hD, hSS, hok, hag, hn⟩ := id hH
  have e1 := beq1 hg
  subst e1
  obtain ⟨a, r, rfl, hk⟩ := pA_inv hF
  rcases hN_inv hk with ⟨rfl, hk⟩ | ⟨rfl, hk⟩ | ⟨rfl, hk⟩ | ⟨rfl, hk⟩ | ⟨rfl, hk⟩ | ⟨t, n, x, ht, hat, hk⟩
  · have h1 : ad 1000000 = ad0 1000000 := spA hag (by decide)
    obtain ⟨x1, x2, x3⟩ := hSp.1
    exact va_slen hx hb (b := ad 1000000) (by rw [h1]; exact x1) (by rw [h1]; exact x2) (by rw [h1]; exact x3) hSS hdg (hk ad H locs ls hH hL (okS.cons trivial hS.tl))
  · have h1 : ad 1000001 = ad0 1000001 := spA hag (by decide)
    exact va_tlen hx hb (t := ad 1000001) (A := A) (by rw [h1]; exact hSp.2.1.2) hSS rfl hdg (hk ad H locs ls hH hL (okS.cons trivial hS.tl))
  · have h1 : ad 1000002 = ad0 1000002 := spA hag (by decide)
    exact va_tlen hx hb (t := ad 1000002) (A := A) (by rw [h1]; exact hSp.2.2.1.2) hSS rfl hdg (hk ad H locs ls hH hL (okS.cons trivial hS.tl))
  · have h1 : ad 1000003 = ad0 1000003 := spA hag (by decide)
    exact va_tlen hx hb (t := ad 1000003) (A := A) (by rw [h1]; exact hSp.2.2.2.1.2) hSS rfl hdg (hk ad H locs ls hH hL (okS.cons trivial hS.tl))
  · have h1 : ad 1000005 = ad0 1000005 := spA hag (by decide)
    have hT := (hSp.2.2.2.2.2.2.1.1 0 (by decide)).2.2.2
    exact va_tlen hx hb (t := ad 1000005) (A := A) (N := 4) (f := fun j => .int (sxRDLU j)) (ty := .byte) (by rw [h1]; exact hT) hSS rfl hdg (hk ad H locs ls hH hL (okS.cons trivial hS.tl))
  · have hc : ∃ x', (wld ad fv cA hp)[a]? = some (ad a, .inl (cA t, n, x')) := by
      rcases x with f | f | f | f | f
      · exact ⟨_, wld_at hat⟩
      · exact ⟨_, wld_at hat⟩
      · exact ⟨_, wld_at hat⟩
      · exact ⟨_, wld_at hat⟩
      · exact ⟨_, wld_at hat⟩
    obtain ⟨x', hc⟩ := hc
    have hty : ∃ ty, (tysL cA)[t]? = some (cA t, ty) := by
      match t, ht with
      | 0, _ => exact ⟨_, rfl⟩
      | 1, _ => exact ⟨_, rfl⟩
      | 2, _ => exact ⟨_, rfl⟩
      | 3, _ => exact ⟨_, rfl⟩
      | 4, _ => exact ⟨_, rfl⟩
    obtain ⟨ty, hty⟩ := hty
    exact va_alen hx hb hK hP a t hc hty rfl hdg (hk ad H locs ls hH hL (okS.cons trivial hS.tl))
set_option maxHeartbeats 1000000 in
theorem sJ_iastore {p : Program} {l : Launch} {e : Env} {R : Room} {s : State} {m : MethodId} {args : Array Value} {below : List Frame} {meth : Method} {c : Code} {Qf : State → Prop} {D : va_G} {cA : Nat → ClassId} {fv : Value} {A : Nat → Prop} {ad0 : Nat → Nat} {n0 y : Nat} {sc : sxS} (C : Cx p R s m args meth c D cA fv A ad0 y sc) {call : sxX} {Q : sxR} {len : Nat} {dat : List Nat} {kv : Value} {pc : Nat} {L : sxL} {st : List Value} {hp : sxH} {cu su : Nat}
    (hF : sxJ sc call Q y (SP p l e R s m args below meth c Qf D cA fv A ad0 n0 y) (.iastore) dat kv pc L st hp cu su) (hdg : decode (mBy y) pc = .ok (.iastore, len)) (hg : sxGd y pc (.iastore) len dat kv = true) : SP p l e R s m args below meth c Qf D cA fv A ad0 n0 y (pc, L, st, hp, cu, su) := by
  obtain ⟨hx, hb, hml, hown, hts, hK, hA, hSp, hnm, hfr, hlo, hmc, hms, hy⟩ := C
  have hf : fv.category = 1 := hSp.2.2.2.2.2.2.2.2.2
  intro ad H locs ls hH hL hS
  have hH : RH D cA fv A ad0 n0 s.heap hp ad H locs := hH
  have hL : RL ad fv (mML y) hp.length ls L := hL
  have hS : okS hp.length st := hS
  show W p l e R s m args below meth c H locs cu su Qf (F0 m pc ls (st.map (rv ad fv)))
  obtain ⟨hP, hD, hSS, hok, hag, hn⟩ := id hH
  have e1 := beq1 hg
  subst e1
  obtain ⟨x, r0, e5, hk0⟩ := pI_inv hF
  subst e5
  obtain ⟨ix, a, r, e6, hk⟩ := pIA_inv hk0
  subst e6
  clear hk0
  rw [sxg_eq] at hk
  split at hk
  · next n f hat =>
    refine va_iast hx hb hK hP hD hSS a 0 (wld_at hat) rfl hk.1 hdg (fun H1 locs1 hP1 hD1 hS1 => ?_)
    exact hk.2 ad H1 locs1 ls (hH.set (c := .inl (0, n, .inl (upd f ix.toNatClampNeg x))) trivial hP1 hD1 hS1) (by show RL ad fv (mML y) (hp.set a _).length ls L; rw [List.length_set]; exact hL) (by show okS (hp.set a _).length r; rw [List.length_set]; exact hS.tl.tl.tl)
  · exact hk.elim
set_option maxHeartbeats 1000000 in
theorem sJ_lastore {p : Program} {l : Launch} {e : Env} {R : Room} {s : State} {m : MethodId} {args : Array Value} {below : List Frame} {meth : Method} {c : Code} {Qf : State → Prop} {D : va_G} {cA : Nat → ClassId} {fv : Value} {A : Nat → Prop} {ad0 : Nat → Nat} {n0 y : Nat} {sc : sxS} (C : Cx p R s m args meth c D cA fv A ad0 y sc) {call : sxX} {Q : sxR} {len : Nat} {dat : List Nat} {kv : Value} {pc : Nat} {L : sxL} {st : List Value} {hp : sxH} {cu su : Nat}
    (hF : sxJ sc call Q y (SP p l e R s m args below meth c Qf D cA fv A ad0 n0 y) (.lastore) dat kv pc L st hp cu su) (hdg : decode (mBy y) pc = .ok (.lastore, len)) (hg : sxGd y pc (.lastore) len dat kv = true) : SP p l e R s m args below meth c Qf D cA fv A ad0 n0 y (pc, L, st, hp, cu, su) := by
  obtain ⟨hx, hb, hml, hown, hts, hK, hA, hSp, hnm, hfr, hlo, hmc, hms, hy⟩ := C
  have hf : fv.category = 1 := hSp.2.2.2.2.2.2.2.2.2
  intro ad H locs ls hH hL hS
  have hH : RH D cA fv A ad0 n0 s.heap hp ad H locs := hH
  have hL : RL ad fv (mML y) hp.length ls L := hL
  have hS : okS hp.length st := hS
  show W p l e R s m args below meth c H locs cu su Qf (F0 m pc ls (st.map (rv ad fv)))
  obtain ⟨hP, hD, hSS, hok, hag, hn⟩ := id hH
  have e1 := beq1 hg
  subst e1
  obtain ⟨x, r0, e5, hk0⟩ := pJ_inv hF
  subst e5
  obtain ⟨ix, a, r, e6, hk⟩ := pIA_inv hk0
  subst e6
  clear hk0
  rw [sxg_eq] at hk
  split at hk
  · next n f hat =>
    refine va_last hx hb hK hP hD hSS a 1 (wld_at hat) rfl hk.1 hdg (fun H1 locs1 hP1 hD1 hS1 => ?_)
    exact hk.2 ad H1 locs1 ls (hH.set (c := .inl (1, n, .inr (.inl (vp_updL f ix.toNatClampNeg x)))) trivial hP1 hD1 hS1) (by show RL ad fv (mML y) (hp.set a _).length ls L; rw [List.length_set]; exact hL) (by show okS (hp.set a _).length r; rw [List.length_set]; exact hS.tl.tl.tl)
  · exact hk.elim
set_option maxHeartbeats 1000000 in
theorem sJ_fastore {p : Program} {l : Launch} {e : Env} {R : Room} {s : State} {m : MethodId} {args : Array Value} {below : List Frame} {meth : Method} {c : Code} {Qf : State → Prop} {D : va_G} {cA : Nat → ClassId} {fv : Value} {A : Nat → Prop} {ad0 : Nat → Nat} {n0 y : Nat} {sc : sxS} (C : Cx p R s m args meth c D cA fv A ad0 y sc) {call : sxX} {Q : sxR} {len : Nat} {dat : List Nat} {kv : Value} {pc : Nat} {L : sxL} {st : List Value} {hp : sxH} {cu su : Nat}
    (hF : sxJ sc call Q y (SP p l e R s m args below meth c Qf D cA fv A ad0 n0 y) (.fastore) dat kv pc L st hp cu su) (hdg : decode (mBy y) pc = .ok (.fastore, len)) (hg : sxGd y pc (.fastore) len dat kv = true) : SP p l e R s m args below meth c Qf D cA fv A ad0 n0 y (pc, L, st, hp, cu, su) := by
  obtain ⟨hx, hb, hml, hown, hts, hK, hA, hSp, hnm, hfr, hlo, hmc, hms, hy⟩ := C
  have hf : fv.category = 1 := hSp.2.2.2.2.2.2.2.2.2
  intro ad H locs ls hH hL hS
  have hH : RH D cA fv A ad0 n0 s.heap hp ad H locs := hH
  have hL : RL ad fv (mML y) hp.length ls L := hL
  have hS : okS hp.length st := hS
  show W p l e R s m args below meth c H locs cu su Qf (F0 m pc ls (st.map (rv ad fv)))
  obtain ⟨hP, hD, hSS, hok, hag, hn⟩ := id hH
  have e1 := beq1 hg
  subst e1
  obtain ⟨x, r0, e5, hk0⟩ := pF_inv hF
  subst e5
  obtain ⟨ix, a, r, e6, hk⟩ := pIA_inv hk0
  subst e6
  clear hk0
  rw [sxg_eq] at hk
  split at hk
  · next n f hat =>
    refine va_fast hx hb hK hP hD hSS a 2 (wld_at hat) rfl hk.1 hdg (fun H1 locs1 hP1 hD1 hS1 => ?_)
    exact hk.2 ad H1 locs1 ls (hH.set (c := .inl (2, n, .inr (.inr (.inl (vf_upd f ix.toNatClampNeg x))))) trivial hP1 hD1 hS1) (by show RL ad fv (mML y) (hp.set a _).length ls L; rw [List.length_set]; exact hL) (by show okS (hp.set a _).length r; rw [List.length_set]; exact hS.tl.tl.tl)
  · exact hk.elim
set_option maxHeartbeats 1000000 in
theorem sJ_bastore {p : Program} {l : Launch} {e : Env} {R : Room} {s : State} {m : MethodId} {args : Array Value} {below : List Frame} {meth : Method} {c : Code} {Qf : State → Prop} {D : va_G} {cA : Nat → ClassId} {fv : Value} {A : Nat → Prop} {ad0 : Nat → Nat} {n0 y : Nat} {sc : sxS} (C : Cx p R s m args meth c D cA fv A ad0 y sc) {call : sxX} {Q : sxR} {len : Nat} {dat : List Nat} {kv : Value} {pc : Nat} {L : sxL} {st : List Value} {hp : sxH} {cu su : Nat}
    (hF : sxJ sc call Q y (SP p l e R s m args below meth c Qf D cA fv A ad0 n0 y) (.bastore) dat kv pc L st hp cu su) (hdg : decode (mBy y) pc = .ok (.bastore, len)) (hg : sxGd y pc (.bastore) len dat kv = true) : SP p l e R s m args below meth c Qf D cA fv A ad0 n0 y (pc, L, st, hp, cu, su) := by
  obtain ⟨hx, hb, hml, hown, hts, hK, hA, hSp, hnm, hfr, hlo, hmc, hms, hy⟩ := C
  have hf : fv.category = 1 := hSp.2.2.2.2.2.2.2.2.2
  intro ad H locs ls hH hL hS
  have hH : RH D cA fv A ad0 n0 s.heap hp ad H locs := hH
  have hL : RL ad fv (mML y) hp.length ls L := hL
  have hS : okS hp.length st := hS
  show W p l e R s m args below meth c H locs cu su Qf (F0 m pc ls (st.map (rv ad fv)))
  obtain ⟨hP, hD, hSS, hok, hag, hn⟩ := id hH
  have e1 := beq1 hg
  subst e1
  obtain ⟨x, r0, e5, hk0⟩ := pI_inv hF
  subst e5
  obtain ⟨ix, a, r, e6, hk⟩ := pIA_inv hk0
  subst e6
  clear hk0
  rw [sxg_eq] at hk
  split at hk
  · next n f hat =>
    obtain ⟨h1, h2, hk⟩ := hk
    have hn1 : vp_nar .boolean x = x := by
      rcases h2 with rfl | rfl
      · decide
      · decide
    refine va_zast hx hb hK hP hD hSS a 3 (wld_at hat) rfl h1 hdg (fun H1 locs1 hP1 hD1 hS1 => ?_)
    rw [hn1] at hP1 hD1
    exact hk ad H1 locs1 ls (hH.set (c := .inl (3, n, .inl (upd f ix.toNatClampNeg x))) trivial hP1 hD1 hS1) (by show RL ad fv (mML y) (hp.set a _).length ls L; rw [List.length_set]; exact hL) (by show okS (hp.set a _).length r; rw [List.length_set]; exact hS.tl.tl.tl)
  · exact hk.elim
set_option maxHeartbeats 1000000 in
theorem sJ_aastore {p : Program} {l : Launch} {e : Env} {R : Room} {s : State} {m : MethodId} {args : Array Value} {below : List Frame} {meth : Method} {c : Code} {Qf : State → Prop} {D : va_G} {cA : Nat → ClassId} {fv : Value} {A : Nat → Prop} {ad0 : Nat → Nat} {n0 y : Nat} {sc : sxS} (C : Cx p R s m args meth c D cA fv A ad0 y sc) {call : sxX} {Q : sxR} {len : Nat} {dat : List Nat} {kv : Value} {pc : Nat} {L : sxL} {st : List Value} {hp : sxH} {cu su : Nat}
    (hF : sxJ sc call Q y (SP p l e R s m args below meth c Qf D cA fv A ad0 n0 y) (.aastore) dat kv pc L st hp cu su) (hdg : decode (mBy y) pc = .ok (.aastore, len)) (hg : sxGd y pc (.aastore) len dat kv = true) : SP p l e R s m args below meth c Qf D cA fv A ad0 n0 y (pc, L, st, hp, cu, su) := by
  obtain ⟨hx, hb, hml, hown, hts, hK, hA, hSp, hnm, hfr, hlo, hmc, hms, hy⟩ := C
  have hf : fv.category = 1 := hSp.2.2.2.2.2.2.2.2.2
  intro ad H locs ls hH hL hS
  have hH : RH D cA fv A ad0 n0 s.heap hp ad H locs := hH
  have hL : RL ad fv (mML y) hp.length ls L := hL
  have hS : okS hp.length st := hS
  show W p l e R s m args below meth c H locs cu su Qf (F0 m pc ls (st.map (rv ad fv)))
  obtain ⟨hP, hD, hSS, hok, hag, hn⟩ := id hH
  have e1 := beq1 hg
  subst e1
  obtain ⟨x, r0, e5, hk0⟩ := pA_inv hF
  subst e5
  obtain ⟨ix, a, r, e6, hk⟩ := pIA_inv hk0
  subst e6
  clear hk0
  rw [sxg_eq, sxg_eq] at hk
  split at hk
  · next n f vs hat hax =>
    have hxl : x < hp.length := (List.getElem?_eq_some_iff.mp hax).1
    refine va_astq hx hb hK hP hD hSS a 4 x 6 (r := (RX8, TX8, 3)) (wld_at hat) rfl (wld_at hax) rfl hk.1 hdg (fun H1 locs1 hP1 hD1 hS1 => ?_)
    have hc : rcell ad fv cA (.inl (4, n, .inr (.inr (.inr (.inr (va_up f ix.toNatClampNeg (some x))))))) = .inl (cA 4, n, .inr (.inr (.inr (.inr (va_up (fun i => (f i).map ad) ix.toNatClampNeg (some (ad x))))))) := by
      have e : (fun i => (va_up f ix.toNatClampNeg (some x) i).map ad) = va_up (fun i => (f i).map ad) ix.toNatClampNeg (some (ad x)) := by
        funext i
        unfold va_up
        split <;> rfl
      show Sum.inl (cA 4, n, Sum.inr (Sum.inr (Sum.inr (Sum.inr (fun i => (va_up f ix.toNatClampNeg (some x) i).map ad))))) = _
      rw [e]
    have hnew : okc hp.length (.inl (4, n, .inr (.inr (.inr (.inr (va_up f ix.toNatClampNeg (some x))))))) := by
      intro i k hk1
      unfold va_up at hk1
      split at hk1
      · cases hk1; exact hxl
      · exact (hok.at hat) i k hk1
    rw [← hc] at hP1 hD1
    exact hk.2 ad H1 locs1 ls (hH.set hnew hP1 hD1 hS1) (by show RL ad fv (mML y) (hp.set a _).length ls L; rw [List.length_set]; exact hL) (by show okS (hp.set a _).length r; rw [List.length_set]; exact hS.tl.tl.tl)
  · exact hk.elim
set_option maxHeartbeats 1000000 in
theorem sJ_new {p : Program} {l : Launch} {e : Env} {R : Room} {s : State} {m : MethodId} {args : Array Value} {below : List Frame} {meth : Method} {c : Code} {Qf : State → Prop} {D : va_G} {cA : Nat → ClassId} {fv : Value} {A : Nat → Prop} {ad0 : Nat → Nat} {n0 y : Nat} {sc : sxS} (C : Cx p R s m args meth c D cA fv A ad0 y sc) {call : sxX} {Q : sxR} {len : Nat} {dat : List Nat} {kv : Value} {pc : Nat} {L : sxL} {st : List Value} {hp : sxH} {cu su : Nat} {idx : Nat}
    (hF : sxJ sc call Q y (SP p l e R s m args below meth c Qf D cA fv A ad0 n0 y) (.new idx) dat kv pc L st hp cu su) (hdg : decode (mBy y) pc = .ok (.new idx, len)) (hg : sxGd y pc (.new idx) len dat kv = true) : SP p l e R s m args below meth c Qf D cA fv A ad0 n0 y (pc, L, st, hp, cu, su) := by
  obtain ⟨hx, hb, hml, hown, hts, hK, hA, hSp, hnm, hfr, hlo, hmc, hms, hy⟩ := C
  have hf : fv.category = 1 := hSp.2.2.2.2.2.2.2.2.2
  intro ad H locs ls hH hL hS
  have hH : RH D cA fv A ad0 n0 s.heap hp ad H locs := hH
  have hL : RL ad fv (mML y) hp.length ls L := hL
  have hS : okS hp.length st := hS
  show W p l e R s m args below meth c H locs cu su Qf (F0 m pc ls (st.map (rv ad fv)))
  obtain ⟨hP, hD, hSS, hok, hag, hn⟩ := id hH
  obtain ⟨e1, e2⟩ := and1 hg
  have e1 := beq1 e1
  subst e1
  split at e2
  · next ci p1 p2 p3 =>
    split at e2
    · next q hq =>
      obtain ⟨f1, f2⟩ := and1 e2
      have f1 := beq1 f1
      obtain ⟨f2, f3, f4⟩ := dec1 f2
      obtain ⟨Cn, T, N⟩ := q
      have f1 : N = sxNF ci := f1
      subst f1
      have hF : (match Nat.ble (cu + 1) (mMc y) && Nat.ble (su + sxNF ci) (mMs y) with | true => hp.length < 1000000 ∧ SP p l e R s m args below meth c Qf D cA fv A ad0 n0 y (pc + 3, L, .ref hp.length :: st, hp ++ [.inr (ci, sxNew ci)], cu + 1, su + sxNF ci) | false => False) := hF
      split at hF
      · next hbd =>
        obtain ⟨b1, b2⟩ := and1 hbd
        have b1 := Nat.le_of_ble_eq_true b1
        have b2 := Nat.le_of_ble_eq_true b2
        obtain ⟨hl, hk⟩ := hF
        refine va_new hx hb (own := sxCs y) (C := Cn) (T := T) (N := sxNF ci) (ci := ci) (Ts := sxTB) hts (lay_all ci _ hq) (sxFT ci) (cls_ty ci _ hq) hown (tbw hts f2 rfl) (tbw hts f3 rfl) (tbw hts f4 rfl) hK hP hD hSS hA hq (fs := sxNew ci) (fun j hj => by rw [sxNew_at hj]; exact cls_df ci _ hq j hj) (by omega) (by omega) hdg (fun q H1 hP1 hD1 hS1 => ?_)
        have hc : rcell (adn ad hp.length q) fv cA (.inr (ci, sxNew ci)) = .inr (ci, sxNew ci) := by
          show Sum.inr (ci, (sxNew ci).map (rv (adn ad hp.length q) fv)) = _
          rw [sxNew_rv]
        rw [← hc] at hP1 hD1
        have h1 := hk (adn ad hp.length q) H1 locs ls (hH.push hl (sxNew_ok _ ci) hP1 hD1 hS1) (by show RL _ fv (mML y) (hp ++ [_]).length ls L; rw [List.length_append]; exact hL.agr (by simp) (agr_adn hl)) (by show okS (hp ++ [_]).length (.ref hp.length :: st); rw [List.length_append]; exact okS.cons (Or.inl (by simp)) (hS.mono (by simp)))
        have e3 : ((.ref hp.length :: st : List Value).map (rv (adn ad hp.length q) fv)) = .ref q :: st.map (rv ad fv) := by
          rw [List.map_cons, (agr_adn hl).st hS]
          show Value.ref (adn ad hp.length q hp.length) :: _ = _
          rw [adn_self]
        have h2 : W p l e R s m args below meth c H1 locs (cu + 1) (su + sxNF ci) Qf (F0 m (pc + 3) ls ((.ref hp.length :: st : List Value).map (rv (adn ad hp.length q) fv))) := h1
        rw [e3] at h2
        exact h2
      · exact hF.elim
    · cases e2
  · cases e2
theorem va_RA.uniq {s : State} {a b : ClassId} {ty : FieldType} (hp : va_RA s a ty) (hq : va_RA s b ty) : a = b := by
  cases ty with
  | object C =>
    obtain ⟨_, _, _, _, _, h1⟩ := hp
    obtain ⟨_, _, _, _, _, h2⟩ := hq
    exact Option.some.inj (h1.symm.trans h2)
  | _ => exact Option.some.inj ((show s.vm.findClass _ = some a from hp).symm.trans (show s.vm.findClass _ = some b from hq))
set_option maxHeartbeats 1000000 in
theorem sJ_newarray {p : Program} {l : Launch} {e : Env} {R : Room} {s : State} {m : MethodId} {args : Array Value} {below : List Frame} {meth : Method} {c : Code} {Qf : State → Prop} {D : va_G} {cA : Nat → ClassId} {fv : Value} {A : Nat → Prop} {ad0 : Nat → Nat} {n0 y : Nat} {sc : sxS} (C : Cx p R s m args meth c D cA fv A ad0 y sc) {call : sxX} {Q : sxR} {len : Nat} {dat : List Nat} {kv : Value} {pc : Nat} {L : sxL} {st : List Value} {hp : sxH} {cu su : Nat} {at_ : ArrayType}
    (hF : sxJ sc call Q y (SP p l e R s m args below meth c Qf D cA fv A ad0 n0 y) (.newarray at_) dat kv pc L st hp cu su) (hdg : decode (mBy y) pc = .ok (.newarray at_, len)) (hg : sxGd y pc (.newarray at_) len dat kv = true) : SP p l e R s m args below meth c Qf D cA fv A ad0 n0 y (pc, L, st, hp, cu, su) := by
  obtain ⟨hx, hb, hml, hown, hts, hK, hA, hSp, hnm, hfr, hlo, hmc, hms, hy⟩ := C
  have hf : fv.category = 1 := hSp.2.2.2.2.2.2.2.2.2
  intro ad H locs ls hH hL hS
  have hH : RH D cA fv A ad0 n0 s.heap hp ad H locs := hH
  have hL : RL ad fv (mML y) hp.length ls L := hL
  have hS : okS hp.length st := hS
  show W p l e R s m args below meth c H locs cu su Qf (F0 m pc ls (st.map (rv ad fv)))
  obtain ⟨hP, hD, hSS, hok, hag, hn⟩ := id hH
  obtain ⟨e1, e2⟩ := and1 hg
  have e1 := beq1 e1
  subst e1
  obtain ⟨n, r, rfl, hk⟩ := pI_inv hF
  split at e2
  · next t pl =>
    obtain ⟨f1, f2⟩ := and1 e2
    have f1 := dec1 f1
    rcases dec1 f2 with ⟨rfl, rfl⟩ | ⟨rfl, rfl⟩ | ⟨rfl, rfl⟩ | ⟨rfl, rfl⟩
    · obtain ⟨⟨n1, n2, n3, n4, hl⟩, hk⟩ := hk
      refine va_newa hx hb (atype := .int) (tbw hts f1 rfl) rfl hK hP hD hSS hA (a0 := (n.toNatClampNeg, .inl (fun _ => 0))) (fun _ => rfl) n1 rfl (Nat.le_trans (Nat.mul_le_mul n2 (by decide : componentBytes .int ≤ 8)) (by decide)) (by omega) (by omega) hdg (fun q cB H1 hK1 hP1 hD1 hS1 => ?_)
      have hcb : cB = cA 0 := va_RA.uniq (hK1.2 5 (cB, .int) rfl).2 (hK.2 0 (cA 0, .int) rfl).2
      subst hcb
      have h1 := hk (adn ad hp.length q) H1 locs ls (hH.push (c := .inl (0, n.toNatClampNeg, .inl (fun _ => 0))) hl trivial hP1 hD1 hS1) (by show RL _ fv (mML y) (hp ++ [_]).length ls L; rw [List.length_append]; exact hL.agr (by simp) (agr_adn hl)) (by show okS (hp ++ [_]).length (.ref hp.length :: r); rw [List.length_append]; exact okS.cons (Or.inl (by simp)) (hS.tl.mono (by simp)))
      have e3 : ((.ref hp.length :: r : List Value).map (rv (adn ad hp.length q) fv)) = .ref q :: r.map (rv ad fv) := by
        rw [List.map_cons, (agr_adn hl).st hS.tl]
        show Value.ref (adn ad hp.length q hp.length) :: _ = _
        rw [adn_self]
      have h2 : W p l e R s m args below meth c H1 locs (cu + 1) (su + n.toNatClampNeg) Qf (F0 m (pc + 2) ls ((.ref hp.length :: r : List Value).map (rv (adn ad hp.length q) fv))) := h1
      rw [e3] at h2
      exact h2
    · obtain ⟨⟨n1, n2, n3, n4, hl⟩, hk⟩ := hk
      refine va_newa hx hb (atype := .long) (tbw hts f1 rfl) rfl hK hP hD hSS hA (a0 := (n.toNatClampNeg, .inr (.inl (fun _ => 0)))) (fun _ => rfl) n1 rfl (Nat.le_trans (Nat.mul_le_mul n2 (by decide : componentBytes .long ≤ 8)) (by decide)) (by omega) (by omega) hdg (fun q cB H1 hK1 hP1 hD1 hS1 => ?_)
      have hcb : cB = cA 1 := va_RA.uniq (hK1.2 5 (cB, .long) rfl).2 (hK.2 1 (cA 1, .long) rfl).2
      subst hcb
      have h1 := hk (adn ad hp.length q) H1 locs ls (hH.push (c := .inl (1, n.toNatClampNeg, .inr (.inl (fun _ => 0)))) hl trivial hP1 hD1 hS1) (by show RL _ fv (mML y) (hp ++ [_]).length ls L; rw [List.length_append]; exact hL.agr (by simp) (agr_adn hl)) (by show okS (hp ++ [_]).length (.ref hp.length :: r); rw [List.length_append]; exact okS.cons (Or.inl (by simp)) (hS.tl.mono (by simp)))
      have e3 : ((.ref hp.length :: r : List Value).map (rv (adn ad hp.length q) fv)) = .ref q :: r.map (rv ad fv) := by
        rw [List.map_cons, (agr_adn hl).st hS.tl]
        show Value.ref (adn ad hp.length q hp.length) :: _ = _
        rw [adn_self]
      have h2 : W p l e R s m args below meth c H1 locs (cu + 1) (su + n.toNatClampNeg) Qf (F0 m (pc + 2) ls ((.ref hp.length :: r : List Value).map (rv (adn ad hp.length q) fv))) := h1
      rw [e3] at h2
      exact h2
    · obtain ⟨⟨n1, n2, n3, n4, hl⟩, hk⟩ := hk
      refine va_newa hx hb (atype := .float) (tbw hts f1 rfl) rfl hK hP hD hSS hA (a0 := (n.toNatClampNeg, .inr (.inr (.inl (fun _ => 0))))) (fun _ => rfl) n1 rfl (Nat.le_trans (Nat.mul_le_mul n2 (by decide : componentBytes .float ≤ 8)) (by decide)) (by omega) (by omega) hdg (fun q cB H1 hK1 hP1 hD1 hS1 => ?_)
      have hcb : cB = cA 2 := va_RA.uniq (hK1.2 5 (cB, .float) rfl).2 (hK.2 2 (cA 2, .float) rfl).2
      subst hcb
      have h1 := hk (adn ad hp.length q) H1 locs ls (hH.push (c := .inl (2, n.toNatClampNeg, .inr (.inr (.inl (fun _ => 0))))) hl trivial hP1 hD1 hS1) (by show RL _ fv (mML y) (hp ++ [_]).length ls L; rw [List.length_append]; exact hL.agr (by simp) (agr_adn hl)) (by show okS (hp ++ [_]).length (.ref hp.length :: r); rw [List.length_append]; exact okS.cons (Or.inl (by simp)) (hS.tl.mono (by simp)))
      have e3 : ((.ref hp.length :: r : List Value).map (rv (adn ad hp.length q) fv)) = .ref q :: r.map (rv ad fv) := by
        rw [List.map_cons, (agr_adn hl).st hS.tl]
        show Value.ref (adn ad hp.length q hp.length) :: _ = _
        rw [adn_self]
      have h2 : W p l e R s m args below meth c H1 locs (cu + 1) (su + n.toNatClampNeg) Qf (F0 m (pc + 2) ls ((.ref hp.length :: r : List Value).map (rv (adn ad hp.length q) fv))) := h1
      rw [e3] at h2
      exact h2
    · obtain ⟨⟨n1, n2, n3, n4, hl⟩, hk⟩ := hk
      refine va_newa hx hb (atype := .boolean) (tbw hts f1 rfl) rfl hK hP hD hSS hA (a0 := (n.toNatClampNeg, .inl (fun _ => 0))) (fun _ => rfl) n1 rfl (Nat.le_trans (Nat.mul_le_mul n2 (by decide : componentBytes .boolean ≤ 8)) (by decide)) (by omega) (by omega) hdg (fun q cB H1 hK1 hP1 hD1 hS1 => ?_)
      have hcb : cB = cA 3 := va_RA.uniq (hK1.2 5 (cB, .boolean) rfl).2 (hK.2 3 (cA 3, .boolean) rfl).2
      subst hcb
      have h1 := hk (adn ad hp.length q) H1 locs ls (hH.push (c := .inl (3, n.toNatClampNeg, .inl (fun _ => 0))) hl trivial hP1 hD1 hS1) (by show RL _ fv (mML y) (hp ++ [_]).length ls L; rw [List.length_append]; exact hL.agr (by simp) (agr_adn hl)) (by show okS (hp ++ [_]).length (.ref hp.length :: r); rw [List.length_append]; exact okS.cons (Or.inl (by simp)) (hS.tl.mono (by simp)))
      have e3 : ((.ref hp.length :: r : List Value).map (rv (adn ad hp.length q) fv)) = .ref q :: r.map (rv ad fv) := by
        rw [List.map_cons, (agr_adn hl).st hS.tl]
        show Value.ref (adn ad hp.length q hp.length) :: _ = _
        rw [adn_self]
      have h2 : W p l e R s m args below meth c H1 locs (cu + 1) (su + n.toNatClampNeg) Qf (F0 m (pc + 2) ls ((.ref hp.length :: r : List Value).map (rv (adn ad hp.length q) fv))) := h1
      rw [e3] at h2
      exact h2
  · cases e2
set_option maxHeartbeats 1000000 in
theorem sJ_anewarray {p : Program} {l : Launch} {e : Env} {R : Room} {s : State} {m : MethodId} {args : Array Value} {below : List Frame} {meth : Method} {c : Code} {Qf : State → Prop} {D : va_G} {cA : Nat → ClassId} {fv : Value} {A : Nat → Prop} {ad0 : Nat → Nat} {n0 y : Nat} {sc : sxS} (C : Cx p R s m args meth c D cA fv A ad0 y sc) {call : sxX} {Q : sxR} {len : Nat} {dat : List Nat} {kv : Value} {pc : Nat} {L : sxL} {st : List Value} {hp : sxH} {cu su : Nat} {idx : Nat}
    (hF : sxJ sc call Q y (SP p l e R s m args below meth c Qf D cA fv A ad0 n0 y) (.anewarray idx) dat kv pc L st hp cu su) (hdg : decode (mBy y) pc = .ok (.anewarray idx, len)) (hg : sxGd y pc (.anewarray idx) len dat kv = true) : SP p l e R s m args below meth c Qf D cA fv A ad0 n0 y (pc, L, st, hp, cu, su) := by
  obtain ⟨hx, hb, hml, hown, hts, hK, hA, hSp, hnm, hfr, hlo, hmc, hms, hy⟩ := C
  have hf : fv.category = 1 := hSp.2.2.2.2.2.2.2.2.2
  intro ad H locs ls hH hL hS
  have hH : RH D cA fv A ad0 n0 s.heap hp ad H locs := hH
  have hL : RL ad fv (mML y) hp.length ls L := hL
  have hS : okS hp.length st := hS
  show W p l e R s m args below meth c H locs cu su Qf (F0 m pc ls (st.map (rv ad fv)))
  obtain ⟨hP, hD, hSS, hok, hag, hn⟩ := id hH
  obtain ⟨e1, e2⟩ := and1 hg
  have e1 := beq1 e1
  subst e1
  obtain ⟨n, r, rfl, hk⟩ := pI_inv hF
  split at e2
  · next pl z =>
    have f1 := dec1 e2
    obtain ⟨⟨n1, n2, n3, n4, hl⟩, hk⟩ := hk
    refine va_newq hx hb hown (tbw hts f1 rfl) hSp.2.2.2.2.2.2.2.2.1 hK hP hD hSS hA n1 rfl (by omega) (by omega) (by omega) hdg (fun q cB H1 hK1 hP1 hD1 hS1 => ?_)
    have hcb : cB = cA 4 := va_RA.uniq (hK1.2 5 (cB, .object "RegionWords$Tape") rfl).2 (hK.2 4 (cA 4, .object "RegionWords$Tape") rfl).2
    subst hcb
    have h1 := hk (adn ad hp.length q) H1 locs ls (hH.push (c := .inl (4, n.toNatClampNeg, .inr (.inr (.inr (.inr (fun _ => none)))))) hl (fun i k h => by cases h) hP1 hD1 hS1) (by show RL _ fv (mML y) (hp ++ [_]).length ls L; rw [List.length_append]; exact hL.agr (by simp) (agr_adn hl)) (by show okS (hp ++ [_]).length (.ref hp.length :: r); rw [List.length_append]; exact okS.cons (Or.inl (by simp)) (hS.tl.mono (by simp)))
    have e3 : ((.ref hp.length :: r : List Value).map (rv (adn ad hp.length q) fv)) = .ref q :: r.map (rv ad fv) := by
      rw [List.map_cons, (agr_adn hl).st hS.tl]
      show Value.ref (adn ad hp.length q hp.length) :: _ = _
      rw [adn_self]
    have h2 : W p l e R s m args below meth c H1 locs (cu + 1) (su + n.toNatClampNeg) Qf (F0 m (pc + 3) ls ((.ref hp.length :: r : List Value).map (rv (adn ad hp.length q) fv))) := h1
    rw [e3] at h2
    exact h2
  · cases e2
