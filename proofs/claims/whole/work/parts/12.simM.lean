/-! the ends, and a method whole -/
def RetOk (y pc : Nat) (v : Option Value) : Prop :=
  (∃ x : Int32, v = some (.int x) ∧ decode (mBy y) pc = .ok (.ireturn, 1) ∧ ((mRt y = some .int) ∨ (mRt y = some .boolean ∧ (x = 0 ∨ x = 1)) ∨ (mRt y = some .char ∧ narrow .char (.int x) = .int x))) ∨
  (∃ x : Int64, v = some (.long x) ∧ decode (mBy y) pc = .ok (.lreturn, 1) ∧ mRt y = some .long) ∨
  (∃ x : UInt32, v = some (.float x) ∧ decode (mBy y) pc = .ok (.freturn, 1) ∧ mRt y = some .float) ∨
  (v = none ∧ decode (mBy y) pc = .ok (.return_, 1) ∧ mRt y = none)
theorem sxRet_inv {ty : Option FieldType} {v : Int32} {P : Prop} (h : sxRet ty v P) : ((ty = some .int) ∨ (ty = some .boolean ∧ (v = 0 ∨ v = 1)) ∨ (ty = some .char ∧ narrow .char (.int v) = .int v)) ∧ P := by
  unfold sxRet at h
  split at h
  · exact ⟨Or.inl rfl, h⟩
  · exact ⟨Or.inr (Or.inl ⟨rfl, h.1⟩), h.2⟩
  · exact ⟨Or.inr (Or.inr ⟨rfl, h.1⟩), h.2⟩
  · exact h.elim
theorem sJ_ireturn {p : Program} {l : Launch} {e : Env} {R : Room} {s : State} {m : MethodId} {args : Array Value} {below : List Frame} {meth : Method} {c : Code} {Qf : State → Prop} {D : va_G} {cA : Nat → ClassId} {fv : Value} {A : Nat → Prop} {ad0 : Nat → Nat} {n0 y : Nat} {sc : sxS} (C : Cx p R s m args meth c D cA fv A ad0 y sc) {call : sxX} {Q : sxR} (hret : ∀ (v : Option Value) (hp : sxH) (pc : Nat) (ad : Nat → Nat) (H : Heap) (locs : List Loc) (ls : Array Slot) (cu su : Nat), RetOk y pc v → Q v hp → cu ≤ mMc y → su ≤ mMs y → RH D cA fv A ad0 n0 s.heap hp ad H locs → W p l e R s m args below meth c H locs cu su Qf (F0 m pc ls (v.toList.map (rv ad fv)))) {len : Nat} {dat : List Nat} {kv : Value} {pc : Nat} {L : sxL} {st : List Value} {hp : sxH} {cu su : Nat}
    (hF : sxJ sc call Q y (SP p l e R s m args below meth c Qf D cA fv A ad0 n0 y) (.ireturn) dat kv pc L st hp cu su) (hdg : decode (mBy y) pc = .ok (.ireturn, len)) (hg : sxGd y pc (.ireturn) len dat kv = true) : SP p l e R s m args below meth c Qf D cA fv A ad0 n0 y (pc, L, st, hp, cu, su) := by
  intro ad H locs ls hH hL hS
  have e1 := beq1 hg
  subst e1
  obtain ⟨hb1, hF2⟩ := bm_inv (b := Nat.ble cu (mMc y) && Nat.ble su (mMs y)) hF
  clear hF
  have hF := hF2
  clear hF2
  clear hL hS
  obtain ⟨hb1, hb2⟩ := and1 hb1
  have hb1 := Nat.le_of_ble_eq_true hb1
  have hb2 := Nat.le_of_ble_eq_true hb2
  split at hF
  · rename_i v
    obtain ⟨h1, h2⟩ := sxRet_inv hF
    exact hret (some (.int v)) hp pc ad H locs ls cu su (Or.inl ⟨v, rfl, hdg, h1⟩) h2 hb1 hb2 hH
  · exact hF.elim
theorem sJ_lreturn {p : Program} {l : Launch} {e : Env} {R : Room} {s : State} {m : MethodId} {args : Array Value} {below : List Frame} {meth : Method} {c : Code} {Qf : State → Prop} {D : va_G} {cA : Nat → ClassId} {fv : Value} {A : Nat → Prop} {ad0 : Nat → Nat} {n0 y : Nat} {sc : sxS} (C : Cx p R s m args meth c D cA fv A ad0 y sc) {call : sxX} {Q : sxR} (hret : ∀ (v : Option Value) (hp : sxH) (pc : Nat) (ad : Nat → Nat) (H : Heap) (locs : List Loc) (ls : Array Slot) (cu su : Nat), RetOk y pc v → Q v hp → cu ≤ mMc y → su ≤ mMs y → RH D cA fv A ad0 n0 s.heap hp ad H locs → W p l e R s m args below meth c H locs cu su Qf (F0 m pc ls (v.toList.map (rv ad fv)))) {len : Nat} {dat : List Nat} {kv : Value} {pc : Nat} {L : sxL} {st : List Value} {hp : sxH} {cu su : Nat}
    (hF : sxJ sc call Q y (SP p l e R s m args below meth c Qf D cA fv A ad0 n0 y) (.lreturn) dat kv pc L st hp cu su) (hdg : decode (mBy y) pc = .ok (.lreturn, len)) (hg : sxGd y pc (.lreturn) len dat kv = true) : SP p l e R s m args below meth c Qf D cA fv A ad0 n0 y (pc, L, st, hp, cu, su) := by
  intro ad H locs ls hH hL hS
  have e1 := beq1 hg
  subst e1
  obtain ⟨hb1, hF2⟩ := bm_inv (b := Nat.ble cu (mMc y) && Nat.ble su (mMs y)) hF
  clear hF
  have hF := hF2
  clear hF2
  clear hL hS
  obtain ⟨hb1, hb2⟩ := and1 hb1
  have hb1 := Nat.le_of_ble_eq_true hb1
  have hb2 := Nat.le_of_ble_eq_true hb2
  split at hF
  · rename_i v hr
    exact hret (some (.long v)) hp pc ad H locs ls cu su (Or.inr (Or.inl ⟨v, rfl, hdg, hr⟩)) hF hb1 hb2 hH
  · exact hF.elim
theorem sJ_freturn {p : Program} {l : Launch} {e : Env} {R : Room} {s : State} {m : MethodId} {args : Array Value} {below : List Frame} {meth : Method} {c : Code} {Qf : State → Prop} {D : va_G} {cA : Nat → ClassId} {fv : Value} {A : Nat → Prop} {ad0 : Nat → Nat} {n0 y : Nat} {sc : sxS} (C : Cx p R s m args meth c D cA fv A ad0 y sc) {call : sxX} {Q : sxR} (hret : ∀ (v : Option Value) (hp : sxH) (pc : Nat) (ad : Nat → Nat) (H : Heap) (locs : List Loc) (ls : Array Slot) (cu su : Nat), RetOk y pc v → Q v hp → cu ≤ mMc y → su ≤ mMs y → RH D cA fv A ad0 n0 s.heap hp ad H locs → W p l e R s m args below meth c H locs cu su Qf (F0 m pc ls (v.toList.map (rv ad fv)))) {len : Nat} {dat : List Nat} {kv : Value} {pc : Nat} {L : sxL} {st : List Value} {hp : sxH} {cu su : Nat}
    (hF : sxJ sc call Q y (SP p l e R s m args below meth c Qf D cA fv A ad0 n0 y) (.freturn) dat kv pc L st hp cu su) (hdg : decode (mBy y) pc = .ok (.freturn, len)) (hg : sxGd y pc (.freturn) len dat kv = true) : SP p l e R s m args below meth c Qf D cA fv A ad0 n0 y (pc, L, st, hp, cu, su) := by
  intro ad H locs ls hH hL hS
  have e1 := beq1 hg
  subst e1
  obtain ⟨hb1, hF2⟩ := bm_inv (b := Nat.ble cu (mMc y) && Nat.ble su (mMs y)) hF
  clear hF
  have hF := hF2
  clear hF2
  clear hL hS
  obtain ⟨hb1, hb2⟩ := and1 hb1
  have hb1 := Nat.le_of_ble_eq_true hb1
  have hb2 := Nat.le_of_ble_eq_true hb2
  split at hF
  · rename_i v hr
    exact hret (some (.float v)) hp pc ad H locs ls cu su (Or.inr (Or.inr (Or.inl ⟨v, rfl, hdg, hr⟩))) hF hb1 hb2 hH
  · exact hF.elim
theorem sJ_return_ {p : Program} {l : Launch} {e : Env} {R : Room} {s : State} {m : MethodId} {args : Array Value} {below : List Frame} {meth : Method} {c : Code} {Qf : State → Prop} {D : va_G} {cA : Nat → ClassId} {fv : Value} {A : Nat → Prop} {ad0 : Nat → Nat} {n0 y : Nat} {sc : sxS} (C : Cx p R s m args meth c D cA fv A ad0 y sc) {call : sxX} {Q : sxR} (hret : ∀ (v : Option Value) (hp : sxH) (pc : Nat) (ad : Nat → Nat) (H : Heap) (locs : List Loc) (ls : Array Slot) (cu su : Nat), RetOk y pc v → Q v hp → cu ≤ mMc y → su ≤ mMs y → RH D cA fv A ad0 n0 s.heap hp ad H locs → W p l e R s m args below meth c H locs cu su Qf (F0 m pc ls (v.toList.map (rv ad fv)))) {len : Nat} {dat : List Nat} {kv : Value} {pc : Nat} {L : sxL} {st : List Value} {hp : sxH} {cu su : Nat}
    (hF : sxJ sc call Q y (SP p l e R s m args below meth c Qf D cA fv A ad0 n0 y) (.return_) dat kv pc L st hp cu su) (hdg : decode (mBy y) pc = .ok (.return_, len)) (hg : sxGd y pc (.return_) len dat kv = true) : SP p l e R s m args below meth c Qf D cA fv A ad0 n0 y (pc, L, st, hp, cu, su) := by
  intro ad H locs ls hH hL hS
  have e1 := beq1 hg
  subst e1
  obtain ⟨hb1, hF2⟩ := bm_inv (b := Nat.ble cu (mMc y) && Nat.ble su (mMs y)) hF
  clear hF
  have hF := hF2
  clear hF2
  clear hL hS
  obtain ⟨hb1, hb2⟩ := and1 hb1
  have hb1 := Nat.le_of_ble_eq_true hb1
  have hb2 := Nat.le_of_ble_eq_true hb2
  split at hF
  · rename_i hr
    exact hret none hp pc ad H locs ls cu su (Or.inr (Or.inr (Or.inr ⟨rfl, hdg, hr⟩))) hF hb1 hb2 hH
  · exact hF.elim
set_option maxHeartbeats 2000000 in
theorem sim_step {p : Program} {l : Launch} {e : Env} {R : Room} {s : State} {m : MethodId} {args : Array Value} {below : List Frame} {meth : Method} {c : Code} {Qf : State → Prop} {D : va_G} {cA : Nat → ClassId} {fv : Value} {A : Nat → Prop} {ad0 : Nat → Nat} {n0 y : Nat} {sc : sxS} (C : Cx p R s m args meth c D cA fv A ad0 y sc) {d : Nat} {call : sxX} (hcall : CallOk l D cA fv sc d call) (hRf : d + 1 ≤ R.frames) (hRl : 60 * (d + 1) ≤ R.locals) {Q : sxR} (hret : ∀ (v : Option Value) (hp : sxH) (pc : Nat) (ad : Nat → Nat) (H : Heap) (locs : List Loc) (ls : Array Slot) (cu su : Nat), RetOk y pc v → Q v hp → cu ≤ mMc y → su ≤ mMs y → RH D cA fv A ad0 n0 s.heap hp ad H locs → W p l e R s m args below meth c H locs cu su Qf (F0 m pc ls (v.toList.map (rv ad fv)))) (q : sxC) (hF : sxF sc call Q y (SP p l e R s m args below meth c Qf D cA fv A ad0 n0 y) q) : SP p l e R s m args below meth c Qf D cA fv A ad0 n0 y q := by
  obtain ⟨pc, L, st, hp, cu, su⟩ := q
  unfold sxF at hF
  cases ho : mOp y pc with
  | none =>
    simp only [ho] at hF
  | some o =>
    simp only [ho] at hF
    obtain ⟨i, len, dat, kv⟩ := o
    obtain ⟨hdg, hg⟩ := sx_ok y C.2.2.2.2.2.2.2.2.2.2.2.2.2 pc _ ho
    refine sim_I C i len dat kv pc L st hp cu su hF (fun hj => ?_) hdg hg
    cases i
    case getfield idx => exact sJ_getfield C hj hdg hg
    case putfield idx => exact sJ_putfield C hj hdg hg
    case getstatic idx => exact sJ_getstatic C hj hdg hg
    case iaload => exact sJ_iaload C hj hdg hg
    case baload => exact sJ_baload C hj hdg hg
    case laload => exact sJ_laload C hj hdg hg
    case faload => exact sJ_faload C hj hdg hg
    case aaload => exact sJ_aaload C hj hdg hg
    case arraylength => exact sJ_arraylength C hj hdg hg
    case iastore => exact sJ_iastore C hj hdg hg
    case bastore => exact sJ_bastore C hj hdg hg
    case lastore => exact sJ_lastore C hj hdg hg
    case fastore => exact sJ_fastore C hj hdg hg
    case aastore => exact sJ_aastore C hj hdg hg
    case new idx => exact sJ_new C hj hdg hg
    case newarray at_ => exact sJ_newarray C hj hdg hg
    case anewarray idx => exact sJ_anewarray C hj hdg hg
    case invokevirtual idx => exact sJ_virtual C hcall hRf hRl hj hdg hg
    case invokespecial idx => exact sJ_special C hcall hRf hRl hj hdg hg
    case invokestatic idx => exact sJ_static C hcall hRf hRl hj hdg hg
    case ireturn => exact sJ_ireturn C hret hj hdg hg
    case lreturn => exact sJ_lreturn C hret hj hdg hg
    case freturn => exact sJ_freturn C hret hj hdg hg
    case return_ => exact sJ_return_ C hret hj hdg hg
    all_goals exact (show False from hj).elim
theorem lg_len : ∀ (vs : List Value), (lg_sl vs).length = sxCat vs
  | [] => rfl
  | v :: vs => by
    have h := lg_len vs
    unfold sxCat at h ⊢
    have e : lg_sl (v :: vs) = (if v.category = 2 then [Slot.val v, .second] else [Slot.val v]) ++ lg_sl vs := by simp [lg_sl]
    rw [e, List.length_append, h, List.map_cons, List.sum_cons]
    cases v <;> simp [Value.category]
theorem sxIn_cons (v : Value) (vs : List Value) (n : Nat) : sxIn (v :: vs) n = some v :: (if v.category = 2 then none :: sxIn vs (n - 2) else sxIn vs (n - 1)) := by
  cases v <;> simp [sxIn, Value.category]
theorem sxIn_len : ∀ (vs : List Value) (n : Nat), sxCat vs ≤ n → (sxIn vs n).length = n
  | [], n, _ => by simp [sxIn]
  | v :: vs, n, h => by
    have h0 : sxCat (v :: vs) = v.category + sxCat vs := by simp [sxCat]
    rw [h0] at h
    rw [sxIn_cons]
    rcases lv_cat v with hc | hc
    · rw [if_neg (by omega), List.length_cons, sxIn_len vs (n - 1) (by omega)]
      omega
    · rw [if_pos hc, List.length_cons, List.length_cons, sxIn_len vs (n - 2) (by omega)]
      omega
theorem sxl_rep : ∀ (n i : Nat), sxl (List.replicate n none) i = none
  | 0, i => by simp [sxl]
  | n + 1, 0 => by simp [List.replicate, sxl]
  | n + 1, i + 1 => by
    have := sxl_rep n i
    simpa [List.replicate, sxl] using this
theorem sxIn_mem {ad : Nat → Nat} {fv : Value} (hf : fv.category = 1) : ∀ (vs : List Value) (n k i : Nat) (v : Value), sxl (sxIn vs n) i = some v → (k + i, rv ad fv v) ∈ lv_args k (vs.map (rv ad fv)) ∧ v ∈ vs
  | [], n, k, i, v, h => by
    rw [show sxIn [] n = List.replicate n none by simp [sxIn], sxl_rep] at h
    cases h
  | w :: vs, n, k, i, v, h => by
    rw [sxIn_cons] at h
    cases i with
    | zero =>
      have h : some w = some v := h
      cases h
      exact ⟨List.mem_cons_self, List.mem_cons_self⟩
    | succ i =>
      rw [List.map_cons]
      unfold lv_args
      rw [rv_cat hf w]
      by_cases hc : w.category = 2
      · rw [if_pos hc] at h ⊢
        cases i with
        | zero => cases h
        | succ i =>
          obtain ⟨h1, h2⟩ := sxIn_mem hf vs (n - 2) (k + 2) i v h
          exact ⟨List.mem_cons_of_mem _ (by rw [show k + (i + 1 + 1) = k + 2 + i by omega]; exact h1), List.mem_cons_of_mem _ h2⟩
      · rw [if_neg hc] at h ⊢
        obtain ⟨h1, h2⟩ := sxIn_mem hf vs (n - 1) (k + 1) i v h
        exact ⟨List.mem_cons_of_mem _ (by rw [show k + (i + 1) = k + 1 + i by omega]; exact h1), List.mem_cons_of_mem _ h2⟩
theorem RL.entry {ad : Nat → Nat} {fv : Value} (hf : fv.category = 1) {vs : List Value} {nL n : Nat} (h : sxCat vs ≤ nL) (hok : okS n vs) : RL ad fv nL n ((lg_sl (vs.map (rv ad fv)) ++ List.replicate (nL - (lg_sl (vs.map (rv ad fv))).length) Slot.unset).toArray) (sxIn vs nL) := by
  have hc : sxCat (vs.map (rv ad fv)) = sxCat vs := rv_sum hf vs
  have hl := lv_entry (vs.map (rv ad fv)) (n := nL) (by rw [lg_len, hc]; exact h)
  refine ⟨hl.1, hl.2.1, sxIn_len vs nL h, fun i v hs => ?_⟩
  obtain ⟨h1, h2⟩ := sxIn_mem (ad := ad) hf vs nL 0 i v hs
  rw [Nat.zero_add] at h1
  exact ⟨hl.2.2 _ h1, hok v h2⟩
theorem Met.ofWF {l : Launch} {y : MethodName} {ws ws' : List Jvm.Cond} {rm : Room} {Pc : Array Value → State → Prop} {Qc : Array Value → State → Outcome → State → Prop} {mc ms : Nat} {free : Addr → Prop} {cc : ByteArray} {maxL : Nat} {ret : Option FieldType}
    (hy : plainFor y = true) (hw : ws = Cond.code y cc maxL ret :: ws')
    (body : ∀ p e s m args below meth c s₁, BodyLoose p l y (headSpec ws rm) cc maxL ret e s m args below meth c s₁ → c.maxLocals = maxL → Pc args s →
      W p l e (headSpec ws rm).room s m args below meth c s.heap [] 0 0 (MQ below Qc args s mc ms free) (entryFrame m args maxL)) : Met l y ws rm Pc Qc mc ms free := by
  refine MetFree.of_bodySF (code := cc) (maxLocals := maxL) (ret := ret) hy ?_ ?_
  · intro args s m h hn
    obtain ⟨meth, c, h1, h2, h3, h4, h5, h6, -, -⟩ := Cond.code_spec hn (atoms_spec (ws := ws) h _ (by rw [hw]; exact List.mem_cons_self))
    exact ⟨meth, c, h1, h2, h3, h4, h5, h6⟩
  · intro p e s m args below meth c s₁ B hml hP _
    have hh0 : s₁.heap = s.heap := by rw [B.state]; rfl
    obtain ⟨t, a1, o, b1, b2, b3⟩ := body p e s m args below meth c s₁ B hml hP s₁ hh0 (Stand.of_body B)
    exact ⟨t, o, a1, b1, b2, ⟨b3.1, b3.2⟩⟩
set_option maxHeartbeats 1000000 in
/-- A METHOD OF OURS IS ONE OF THE MACHINE -/
theorem sim_met (l : Launch) (D : va_G) (cA : Nat → ClassId) (fv : Value) (sc : sxS) : ∀ d : Nat, CallOk l D cA fv sc d (sxE sc d)
  | 0 => fun y As hp Q h => h.elim
  | d + 1 => by
    intro y As hp Q hX hy hok hoks ad sz
    have hX : (match Nat.ble (sxCat As) (mML y) with | true => sxWP sc (sxE sc d) Q y (0, sxIn As (mML y), [], hp, 0, 0) | false => False) := hX
    obtain ⟨hcat, hX⟩ := bm_inv (b := Nat.ble (sxCat As) (mML y)) hX
    have hcat := Nat.le_of_ble_eq_true hcat
    obtain ⟨m1, m2, m3, m4, -⟩ := sx_mokE hy
    refine Met.ofWF (cc := mBy y) (maxL := mML y) (ret := mRt y) m3 rfl ?_
    intro p e s m args below meth c s₁ B hml hv
    obtain ⟨rfl, hsz, hP, hK, hD0, hSp⟩ := hv
    subst hsz
    have hf : fv.category = 1 := hSp.2.2.2.2.2.2.2.2.2
    have hlocks := B.notSynchronized
    have hts : ∀ w ∈ sxTB, w.before (As.map (rv ad fv)).toArray s = true := fun w hw => atoms_spec (ws := sxW y) B.pre w (List.mem_cons_of_mem _ hw)
    have hown : s.vm.findClass (sxCs y) = some m.cls := findClass_of_methodNamed B.named
    have hnm : (mNm y).name = "<init>" → meth.name = "<init>" := fun h => (name_of_methodNamed B.named B.method).1.trans h
    have C : Cx p (headSpec (sxW y) (rmm (d + 1) y)).room s m (As.map (rv ad fv)).toArray meth c D cA fv (va_A (wld ad fv cA hp) s.heap.size) ad y sc :=
      ⟨B.exec, B.bytes, hml, hown, hts, hK, fun q h => Or.inr h, hSp, hnm, Nat.le_add_left 1 d, by show 60 ≤ 60 * (d + 1); omega, Nat.le_refl _, Nat.le_refl _, by omega⟩
    have hD : va_D (va_A (wld ad fv cA hp) s.heap.size) (wld ad fv cA hp) := hD0.self
    have hH : RH D cA fv (va_A (wld ad fv cA hp) s.heap.size) ad hp.length s.heap hp ad s.heap [] := ⟨hP, hD, va_S.rf, hok, agr.rf, Nat.le_refl _⟩
    have key := hX (SP p l e (headSpec (sxW y) (rmm (d + 1) y)).room s m (As.map (rv ad fv)).toArray below meth c (MQ below (sxQc D cA fv ad hp s.heap.size Q) (As.map (rv ad fv)).toArray s (mMc y) (mMs y) (va_A (wld ad fv cA hp) s.heap.size)) D cA fv (va_A (wld ad fv cA hp) s.heap.size) ad hp.length y)
      (sim_step C (sim_met l D cA fv sc d) (Nat.le_refl _) (Nat.le_refl _) (by
        intro v hp1 pc ad1 H locs ls cu su hR hQ hcu hsu hH1
        obtain ⟨hP1, hD1, hS1, hok1, hag1, hn1⟩ := hH1
        have hq : ∀ r : Option Value, Q r hp1 → (∀ z, r = some z → okv hp1.length z) → ∀ t : State, t.heap = H → sxQc D cA fv ad hp s.heap.size Q (As.map (rv ad fv)).toArray s (.returned (r.map (rv ad1 fv))) t := fun r hr hk t ht => ⟨⟨r, hp1, ad1, rfl, hr, hag1, hn1, hok1, hk, by rw [ht]; exact hP1, hD1⟩, hS1.F ht⟩
        refine W.widen hcu hsu ?_
        rcases hR with ⟨x, rfl, hdg, hr | ⟨hr, h01⟩ | ⟨hr, h01⟩⟩ | ⟨x, rfl, hdg, hr⟩ | ⟨x, rfl, hdg, hr⟩ | ⟨rfl, hdg, hr⟩
        · exact W.iret (v := x) B.exec B.bytes (B.returns.trans hr) (fun t ht _ => hq (some (.int x)) hQ (fun z hz => by cases hz; trivial) t ht) (fun q h => hS1.2.2 q h) hdg
        · exact W.zret (v := x) (ty := .boolean) B.exec B.bytes (B.returns.trans hr) (by rcases h01 with rfl | rfl <;> decide) (fun t ht _ => hq (some (.int x)) hQ (fun z hz => by cases hz; trivial) t ht) (fun q h => hS1.2.2 q h) hdg
        · exact W.zret (v := x) (ty := .char) B.exec B.bytes (B.returns.trans hr) h01 (fun t ht _ => hq (some (.int x)) hQ (fun z hz => by cases hz; trivial) t ht) (fun q h => hS1.2.2 q h) hdg
        · exact W.lret (v := x) B.exec B.bytes (B.returns.trans hr) (fun t ht _ => hq (some (.long x)) hQ (fun z hz => by cases hz; trivial) t ht) (fun q h => hS1.2.2 q h) hdg
        · exact W.fret (v := x) B.exec B.bytes (B.returns.trans hr) (fun t ht _ => hq (some (.float x)) hQ (fun z hz => by cases hz; trivial) t ht) (fun q h => hS1.2.2 q h) hdg
        · exact W.vret B.exec B.bytes (B.returns.trans hr) (fun t ht _ => hq none hQ (fun z hz => by cases hz) t ht) (fun q h => hS1.2.2 q h) hdg))
    rw [lg_entry_eq]
    exact key ad s.heap [] _ hH (RL.entry hf hcat hoks) (fun v hv => by cases hv)
