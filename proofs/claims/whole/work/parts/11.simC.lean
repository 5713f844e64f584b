/-! each step of ours is one of the machine: calls and ends -/
def sxW (y : Nat) : List Jvm.Cond := .code (mNm y) (mBy y) (mML y) (mRt y) :: sxTB
def rmm (d y : Nat) : Room := { frames := d, cells := mMc y, slots := mMs y, locals := 60 * d }
def sxPc (D : va_G) (cA : Nat → ClassId) (fv : Value) (sc : sxS) (ad : Nat → Nat) (As : List Value) (hp : sxH) (sz : Nat) : Array Value → State → Prop := va_Pc (As.map (rv ad fv)) (fun U => U.heap.size = sz ∧ va_P D vwCl (wld ad fv cA hp) U.heap ∧ va_K D vwCl (tysL cA) U ∧ va_D (fun _ => True) (wld ad fv cA hp) ∧ SPF ad fv sc (va_A (wld ad fv cA hp) sz) U U.heap)
def sxQc (D : va_G) (cA : Nat → ClassId) (fv : Value) (ad : Nat → Nat) (hp : sxH) (sz : Nat) (Q : sxR) : Array Value → State → Outcome → State → Prop := fun _ st oc t =>
  (∃ (r : Option Value) (hp' : sxH) (ad' : Nat → Nat), oc = .returned (r.map (rv ad' fv)) ∧ Q r hp' ∧ agr hp.length ad ad' ∧ hp.length ≤ hp'.length ∧ okH hp' ∧ (∀ v, r = some v → okv hp'.length v) ∧ va_P D vwCl (wld ad' fv cA hp') t.heap ∧ va_D (va_A (wld ad fv cA hp) sz) (wld ad' fv cA hp')) ∧ va_F (va_A (wld ad fv cA hp) sz) st t
def CallOk (l : Launch) (D : va_G) (cA : Nat → ClassId) (fv : Value) (sc : sxS) (d : Nat) (call : sxX) : Prop := ∀ (y : Nat) (As : List Value) (hp : sxH) (Q : sxR), call y As hp Q → y < 257 → okH hp → okS hp.length As → ∀ (ad : Nat → Nat) (sz : Nat), Met l (mNm y) (sxW y) (rmm d y) (sxPc D cA fv sc ad As hp sz) (sxQc D cA fv ad hp sz Q) (mMc y) (mMs y) (va_A (wld ad fv cA hp) sz)
theorem sxPc_blind {D : va_G} {cA : Nat → ClassId} {fv : Value} {sc : sxS} {ad : Nat → Nat} {As : List Value} {hp : sxH} {sz : Nat} : FrameBlind (sxPc D cA fv sc ad As hp sz) := by
  intro a U g mk h
  obtain ⟨h1, h2, h3, h4, h5, h6⟩ := h
  exact ⟨h1, h2, h3, va_K.moved (u := U) (U := U.calling g mk a) (Vm.Alike.refl U.vm) h4, h5, h6.move (U := U.calling g mk a) (Vm.Alike.refl U.vm) (fun z q => TW.same rfl q) (Nat.le_refl _) (fun _ _ _ => rfl) (fun _ q => q) (fun _ _ => rfl)⟩
theorem sxW_good {t : Nat} (ht : t < 257) : GoodIn sxTB (sxW t) := by
  intro w hw
  rcases List.mem_cons.mp hw with rfl | hw
  · exact ⟨sxTB_mem (sx_cd t ht) rfl, good_of_word rfl⟩
  · exact ⟨hw, good_of_word (List.mem_filter.mp hw).2⟩
theorem sxPop_inv : ∀ (n : Nat) (st acc : List Value) (k : List Value → List Value → Prop), sxPop n st acc k → ∃ As r, st = As.reverse ++ r ∧ As.length = n ∧ k (As ++ acc) r
  | 0, st, acc, k, h => ⟨[], st, rfl, rfl, h⟩
  | n + 1, [], acc, k, h => h.elim
  | n + 1, v :: st, acc, k, h => by
    obtain ⟨As, r, h1, h2, h3⟩ := sxPop_inv n st (v :: acc) k h
    refine ⟨As ++ [v], r, ?_, by simp [h2], by simpa using h3⟩
    rw [h1]
    simp
theorem sxPop_inv0 {n : Nat} {st : List Value} {k : List Value → List Value → Prop} (h : sxPop n st [] k) : ∃ As r, st = As.reverse ++ r ∧ As.length = n ∧ k As r := by
  obtain ⟨As, r, h1, h2, h3⟩ := sxPop_inv n st [] k h
  rw [List.append_nil] at h3
  exact ⟨As, r, h1, h2, h3⟩
theorem okS.app1 {n : Nat} {a b : List Value} (h : okS n (a ++ b)) : okS n a := fun v hv => h v (List.mem_append_left _ hv)
theorem okS.app2 {n : Nat} {a b : List Value} (h : okS n (a ++ b)) : okS n b := fun v hv => h v (List.mem_append_right _ hv)
theorem okS.rev {n : Nat} {a : List Value} (h : okS n a.reverse) : okS n a := fun v hv => h v (List.mem_reverse.mpr hv)
section AFT
variable {p : Program} {l : Launch} {e : Env} {R : Room} {s : State} {m : MethodId} {args : Array Value} {below : List Frame} {meth : Method} {c : Code} {Qf : State → Prop} {D : va_G} {cA : Nat → ClassId} {fv : Value} {A : Nat → Prop} {ad0 : Nat → Nat} {n0 y : Nat} {sc : sxS}
theorem sx_free {ad : Nat → Nat} {H : Heap} {hp : sxH} {locs : List Loc} (hA : ∀ q, s.heap.size ≤ q → A q) (hD : va_D A (wld ad fv cA hp)) (hSS : va_S A s.heap H locs) : ∀ q, va_A (wld ad fv cA hp) H.size q → A q := by
  intro q h
  rcases h with ⟨k, e, h⟩ | h
  · exact hD.2 k (q, e) h
  · exact hA q (Nat.le_trans hSS.1 h)
theorem sx_pre {ad : Nat → Nat} {H : Heap} {hp : sxH} {locs : List Loc} {As : List Value} (hK : va_K D vwCl (tysL cA) s) (hA : ∀ q, s.heap.size ≤ q → A q) (hSp : SPF ad0 fv sc A s s.heap) (hH : RH D cA fv A ad0 n0 s.heap hp ad H locs) : PreS s H (sxPc D cA fv sc ad As hp H.size) (As.map (rv ad fv)) := by
  obtain ⟨hP, hD, hSS, hok, hag, hn⟩ := hH
  refine ⟨sxPc_blind, fun U hU hW => ⟨rfl, by rw [hU], by rw [hU]; exact hP, va_K.moved hW.alike hK, hD.weaken (fun _ _ _ _ => trivial), ?_⟩⟩
  rw [hU]
  exact hSp.move hW.alike (fun a q => TW.warm hW q) hSS.1 hSS.2.1 (sx_free hA hD hSS) (fun k hk => spA hag hk)
theorem sx_after {t pc : Nat} {L : sxL} {rest : List Value} {st0 : List Value} {hp : sxH} {cu su : Nat} {ad : Nat → Nat} {H : Heap} {locs : List Loc} {ls : Array Slot} {aa : Array Value} (hA : ∀ q, s.heap.size ≤ q → A q)
    (hrun : va_Run p l e R s m args below meth c H locs cu su (mMc t) (mMs t) (F0 m pc ls st0) (rest.map (rv ad fv)) (sxQc D cA fv ad hp H.size (fun r hp' => SP p l e R s m args below meth c Qf D cA fv A ad0 n0 y (pc + 3, L, r.toList ++ rest, hp', cu + mMc t, su + mMs t)) aa) (va_A (wld ad fv cA hp) H.size))
    (hH : RH D cA fv A ad0 n0 s.heap hp ad H locs) (hL : RL ad fv (mML y) hp.length ls L) (hS : okS hp.length rest) : W p l e R s m args below meth c H locs cu su Qf (F0 m pc ls st0) := by
  obtain ⟨hP, hD, hSS, hok, hag, hn⟩ := hH
  have hFc := sx_free (s := s) hA hD hSS
  intro T hT X
  obtain ⟨v, st₀, t1, T', Lc, h0, X', hLc, e1, e2, ⟨⟨r, hp', ad', hv, hQ, ag, hle, hok', hokr, hP', hD'⟩, hz, hk⟩, st⟩ := hrun T hT X
  cases hv
  rw [h0] at hz hk
  have hS1 : va_S A s.heap T'.heap (locs ++ Lc) := by
    refine ⟨Nat.le_trans hSS.1 (by rw [e1]; exact hz), fun q h1 h2 => ?_, fun q hq => ?_⟩
    · rw [e1, hk q (Nat.lt_of_lt_of_le h1 hSS.1) (fun z => h2 (hFc q z))]
      exact hSS.2.1 q h1 h2
    · rcases List.mem_append.mp hq with h | h
      · exact hSS.2.2 q h
      · exact hFc _ (hLc q h)
  have hst : (r.toList ++ rest).map (rv ad' fv) = (r.map (rv ad' fv)).toList ++ rest.map (rv ad fv) := by
    rw [List.map_append, ag.st hS]
    cases r <;> rfl
  have hok1 : okS hp'.length (r.toList ++ rest) := by
    refine okS.app (fun w hw => ?_) (hS.mono hle)
    cases r with
    | none => cases hw
    | some z => rw [List.mem_singleton.mp hw]; exact hokr z rfl
  have hW := hQ ad' T'.heap (locs ++ Lc) ls ⟨by rw [e1]; exact hP', hD'.weaken (fun k q _ h => hFc q.1 h), hS1, hok', agr.trans hn hag ag, Nat.le_trans hn hle⟩ (hL.agr hle ag) hok1
  have hW2 : W p l e R s m args below meth c T'.heap (locs ++ Lc) (cu + mMc t) (su + mMs t) Qf (F0 m (pc + 3) ls ((r.toList ++ rest).map (rv ad' fv))) := hW
  rw [hst] at hW2
  obtain ⟨t2, a1, b1⟩ := hW2 T' rfl X'
  exact ⟨t2, st t2 a1, b1⟩
end AFT
theorem blt1 {a b : Nat} (h : Nat.blt a b = true) : a < b := Nat.le_of_ble_eq_true h
theorem sxCall_inv {call : sxX} {y : Nat} {P : sxC → Prop} {dat : List Nat} {pc : Nat} {L : sxL} {As rest : List Value} {hp : sxH} {cu su : Nat} (h : sxCall call y P dat pc L As rest hp cu su) : sxCat rest ≤ 8 ∧ cu + mMc (sd0 dat) ≤ mMc y ∧ su + mMs (sd0 dat) ≤ mMs y ∧ call (sd0 dat) As hp (fun r hp' => P (pc + 3, L, r.toList ++ rest, hp', cu + mMc (sd0 dat), su + mMs (sd0 dat))) := by
  unfold sxCall at h
  split at h
  · next hb =>
    obtain ⟨h1, h2⟩ := and1 hb
    obtain ⟨h2, h3⟩ := and1 h2
    exact ⟨Nat.le_of_ble_eq_true h1, Nat.le_of_ble_eq_true h2, Nat.le_of_ble_eq_true h3, h⟩
  · exact h.elim
/-- what the checks say of a method that is called -/
theorem sx_mokE {t : Nat} (ht : t < 257) : lk (sd2 (mPl t)) = some (.initialized (mNm t).cls) ∧ ((mNm t).cls ≠ "java/lang/invoke/MethodHandle" ∧ (mNm t).cls ≠ "java/lang/invoke/VarHandle" ∧ (parseMethodDescriptor (mNm t).desc).map (fun d => d.parameters.length) = some (mNp t)) ∧ plainFor (mNm t) = true ∧ mML t ≤ 40 ∧
    (sd0 (mPl t) = 1 → ∃ i j, lk i = some (.instanceMethod (mNm t)) ∧ lk j = some (.selects (mNm t).cls (mNm t) (mNm t))) ∧ (sd0 (mPl t) = 2 → ∃ i, lk i = some (.static (mNm t))) ∧ (sd0 (mPl t) = 3 → ∃ i, lk i = some (.instanceMethod (mNm t)) ∧ (mNm t).name = "<init>" ∧ mRt t = none) := by
  have h := sx_mok t ht
  unfold sxMOk at h
  obtain ⟨h1, h⟩ := and1 h
  obtain ⟨h2, h⟩ := and1 h
  obtain ⟨h3, h⟩ := and1 h
  obtain ⟨h4, h⟩ := and1 h
  refine ⟨dec1 h1, dec1 h2, h3, Nat.le_of_ble_eq_true h4, ?_⟩
  split at h
  · next i j hp =>
    have h := dec1 h
    rw [hp]
    exact ⟨fun _ => ⟨i, j, h⟩, fun q => (by simp [sd0] at q), fun q => (by simp [sd0] at q)⟩
  · next i hp =>
    have h := dec1 h
    rw [hp]
    exact ⟨fun q => (by simp [sd0] at q), fun _ => ⟨i, h⟩, fun q => (by simp [sd0] at q)⟩
  · next i hp =>
    have h := dec1 h
    rw [hp]
    exact ⟨fun q => (by simp [sd0] at q), fun q => (by simp [sd0] at q), fun _ => ⟨i, h⟩⟩
  · cases h
theorem sxLink_inv {y idx : Nat} {dat : List Nat} (h : sxLink y idx dat = true) : ∃ t n pl z, dat = [t, n, pl, z] ∧ t < 257 ∧ n = mNp t ∧ ((z = 0 ∧ lk pl = some (.methodLink (sxCs y) idx (mNm t))) ∨ (z = 1 ∧ lk pl = some (.methodLinkNest (sxCs y) idx (mNm t) sxNest))) := by
  unfold sxLink at h
  split at h
  · rename_i t n pl
    obtain ⟨h1, h⟩ := and1 h
    obtain ⟨h2, h3⟩ := and1 h
    exact ⟨t, n, pl, 0, rfl, blt1 h1, beq1 h2, Or.inl ⟨rfl, dec1 h3⟩⟩
  · rename_i t n pl
    obtain ⟨h1, h⟩ := and1 h
    obtain ⟨h2, h3⟩ := and1 h
    exact ⟨t, n, pl, 1, rfl, blt1 h1, beq1 h2, Or.inr ⟨rfl, dec1 h3⟩⟩
  · cases h
theorem sxCpy_inv {hp : sxH} {st : List Value} {k : sxH → List Value → Prop} (h : sxCpy hp st k) : ∃ (n dp : Int32) (a : Nat) (sp : Int32) (a0 : Nat) (r : List Value), st = .int n :: .int dp :: .ref a :: .int sp :: .ref a0 :: r ∧
    ((∃ n0 f n1 g, hp[a0]? = some (.inl (0, n0, .inl f)) ∧ hp[a]? = some (.inl (0, n1, .inl g)) ∧ (0 ≤ sp ∧ 0 ≤ dp ∧ 0 ≤ n ∧ sp.toNatClampNeg + n.toNatClampNeg ≤ n0 ∧ dp.toNatClampNeg + n.toNatClampNeg ≤ n1) ∧ k (hp.set a (.inl (0, n1, .inl (va_cpy f g sp.toNatClampNeg dp.toNatClampNeg n.toNatClampNeg)))) r) ∨
     (∃ n0 f n1 g, hp[a0]? = some (.inl (1, n0, .inr (.inl f))) ∧ hp[a]? = some (.inl (1, n1, .inr (.inl g))) ∧ (0 ≤ sp ∧ 0 ≤ dp ∧ 0 ≤ n ∧ sp.toNatClampNeg + n.toNatClampNeg ≤ n0 ∧ dp.toNatClampNeg + n.toNatClampNeg ≤ n1) ∧ k (hp.set a (.inl (1, n1, .inr (.inl (va_cpy f g sp.toNatClampNeg dp.toNatClampNeg n.toNatClampNeg))))) r)) := by
  unfold sxCpy at h
  split at h
  · rename_i n dp a sp a0 r
    refine ⟨n, dp, a, sp, a0, r, rfl, ?_⟩
    split at h
    · exact h.elim
    · rw [sxg_eq, sxg_eq] at h
      split at h
      · rename_i n0 f n1 g h1 h2
        exact Or.inl ⟨n0, f, n1, g, h1, h2, h⟩
      · rename_i n0 f n1 g h1 h2
        exact Or.inr ⟨n0, f, n1, g, h1, h2, h⟩
      · exact h.elim
  · exact h.elim
theorem gdS_inv {y pc idx len : Nat} {dat : List Nat} {kv : Value} (h : sxGd y pc (.invokestatic idx) len dat kv = true) : len = 3 ∧
    ((∃ p1 p2 p3 p4, dat = [0, p1, p2, p3, p4] ∧ lk p1 = some (.methodLink (sxCs y) idx arraycopyName) ∧ lk p2 = some (.native arraycopyName) ∧ lk p3 = some (.static arraycopyName) ∧ lk p4 = some (.initialized "java/lang/System")) ∨
     (∃ p1 p2 p3 p4, dat = [1, p1, p2, p3, p4] ∧ lk p1 = some (.methodLink (sxCs y) idx ⟨"java/lang/Float", "floatToRawIntBits", "(F)I"⟩) ∧ lk p2 = some (.native ⟨"java/lang/Float", "floatToRawIntBits", "(F)I"⟩) ∧ lk p3 = some (.static ⟨"java/lang/Float", "floatToRawIntBits", "(F)I"⟩) ∧ lk p4 = some (.initialized "java/lang/Float")) ∨
     (∃ p1 p2 p3 p4, dat = [2, p1, p2, p3, p4] ∧ lk p1 = some (.methodLink (sxCs y) idx ⟨"java/lang/Double", "doubleToRawLongBits", "(D)J"⟩) ∧ lk p2 = some (.native ⟨"java/lang/Double", "doubleToRawLongBits", "(D)J"⟩) ∧ lk p3 = some (.static ⟨"java/lang/Double", "doubleToRawLongBits", "(D)J"⟩) ∧ lk p4 = some (.initialized "java/lang/Double")) ∨
     (∃ t pl, dat = [t, mNp t, pl, 0] ∧ t < 257 ∧ sd0 (mPl t) = 2 ∧ lk pl = some (.methodLink (sxCs y) idx (mNm t)))) := by
  obtain ⟨e1, e2⟩ := and1 h
  refine ⟨beq1 e1, ?_⟩
  split at e2
  · exact Or.inl ⟨_, _, _, _, rfl, dec1 e2⟩
  · exact Or.inr (Or.inl ⟨_, _, _, _, rfl, dec1 e2⟩)
  · exact Or.inr (Or.inr (Or.inl ⟨_, _, _, _, rfl, dec1 e2⟩))
  · obtain ⟨f1, f2⟩ := and1 e2
    obtain ⟨f2, f3⟩ := and1 f2
    obtain ⟨t, n, pl, z, rfl, g1, g2, g3⟩ := sxLink_inv f1
    have f5 : sd0 (mPl t) = 2 := beq1 f2
    have f3 : z = 0 := beq1 f3
    subst f3
    rcases g3 with ⟨-, g3⟩ | ⟨g3, -⟩
    · subst g2; exact Or.inr (Or.inr (Or.inr ⟨t, pl, rfl, g1, f5, g3⟩))
    · cases g3
theorem gdV_inv {y pc idx len : Nat} {dat : List Nat} {kv : Value} (h : sxGd y pc (.invokevirtual idx) len dat kv = true) : len = 3 ∧ ∃ t pl, dat = [t, mNp t, pl, 0] ∧ t < 257 ∧ sd0 (mPl t) = 1 ∧ lk pl = some (.methodLink (sxCs y) idx (mNm t)) := by
  obtain ⟨e1, e2⟩ := and1 h
  refine ⟨beq1 e1, ?_⟩
  obtain ⟨f1, f2⟩ := and1 e2
  obtain ⟨f2, f3⟩ := and1 f2
  obtain ⟨t, n, pl, z, rfl, g1, g2, g3⟩ := sxLink_inv f1
  have f5 : sd0 (mPl t) = 1 := beq1 f2
  have f3 : z = 0 := beq1 f3
  subst f3
  rcases g3 with ⟨-, g3⟩ | ⟨g3, -⟩
  · subst g2; exact ⟨t, pl, rfl, g1, f5, g3⟩
  · cases g3
theorem gdI_inv {y pc idx len : Nat} {dat : List Nat} {kv : Value} (h : sxGd y pc (.invokespecial idx) len dat kv = true) : len = 3 ∧
    ((∃ p1 p2 p3, dat = [0, p1, p2, p3] ∧ lk p1 = some (.methodLink (sxCs y) idx Lib.objectInit) ∧ lk p2 = some (.instanceMethod Lib.objectInit) ∧ lk p3 = some (.code Lib.objectInit ⟨#[0xb1]⟩ 1 none)) ∨
     (∃ t pl z, dat = [t + 1, mNp (t + 1), pl, z] ∧ t + 1 < 257 ∧ sd0 (mPl (t + 1)) = 3 ∧ (lk pl = some (.methodLink (sxCs y) idx (mNm (t + 1))) ∨ lk pl = some (.methodLinkNest (sxCs y) idx (mNm (t + 1)) sxNest)))) := by
  obtain ⟨e1, e2⟩ := and1 h
  refine ⟨beq1 e1, ?_⟩
  split at e2
  · exact Or.inl ⟨_, _, _, rfl, dec1 e2⟩
  · rename_i hne
    obtain ⟨f1, f2⟩ := and1 e2
    obtain ⟨t, n, pl, z, rfl, g1, g2, g3⟩ := sxLink_inv f1
    have f5 : sd0 (mPl t) = 3 := beq1 f2
    cases t with
    | zero => exact (hne n pl z rfl).elim
    | succ t =>
      subst g2
      refine Or.inr ⟨t, pl, z, rfl, g1, f5, ?_⟩
      rcases g3 with ⟨-, g3⟩ | ⟨-, g3⟩
      · exact Or.inl g3
      · exact Or.inr g3
set_option maxHeartbeats 1000000 in
theorem sJ_static {p : Program} {l : Launch} {e : Env} {R : Room} {s : State} {m : MethodId} {args : Array Value} {below : List Frame} {meth : Method} {c : Code} {Qf : State → Prop} {D : va_G} {cA : Nat → ClassId} {fv : Value} {A : Nat → Prop} {ad0 : Nat → Nat} {n0 y : Nat} {sc : sxS} (C : Cx p R s m args meth c D cA fv A ad0 y sc) {d : Nat} {call : sxX} (hcall : CallOk l D cA fv sc d call) (hRf : d + 1 ≤ R.frames) (hRl : 60 * (d + 1) ≤ R.locals) {Q : sxR} {len : Nat} {dat : List Nat} {kv : Value} {pc : Nat} {L : sxL} {st : List Value} {hp : sxH} {cu su : Nat} {idx : Nat}
    (hF : sxJ sc call Q y (SP p l e R s m args below meth c Qf D cA fv A ad0 n0 y) (.invokestatic idx) dat kv pc L st hp cu su) (hdg : decode (mBy y) pc = .ok (.invokestatic idx, len)) (hg : sxGd y pc (.invokestatic idx) len dat kv = true) : SP p l e R s m args below meth c Qf D cA fv A ad0 n0 y (pc, L, st, hp, cu, su) := by
  obtain ⟨hx, hb, hml, hown, hts, hK, hA, hSp, hnm, hfr, hlo, hmc, hms, hy⟩ := C
  have hf : fv.category = 1 := hSp.2.2.2.2.2.2.2.2.2
  intro ad H locs ls hH hL hS
  have hH : RH D cA fv A ad0 n0 s.heap hp ad H locs := hH
  have hL : RL ad fv (mML y) hp.length ls L := hL
  have hS : okS hp.length st := hS
  show W p l e R s m args below meth c H locs cu su Qf (F0 m pc ls (st.map (rv ad fv)))
  obtain ⟨hP, hD, hSS, hok, hag, hn⟩ := id hH
  obtain ⟨e1, e2⟩ := gdS_inv hg
  subst e1
  rcases e2 with ⟨p1, p2, p3, p4, e3, f1, f2, f3, f4⟩ | ⟨p1, p2, p3, p4, e3, f1, f2, f3, f4⟩ | ⟨p1, p2, p3, p4, e3, f1, f2, f3, f4⟩ | ⟨t, pl, e3, g1, f2, hl⟩
  · subst e3
    obtain ⟨hb1, hF⟩ := bm_inv (b := Nat.ble (sxCat st) 16) hF
    have hb1 := Nat.le_of_ble_eq_true hb1
    obtain ⟨n, dp, a, sp, a0, r, e5, hF2⟩ := sxCpy_inv hF
    subst e5
    have hcat : sxCat r ≤ 11 := by
      have : sxCat (.int n :: .int dp :: .ref a :: .int sp :: .ref a0 :: r) = 5 + sxCat r := by
        simp [sxCat, Value.category]
        omega
      omega
    have hlw : ((r.map (rv ad fv)).map fun v => v.category).sum + (nativeFrameWords "java/lang/System" "arraycopy" 5 + 11) ≤ R.locals := by
      rw [rv_sum hf]
      have : nativeFrameWords "java/lang/System" "arraycopy" 5 + 11 ≤ 40 := by decide
      omega
    rcases hF2 with ⟨m0, f, n1, g, ha0, ha, ⟨q1, q2, q3, q4, q5⟩, hk⟩ | ⟨m0, f, n1, g, ha0, ha, ⟨q1, q2, q3, q4, q5⟩, hk⟩
    · refine va_copyi hx hb (hml.trans hL.1.symm) hown (tbw hts f1 rfl) (tbw hts f2 rfl) (tbw hts f3 rfl) (tbw hts f4 rfl) hK hP hD hSS a0 a 0 0 (ty := .int) (wld_at ha0) (wld_at ha) rfl rfl rfl (Int32.not_lt.mpr q1) (Int32.not_lt.mpr q2) (Int32.not_lt.mpr q3) q4 q5 (fun i _ => rfl) hfr hlw hdg (fun H1 locs1 hP1 hD1 hS1 => ?_)
      exact hk ad H1 locs1 ls (hH.set (c := .inl (0, n1, .inl (va_cpy f g sp.toNatClampNeg dp.toNatClampNeg n.toNatClampNeg))) trivial hP1 hD1 hS1) (by show RL ad fv (mML y) (hp.set a _).length ls L; rw [List.length_set]; exact hL) (by show okS (hp.set a _).length r; rw [List.length_set]; exact hS.tl.tl.tl.tl.tl)
    · refine va_copyl hx hb (hml.trans hL.1.symm) hown (tbw hts f1 rfl) (tbw hts f2 rfl) (tbw hts f3 rfl) (tbw hts f4 rfl) hK hP hD hSS a0 a 1 1 (ty := .long) (wld_at ha0) (wld_at ha) rfl rfl rfl (Int32.not_lt.mpr q1) (Int32.not_lt.mpr q2) (Int32.not_lt.mpr q3) q4 q5 (fun i _ => rfl) hfr hlw hdg (fun H1 locs1 hP1 hD1 hS1 => ?_)
      exact hk ad H1 locs1 ls (hH.set (c := .inl (1, n1, .inr (.inl (va_cpy f g sp.toNatClampNeg dp.toNatClampNeg n.toNatClampNeg)))) trivial hP1 hD1 hS1) (by show RL ad fv (mML y) (hp.set a _).length ls L; rw [List.length_set]; exact hL) (by show okS (hp.set a _).length r; rw [List.length_set]; exact hS.tl.tl.tl.tl.tl)
  · subst e3
    obtain ⟨hb1, hF⟩ := bm_inv (b := Nat.ble (sxCat st) 16) hF
    have hb1 := Nat.le_of_ble_eq_true hb1
    obtain ⟨b, r, e5, hk⟩ := pF_inv hF
    subst e5
    have hcat : sxCat r ≤ 16 := by
      have : sxCat (.float b :: r) = 1 + sxCat r := by simp [sxCat, Value.category]
      omega
    exact vn_f2i hx hb (hml.trans hL.1.symm) hown (tbw hts f1 rfl) (tbw hts f2 rfl) (tbw hts f3 rfl) (tbw hts f4 rfl) hfr (by rw [rv_sum hf]; omega) hdg (hk ad H locs ls hH hL (okS.cons trivial hS.tl))
  · subst e3
    obtain ⟨hb1, hF⟩ := bm_inv (b := Nat.ble (sxCat st) 16) hF
    have hb1 := Nat.le_of_ble_eq_true hb1
    obtain ⟨b, r, e5, hk⟩ := pD_inv hF
    subst e5
    have hcat : sxCat r ≤ 16 := by
      have : sxCat (.double b :: r) = 2 + sxCat r := by simp [sxCat, Value.category]
      omega
    exact vn_d2l hx hb (hml.trans hL.1.symm) hown (tbw hts f1 rfl) (tbw hts f2 rfl) (tbw hts f3 rfl) (tbw hts f4 rfl) hfr (by rw [rv_sum hf]; omega) hdg (hk ad H locs ls hH hL (okS.cons trivial hS.tl))
  · subst e3
    have hF : sxPop (mNp t) st [] fun As r => sxCall call y (SP p l e R s m args below meth c Qf D cA fv A ad0 n0 y) [t, mNp t, pl, 0] pc L As r hp cu su := by
      match t, hF with
      | 0, h => exact h
      | 1, h => exact h
      | 2, h => exact h
      | t + 3, h => exact h
    obtain ⟨As, r, e5, hlen, hk⟩ := sxPop_inv0 hF
    subst e5
    obtain ⟨k1, k2, k3, hk⟩ := sxCall_inv hk
    have k2 : cu + mMc t ≤ mMc y := k2
    have k3 : su + mMs t ≤ mMs y := k3
    obtain ⟨m1, m2, m3, m4, -, m6, -⟩ := sx_mokE g1
    obtain ⟨si, hsi⟩ := m6 f2
    have hM := hcall t As hp _ hk g1 hok hS.app1.rev ad H.size
    exact sx_after (t := t) hA (va_runS (As := As.map (rv ad fv)) (n := mNp t) (Ts := sxTB) (own := sxCs y) ⟨hx, hb, hml, hown, hts⟩ hM ⟨callB_of (mNp t) hts (sxW_good g1) rfl rfl rfl (tbw hts m1 rfl) (tbw hts hl rfl) m2 ⟨hRf, by show 8 + (mML t + 11) + 60 * d ≤ R.locals; omega⟩, tbw hts hsi rfl⟩ (sx_pre hK hA hSp hH) rfl (by rw [List.length_map, hlen]) (hL.1) (by show List.map (rv ad fv) (As.reverse ++ r) = _; rw [List.map_append, List.map_reverse]) (by show 2 * 0 + ((r.map (rv ad fv)).map fun v => v.category).sum ≤ 8; rw [rv_sum hf]; omega) hdg ⟨by omega, by omega⟩) hH hL hS.app2
set_option maxHeartbeats 1000000 in
theorem sJ_virtual {p : Program} {l : Launch} {e : Env} {R : Room} {s : State} {m : MethodId} {args : Array Value} {below : List Frame} {meth : Method} {c : Code} {Qf : State → Prop} {D : va_G} {cA : Nat → ClassId} {fv : Value} {A : Nat → Prop} {ad0 : Nat → Nat} {n0 y : Nat} {sc : sxS} (C : Cx p R s m args meth c D cA fv A ad0 y sc) {d : Nat} {call : sxX} (hcall : CallOk l D cA fv sc d call) (hRf : d + 1 ≤ R.frames) (hRl : 60 * (d + 1) ≤ R.locals) {Q : sxR} {len : Nat} {dat : List Nat} {kv : Value} {pc : Nat} {L : sxL} {st : List Value} {hp : sxH} {cu su : Nat} {idx : Nat}
    (hF : sxJ sc call Q y (SP p l e R s m args below meth c Qf D cA fv A ad0 n0 y) (.invokevirtual idx) dat kv pc L st hp cu su) (hdg : decode (mBy y) pc = .ok (.invokevirtual idx, len)) (hg : sxGd y pc (.invokevirtual idx) len dat kv = true) : SP p l e R s m args below meth c Qf D cA fv A ad0 n0 y (pc, L, st, hp, cu, su) := by
  obtain ⟨hx, hb, hml, hown, hts, hK, hA, hSp, hnm, hfr, hlo, hmc, hms, hy⟩ := C
  have hf : fv.category = 1 := hSp.2.2.2.2.2.2.2.2.2
  intro ad H locs ls hH hL hS
  have hH : RH D cA fv A ad0 n0 s.heap hp ad H locs := hH
  have hL : RL ad fv (mML y) hp.length ls L := hL
  have hS : okS hp.length st := hS
  show W p l e R s m args below meth c H locs cu su Qf (F0 m pc ls (st.map (rv ad fv)))
  obtain ⟨hP, hD, hSS, hok, hag, hn⟩ := id hH
  obtain ⟨e1, t, pl, e3, g1, f2, hl⟩ := gdV_inv hg
  subst e1
  subst e3
  obtain ⟨As, r0, e5, hlen, hk0⟩ := sxPop_inv0 hF
  have hlen : As.length = mNp t := hlen
  subst e5
  obtain ⟨a, r, e6, hk⟩ := pA_inv hk0
  subst e6
  clear hk0
  obtain ⟨m1, m2, m3, m4, m5, -, -⟩ := sx_mokE g1
  obtain ⟨si, sj, hsi, hsj⟩ := m5 f2
  have hrecv : ∃ cellB : Cell, H[ad a]? = some cellB ∧ cellB.vm.isStatics = false ∧ s.vm.findClass (mNm t).cls = some cellB.cls ∧ sxCall call y (SP p l e R s m args below meth c Qf D cA fv A ad0 n0 y) [t, mNp t, pl, 0] pc L (.ref a :: As) r hp cu su := by
    cases h1 : Nat.beq a 1000004 with
    | true =>
      rw [h1] at hk
      have e3 := beq1 h1
      subst e3
      obtain ⟨h2, hk⟩ := bm_inv (b := (mNm t).cls == "java/lang/String") hk
      have hs1 : (mNm t).cls = "java/lang/String" := by simpa using h2
      obtain ⟨cell, c1, c2, c3⟩ := vk_recv (i := 0) hSp.2.2.2.2.2.2.1 (by decide) hSS
      have h4 : ad 1000004 = ad0 1000004 := spA hag (by decide)
      exact ⟨cell, by rw [h4]; exact c1, c2, by rw [hs1]; exact c3, hk⟩
    | false =>
      rw [h1] at hk
      rw [sxg_eq] at hk
      cases hat : hp[a]? with
      | none => rw [hat] at hk; exact hk.elim
      | some cl =>
        rw [hat] at hk
        cases cl with
        | inl x => exact hk.elim
        | inr x =>
          obtain ⟨ci, fs⟩ := x
          have hk : (match vwCl[ci]? with | some q => (match q.1 == (mNm t).cls with | true => sxCall call y (SP p l e R s m args below meth c Qf D cA fv A ad0 n0 y) [t, mNp t, pl, 0] pc L (.ref a :: As) r hp cu su | false => False) | none => False) := hk
          cases hq : vwCl[ci]? with
          | none => rw [hq] at hk; exact hk.elim
          | some q =>
            rw [hq] at hk
            obtain ⟨h2, hk⟩ := bm_inv (b := q.1 == (mNm t).cls) hk
            have hs1 : q.1 = (mNm t).cls := by simpa using h2
            obtain ⟨cell, c1, c2, c3⟩ := va_recv hK hP hq (wld_at hat)
            exact ⟨cell, c1, c2, by rw [← hs1]; exact c3, hk⟩
  obtain ⟨cellB, c1, c2, c3, hk2⟩ := hrecv
  obtain ⟨k1, k2, k3, hk3⟩ := sxCall_inv hk2
  have k2 : cu + mMc t ≤ mMc y := k2
  have k3 : su + mMs t ≤ mMs y := k3
  have hM := hcall t (.ref a :: As) hp _ hk3 g1 hok (okS.cons hS.app2.hd hS.app1.rev) ad H.size
  have hpre := sx_pre (As := .ref a :: As) hK hA hSp hH
  exact sx_after (t := t) hA (va_runV (As := As.map (rv ad fv)) (b := ad a) (n := mNp t) (Ts := sxTB) (own := sxCs y) (C := (mNm t).cls) ⟨hx, hb, hml, hown, hts⟩ hM ⟨callB_of (mNp t) hts (sxW_good g1) rfl rfl rfl (tbw hts m1 rfl) (tbw hts hl rfl) m2 ⟨hRf, by show 8 + (mML t + 11) + 60 * d ≤ R.locals; omega⟩, tbw hts hsi rfl, tbw hts hsj rfl⟩ ⟨hpre.1, ⟨cellB, c1, c2, c3⟩, hpre.2⟩ rfl (by rw [List.length_map, hlen]) (hL.1) (by show List.map (rv ad fv) (As.reverse ++ .ref a :: r) = _; rw [List.map_append, List.map_reverse]; rfl) (by show 2 * 0 + ((r.map (rv ad fv)).map fun v => v.category).sum ≤ 8; rw [rv_sum hf]; omega) hdg ⟨by omega, by omega⟩) hH hL hS.app2.tl
set_option maxHeartbeats 1000000 in
theorem sJ_special {p : Program} {l : Launch} {e : Env} {R : Room} {s : State} {m : MethodId} {args : Array Value} {below : List Frame} {meth : Method} {c : Code} {Qf : State → Prop} {D : va_G} {cA : Nat → ClassId} {fv : Value} {A : Nat → Prop} {ad0 : Nat → Nat} {n0 y : Nat} {sc : sxS} (C : Cx p R s m args meth c D cA fv A ad0 y sc) {d : Nat} {call : sxX} (hcall : CallOk l D cA fv sc d call) (hRf : d + 1 ≤ R.frames) (hRl : 60 * (d + 1) ≤ R.locals) {Q : sxR} {len : Nat} {dat : List Nat} {kv : Value} {pc : Nat} {L : sxL} {st : List Value} {hp : sxH} {cu su : Nat} {idx : Nat}
    (hF : sxJ sc call Q y (SP p l e R s m args below meth c Qf D cA fv A ad0 n0 y) (.invokespecial idx) dat kv pc L st hp cu su) (hdg : decode (mBy y) pc = .ok (.invokespecial idx, len)) (hg : sxGd y pc (.invokespecial idx) len dat kv = true) : SP p l e R s m args below meth c Qf D cA fv A ad0 n0 y (pc, L, st, hp, cu, su) := by
  obtain ⟨hx, hb, hml, hown, hts, hK, hA, hSp, hnm, hfr, hlo, hmc, hms, hy⟩ := C
  have hf : fv.category = 1 := hSp.2.2.2.2.2.2.2.2.2
  intro ad H locs ls hH hL hS
  have hH : RH D cA fv A ad0 n0 s.heap hp ad H locs := hH
  have hL : RL ad fv (mML y) hp.length ls L := hL
  have hS : okS hp.length st := hS
  show W p l e R s m args below meth c H locs cu su Qf (F0 m pc ls (st.map (rv ad fv)))
  obtain ⟨hP, hD, hSS, hok, hag, hn⟩ := id hH
  obtain ⟨e1, e2⟩ := gdI_inv hg
  subst e1
  rcases e2 with ⟨p1, p2, p3, e3, f1, f2, f3⟩ | ⟨t, pl, z, e3, g1, f2, hl⟩
  · subst e3
    obtain ⟨hb1, hF⟩ := bm_inv (b := Nat.ble (sxCat st) 9) hF
    have hb1 := Nat.le_of_ble_eq_true hb1
    obtain ⟨a, r, e5, hk⟩ := pA_inv hF
    subst e5
    have hcat : sxCat r ≤ 9 := by
      have : sxCat (.ref a :: r) = 1 + sxCat r := by simp [sxCat, Value.category]
      omega
    exact W.objInit hx hb hown (tbw hts f1 rfl) (tbw hts f2 rfl) (tbw hts f3 rfl) (g := F0 m pc ls (.ref (ad a) :: r.map (rv ad fv))) rfl (hL.1.trans hml.symm) rfl hdg hfr (by show 2 * 0 + ((r.map (rv ad fv)).map fun v => v.category).sum + 12 ≤ R.locals; rw [rv_sum hf]; omega) (hk ad H locs ls hH hL hS.tl)
  · subst e3
    have hF : sxPop (mNp (t + 1)) st [] fun As r0 => pA r0 fun a r => sxCall call y (SP p l e R s m args below meth c Qf D cA fv A ad0 n0 y) [t + 1, mNp (t + 1), pl, z] pc L (.ref a :: As) r hp cu su := hF
    obtain ⟨As, r0, e5, hlen, hk0⟩ := sxPop_inv0 hF
    subst e5
    obtain ⟨a, r, e6, hk9⟩ := pA_inv hk0
    subst e6
    obtain ⟨k1, k2, k3, hk⟩ := sxCall_inv hk9
    have k2 : cu + mMc (t + 1) ≤ mMc y := k2
    have k3 : su + mMs (t + 1) ≤ mMs y := k3
    obtain ⟨m1, m2, m3, m4, -, -, m7⟩ := sx_mokE g1
    obtain ⟨si, hsi, hni, hrt⟩ := m7 f2
    have hM := hcall (t + 1) (.ref a :: As) hp _ hk g1 hok (okS.cons hS.app2.hd hS.app1.rev) ad H.size
    have hpre := sx_pre (As := .ref a :: As) hK hA hSp hH
    have hw : sxW (t + 1) = .code (mNm (t + 1)) (mBy (t + 1)) (mML (t + 1)) none :: sxTB := by unfold sxW; rw [hrt]
    rcases hl with hl | hl
    · exact sx_after (t := t + 1) hA (va_runI (As := As.map (rv ad fv)) (b := ad a) (n := mNp (t + 1)) (Ts := sxTB) (own := sxCs y) ⟨hx, hb, hml, hown, hts⟩ hM ⟨callB_of (mNp (t + 1)) hts (sxW_good g1) hw rfl rfl (tbw hts m1 rfl) (tbw hts hl rfl) m2 ⟨hRf, by show 8 + (mML (t + 1) + 11) + 60 * d ≤ R.locals; omega⟩, hni, tbw hts hsi rfl⟩ ⟨hpre.1, hpre.2⟩ rfl (by rw [List.length_map, hlen]) (hL.1) (by show List.map (rv ad fv) (As.reverse ++ .ref a :: r) = _; rw [List.map_append, List.map_reverse]; rfl) (by show 2 * 0 + ((r.map (rv ad fv)).map fun v => v.category).sum ≤ 8; rw [rv_sum hf]; omega) hdg ⟨by omega, by omega⟩) hH hL hS.app2.tl
    · exact sx_after (t := t + 1) hA (va_runIN (As := As.map (rv ad fv)) (b := ad a) (n := mNp (t + 1)) (Ts := sxTB) (own := sxCs y) (host := sxNest) ⟨hx, hb, hml, hown, hts⟩ hM ⟨va_cnB (mNp (t + 1)) hts (sxW_good g1) hw rfl rfl (hSp.2.2.2.2.2.2.2.1.2 pl _ _ _ _ hl) (tbw hts m1 rfl) m2 ⟨hRf, by show 8 + (mML (t + 1) + 11) + 60 * d ≤ R.locals; omega⟩, hni, tbw hts hsi rfl⟩ ⟨hpre.1, hpre.2⟩ rfl (by rw [List.length_map, hlen]) (hL.1) (by show List.map (rv ad fv) (As.reverse ++ .ref a :: r) = _; rw [List.map_append, List.map_reverse]; rfl) (by show 2 * 0 + ((r.map (rv ad fv)).map fun v => v.category).sum ≤ 8; rw [rv_sum hf]; omega) hdg ⟨by omega, by omega⟩) hH hL hS.app2.tl
