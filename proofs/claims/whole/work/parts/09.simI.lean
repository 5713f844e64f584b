/-! each step of ours is one of the machine: numbers, locals, jumps -/
theorem pI_inv {st : List Value} {k : Int32 → List Value → Prop} (h : pI st k) : ∃ x r, st = .int x :: r ∧ k x r := by
  unfold pI at h
  split at h
  · exact ⟨_, _, rfl, h⟩
  · exact h.elim
theorem pII_inv {st : List Value} {k : Int32 → Int32 → List Value → Prop} (h : pII st k) : ∃ x y r, st = .int y :: .int x :: r ∧ k x y r := by
  unfold pII at h
  split at h
  · exact ⟨_, _, _, rfl, h⟩
  · exact h.elim
theorem pJ_inv {st : List Value} {k : Int64 → List Value → Prop} (h : pJ st k) : ∃ x r, st = .long x :: r ∧ k x r := by
  unfold pJ at h
  split at h
  · exact ⟨_, _, rfl, h⟩
  · exact h.elim
theorem pJJ_inv {st : List Value} {k : Int64 → Int64 → List Value → Prop} (h : pJJ st k) : ∃ x y r, st = .long y :: .long x :: r ∧ k x y r := by
  unfold pJJ at h
  split at h
  · exact ⟨_, _, _, rfl, h⟩
  · exact h.elim
theorem pJI_inv {st : List Value} {k : Int64 → Int32 → List Value → Prop} (h : pJI st k) : ∃ x y r, st = .int y :: .long x :: r ∧ k x y r := by
  unfold pJI at h
  split at h
  · exact ⟨_, _, _, rfl, h⟩
  · exact h.elim
theorem pF_inv {st : List Value} {k : UInt32 → List Value → Prop} (h : pF st k) : ∃ x r, st = .float x :: r ∧ k x r := by
  unfold pF at h
  split at h
  · exact ⟨_, _, rfl, h⟩
  · exact h.elim
theorem pFF_inv {st : List Value} {k : UInt32 → UInt32 → List Value → Prop} (h : pFF st k) : ∃ x y r, st = .float y :: .float x :: r ∧ k x y r := by
  unfold pFF at h
  split at h
  · exact ⟨_, _, _, rfl, h⟩
  · exact h.elim
theorem pD_inv {st : List Value} {k : UInt64 → List Value → Prop} (h : pD st k) : ∃ x r, st = .double x :: r ∧ k x r := by
  unfold pD at h
  split at h
  · exact ⟨_, _, rfl, h⟩
  · exact h.elim
theorem pDD_inv {st : List Value} {k : UInt64 → UInt64 → List Value → Prop} (h : pDD st k) : ∃ x y r, st = .double y :: .double x :: r ∧ k x y r := by
  unfold pDD at h
  split at h
  · exact ⟨_, _, _, rfl, h⟩
  · exact h.elim
theorem pA_inv {st : List Value} {k : Nat → List Value → Prop} (h : pA st k) : ∃ x r, st = .ref x :: r ∧ k x r := by
  unfold pA at h
  split at h
  · exact ⟨_, _, rfl, h⟩
  · exact h.elim
theorem pIA_inv {st : List Value} {k : Int32 → Nat → List Value → Prop} (h : pIA st k) : ∃ i a r, st = .int i :: .ref a :: r ∧ k i a r := by
  unfold pIA at h
  split at h
  · exact ⟨_, _, _, rfl, h⟩
  · exact h.elim
theorem pV_inv {st : List Value} {k : Value → List Value → Prop} (h : pV st k) : ∃ v r, st = v :: r ∧ k v r := by
  unfold pV at h
  split at h
  · exact ⟨_, _, rfl, h⟩
  · exact h.elim
theorem qI_inv {o : Option Value} {k : Int32 → Prop} (h : qI o k) : ∃ x, o = some (.int x) ∧ k x := by
  unfold qI at h
  split at h
  · exact ⟨_, rfl, h⟩
  · exact h.elim
theorem qJ_inv {o : Option Value} {k : Int64 → Prop} (h : qJ o k) : ∃ x, o = some (.long x) ∧ k x := by
  unfold qJ at h
  split at h
  · exact ⟨_, rfl, h⟩
  · exact h.elim
theorem qF_inv {o : Option Value} {k : UInt32 → Prop} (h : qF o k) : ∃ x, o = some (.float x) ∧ k x := by
  unfold qF at h
  split at h
  · exact ⟨_, rfl, h⟩
  · exact h.elim
theorem qD_inv {o : Option Value} {k : UInt64 → Prop} (h : qD o k) : ∃ x, o = some (.double x) ∧ k x := by
  unfold qD at h
  split at h
  · exact ⟨_, rfl, h⟩
  · exact h.elim
theorem qA_inv {o : Option Value} {k : Nat → Prop} (h : qA o k) : ∃ x, o = some (.ref x) ∧ k x := by
  unfold qA at h
  split at h
  · exact ⟨_, rfl, h⟩
  · exact h.elim
theorem vI_inv {v : Value} {k : Int32 → Prop} (h : vI v k) : ∃ x, v = .int x ∧ k x := by
  unfold vI at h
  split at h
  · exact ⟨_, rfl, h⟩
  · exact h.elim
def tysL (cA : Nat → ClassId) : List (ClassId × FieldType) := [(cA 0, .int), (cA 1, .long), (cA 2, .float), (cA 3, .boolean), (cA 4, .object "RegionWords$Tape")]
/-- words that hold as long as the tables do: the text's place, links to nest mates -/
def TW (a : Nat) (U : State) : Prop := vk_R "RegionWordsModel" 227 "rdlu" a U ∧ ∀ (i : Nat) (o : String) (k : Nat) (x : MethodName) (h : String), lk i = some (.methodLinkNest o k x h) → va_Nw (.methodLinkNest o k x h) U
theorem TW.warm {a : Nat} {s U : State} (hW : s.WarmedH U.vm) (h : TW a s) : TW a U := ⟨vk_R.warm hW h.1, fun i o k x q hl => va_Nw.warmM hW (h.2 i o k x q hl)⟩
theorem TW.same {a : Nat} {s U : State} (hv : U.vm = s.vm) (h : TW a s) : TW a U := ⟨vk_R.same hv h.1, fun i o k x q hl => va_Nw.same rfl hv.symm (h.2 i o k x q hl)⟩
/-- what stands outside our heap: the script, the static arrays, the text -/
def SPF (ad : Nat → Nat) (fv : Value) (sc : sxS) (A : Nat → Prop) (U : State) (H : Heap) : Prop :=
  (va_X (ad 1000000) sc.1 sc.2 U H ∧ ad 1000000 < H.size ∧ ¬ A (ad 1000000)) ∧
  (va_Z "RegionWords$Stones" "SHAPES" "[J" (.ref (ad 1000001)) A U H ∧ va_T .long (ad 1000001) 8 (fun j => .long (sxSHAPES j)) A U H) ∧
  (va_Z "RegionWords$Stones" "RIGHT" "[I" (.ref (ad 1000002)) A U H ∧ va_T .int (ad 1000002) 8 (fun j => .int (sxRIGHT j)) A U H) ∧
  (va_Z "RegionWords$Stones" "LEFT" "[I" (.ref (ad 1000003)) A U H ∧ va_T .int (ad 1000003) 8 (fun j => .int (sxLEFT j)) A U H) ∧
  va_Z "java/lang/String" "COMPACT_STRINGS" "Z" (.int 1) A U H ∧
  va_Z "jdk/internal/util/Preconditions" "SIOOBE_FORMATTER" "Ljava/util/function/BiFunction;" fv A U H ∧
  vk_S 1 [4] [[114, 100, 108, 117]] (fun _ => ad 1000004) (fun _ => ad 1000005) A U H ∧
  TW (ad 1000004) U ∧ va_AO "RegionWords$Tape" U ∧ fv.category = 1
theorem SPF.move {ad ad' : Nat → Nat} {fv : Value} {sc : sxS} {A B : Nat → Prop} {s U : State} {H0 H1 : Heap} (h : SPF ad fv sc A s H0) (hvm : s.vm.Alike U.vm) (hR : ∀ a, TW a s → TW a U) (hz : H0.size ≤ H1.size) (hq : ∀ a : Nat, a < H0.size → ¬ A a → H1[a]? = H0[a]?) (hAB : ∀ q, B q → A q) (had : ∀ k, 1000000 ≤ k → ad' k = ad k) : SPF ad' fv sc B U H1 := by
  obtain ⟨⟨a1, a2, a3⟩, ⟨b1, b2⟩, ⟨c1, c2⟩, ⟨d1, d2⟩, e1, f1, g1, h1, i1, j1⟩ := h
  unfold SPF
  rw [had 1000000 (Nat.le_refl _), had 1000001 (by decide), had 1000002 (by decide), had 1000003 (by decide), had 1000004 (by decide), had 1000005 (by decide)]
  exact ⟨⟨(a1.kept (hq _ a2 a3)).moved hvm, Nat.lt_of_lt_of_le a2 hz, fun q => a3 (hAB _ q)⟩, ⟨((b1.kept hq).moved hvm).narrow hAB, ((b2.kept hq).moved hvm).narrow hAB⟩, ⟨((c1.kept hq).moved hvm).narrow hAB, ((c2.kept hq).moved hvm).narrow hAB⟩, ⟨((d1.kept hq).moved hvm).narrow hAB, ((d2.kept hq).moved hvm).narrow hAB⟩, ((e1.kept hq).moved hvm).narrow hAB, ((f1.kept hq).moved hvm).narrow hAB, ((g1.kept hq).moved hvm).narrow hAB, hR _ h1, i1.moved hvm, j1⟩
/-- the method's own world: tables, room, what stands outside -/
def Cx (p : Program) (R : Room) (s : State) (m : MethodId) (args : Array Value) (meth : Method) (c : Code) (D : va_G) (cA : Nat → ClassId) (fv : Value) (A : Nat → Prop) (ad0 : Nat → Nat) (y : Nat) (sc : sxS) : Prop :=
  p.tables.exec = Jvm.exec ∧ c.code = mBy y ∧ c.maxLocals = mML y ∧ s.vm.findClass (sxCs y) = some m.cls ∧ (∀ w ∈ sxTB, w.before args s = true) ∧ va_K D vwCl (tysL cA) s ∧ (∀ q, s.heap.size ≤ q → A q) ∧ SPF ad0 fv sc A s s.heap ∧ ((mNm y).name = "<init>" → meth.name = "<init>") ∧ 1 ≤ R.frames ∧ 60 ≤ R.locals ∧ mMc y ≤ R.cells ∧ mMs y ≤ R.slots ∧ y < 258
def RH (D : va_G) (cA : Nat → ClassId) (fv : Value) (A : Nat → Prop) (ad0 : Nat → Nat) (n0 : Nat) (H0 : Heap) (hp : sxH) (ad : Nat → Nat) (H : Heap) (locs : List Loc) : Prop :=
  va_P D vwCl (wld ad fv cA hp) H ∧ va_D A (wld ad fv cA hp) ∧ va_S A H0 H locs ∧ okH hp ∧ agr n0 ad0 ad ∧ n0 ≤ hp.length
def SP (p : Program) (l : Launch) (e : Env) (R : Room) (s : State) (m : MethodId) (args : Array Value) (below : List Frame) (meth : Method) (c : Code) (Qf : State → Prop) (D : va_G) (cA : Nat → ClassId) (fv : Value) (A : Nat → Prop) (ad0 : Nat → Nat) (n0 y : Nat) (q : sxC) : Prop :=
  ∀ (ad : Nat → Nat) (H : Heap) (locs : List Loc) (ls : Array Slot), RH D cA fv A ad0 n0 s.heap q.2.2.2.1 ad H locs → RL ad fv (mML y) q.2.2.2.1.length ls q.2.1 → okS q.2.2.2.1.length q.2.2.1 → W p l e R s m args below meth c H locs q.2.2.2.2.1 q.2.2.2.2.2 Qf (F0 m q.1 ls (q.2.2.1.map (rv ad fv)))
theorem beq1 {a b : Nat} (h : Nat.beq a b = true) : a = b := Nat.eq_of_beq_eq_true h
theorem and1 {a b : Bool} (h : (a && b) = true) : a = true ∧ b = true := by simpa using h
theorem dec1 {a : Prop} {d : Decidable a} (h : decide a = true) : a := of_decide_eq_true h
theorem tbw {args : Array Value} {s : State} (hts : ∀ w ∈ sxTB, w.before args s = true) {i : Nat} {w : Jvm.Cond} (h : lk i = some w) (hg : goodWord w = true) : w.before args s = true := hts w (sxTB_mem h hg)
theorem swT_out : ∀ (ts : List Nat) (x lo : Int) (d : Nat), (x < lo ∨ lo + ts.length ≤ x) → swT x lo ts d = d
  | [], x, lo, d, _ => rfl
  | t :: r, x, lo, d, h => by
    have hl : ((t :: r).length : Int) = (r.length : Int) + 1 := by simp
    unfold swT
    rw [if_neg (by omega)]
    exact swT_out r x (lo + 1) d (by omega)
theorem swT_in : ∀ (ts : List Nat) (x lo : Int) (d : Nat) (t : Nat), lo ≤ x → ts[(x - lo).toNat]? = some t → swT x lo ts d = t
  | [], x, lo, d, t, _, h => by simp at h
  | u :: r, x, lo, d, t, hx, h => by
    unfold swT
    by_cases q : x = lo
    · rw [if_pos q]
      subst q
      simp at h
      exact h
    · rw [if_neg q]
      refine swT_in r x (lo + 1) d t (by omega) ?_
      have e : (x - lo).toNat = (x - (lo + 1)).toNat + 1 := by omega
      rw [e] at h
      simpa using h
theorem swL_of : ∀ (ps : List (Int × Int)) (ts : List Nat) (pc : Nat) (d : Int) (x : Int) (t0 : Nat), ps.map (fun o => (pc : Int) + o.2) = ts.map Int.ofNat → (pc : Int) + d = (t0 : Int) → (pc : Int) + Op.lookupswitch.offset ps d x = ((swL x ps ts t0 : Nat) : Int)
  | [], ts, pc, d, x, t0, h, hd => by
    cases ts with
    | nil => simpa [swL, Op.lookupswitch.offset] using hd
    | cons t r => simp at h
  | q :: ps, [], pc, d, x, t0, h, hd => by simp at h
  | q :: ps, t :: r, pc, d, x, t0, h, hd => by
    simp only [List.map_cons, List.cons.injEq] at h
    have ih := swL_of ps r pc d x t0 h.2 hd
    obtain ⟨a, b⟩ := q
    unfold swL
    by_cases e : x = a
    · subst e
      simp [Op.lookupswitch.offset]
      exact h.1
    · rw [if_neg e]
      rw [← ih]
      congr 1
      simp only [Op.lookupswitch.offset]
      first | rw [if_neg e] | rw [if_neg (Ne.symm e)] | simp [e]
section LDW
variable {p : Program} {l : Launch} {e : Env} {R : Room} {s : State} {m : MethodId} {args : Array Value} {below : List Frame} {meth : Method} {c : Code} {H : Heap} {locs : List Loc} {cells slots : Nat} {Q : State → Prop} {cc : ByteArray} {pc : Nat} {ls : Array Slot} {rest : List Value}
theorem lv_ldcwf (hexec : p.tables.exec = Jvm.exec) (hb : c.code = cc) {own : String} {index : Nat} {v : UInt32} (hown : s.vm.findClass own = some m.cls) (hconst : (Jvm.Cond.constantFloat own index v).before args s = true) (hdg : decode cc pc = .ok (.ldc_w index, 3)) (k : W p l e R s m args below meth c H locs cells slots Q (F0 m (pc + 3) ls (.float v :: rest))) : W p l e R s m args below meth c H locs cells slots Q (F0 m pc ls rest) := by
  intro T hT X
  obtain ⟨t, a, b⟩ := k T hT X
  refine ⟨t, ?_, b⟩
  obtain ⟨k, cf, hk, hcf, hcp⟩ := Cond.constantFloat_spec hown hconst
  obtain ⟨k', hk', he⟩ := X.warmed.alike.2.2 _ _ hk
  subst hb
  jvm_step X.here [hexec, hdg, ldc_w.wp_float (s := T) (f := F0 m pc ls rest) X.here.top hk' (by rw [he]; exact hcf) hcp]
  exact a
end LDW
set_option maxHeartbeats 4000000 in
set_option maxRecDepth 100000 in
/-- numbers, locals, jumps; the others by hJ -/
theorem sim_I {p : Program} {l : Launch} {e : Env} {R : Room} {s : State} {m : MethodId} {args : Array Value} {below : List Frame} {meth : Method} {c : Code} {Qf : State → Prop} {D : va_G} {cA : Nat → ClassId} {fv : Value} {A : Nat → Prop} {ad0 : Nat → Nat} {n0 y : Nat} {sc : sxS} (C : Cx p R s m args meth c D cA fv A ad0 y sc) {call : sxX} {Q : sxR}
    (i : Instr) (len : Nat) (dat : List Nat) (kv : Value) (pc : Nat) (L : sxL) (st : List Value) (hp : sxH) (cu su : Nat)
    (hF : sxI sc call Q y (SP p l e R s m args below meth c Qf D cA fv A ad0 n0 y) i dat kv pc L st hp cu su)
    (hJ : sxJ sc call Q y (SP p l e R s m args below meth c Qf D cA fv A ad0 n0 y) i dat kv pc L st hp cu su → SP p l e R s m args below meth c Qf D cA fv A ad0 n0 y (pc, L, st, hp, cu, su))
    (hdg : decode (mBy y) pc = .ok (i, len)) (hg : sxGd y pc i len dat kv = true) : SP p l e R s m args below meth c Qf D cA fv A ad0 n0 y (pc, L, st, hp, cu, su) := by
  have hall := id C
  obtain ⟨hx, hb, hml, hown, hts, hK, hA, hSp, hnm, hfr, hlo, hmc, hms, hy⟩ := C
  have hf : fv.category = 1 := hSp.2.2.2.2.2.2.2.2.2
  intro ad H locs ls hH hL hS
  cases i
  all_goals try exact hJ hF ad H locs ls hH hL hS
  case iconst n =>
    obtain ⟨e1, e2⟩ := and1 hg
    have e1 := beq1 e1
    subst e1
    have e2 := dec1 e2
    subst e2
    exact lv_iconst hx hb hdg rfl (hF ad H locs ls hH hL (okS.cons trivial hS))
  case bipush n =>
    obtain ⟨e1, e2⟩ := and1 hg
    have e1 := beq1 e1
    subst e1
    have e2 := dec1 e2
    subst e2
    exact lv_bipush hx hb hdg rfl (hF ad H locs ls hH hL (okS.cons trivial hS))
  case sipush n =>
    obtain ⟨e1, e2⟩ := and1 hg
    have e1 := beq1 e1
    subst e1
    have e2 := dec1 e2
    subst e2
    exact lv_sipush hx hb hdg rfl (hF ad H locs ls hH hL (okS.cons trivial hS))
  case lconst n =>
    obtain ⟨e1, e2⟩ := and1 hg
    have e1 := beq1 e1
    subst e1
    have e2 := dec1 e2
    subst e2
    exact lv_lconst hx hb hdg rfl (hF ad H locs ls hH hL (okS.cons trivial hS))
  case fconst n =>
    obtain ⟨e1, e2⟩ := and1 hg
    have e1 := beq1 e1
    subst e1
    rcases dec1 e2 with ⟨rfl, rfl⟩ | ⟨rfl, rfl⟩ | ⟨rfl, rfl⟩
    · exact lv_fconst0 hx hb hdg (hF ad H locs ls hH hL (okS.cons trivial hS))
    · exact lv_fconst1 hx hb hdg (hF ad H locs ls hH hL (okS.cons trivial hS))
    · exact lv_fconst2 hx hb hdg (hF ad H locs ls hH hL (okS.cons trivial hS))
  case dconst n =>
    obtain ⟨e1, e2⟩ := and1 hg
    have e1 := beq1 e1
    subst e1
    rcases dec1 e2 with ⟨rfl, rfl⟩ | ⟨rfl, rfl⟩
    · exact lv_dconst0 hx hb hdg (hF ad H locs ls hH hL (okS.cons trivial hS))
    · exact lv_dconst1 hx hb hdg (hF ad H locs ls hH hL (okS.cons trivial hS))
  case ldc idx =>
    obtain ⟨e1, e2⟩ := and1 hg
    have e1 := beq1 e1
    subst e1
    cases kv with
    | int v => exact lv_ldc hx hb hown (tbw hts (dec1 e2) rfl) hdg (hF ad H locs ls hH hL (okS.cons trivial hS))
    | float v => exact lv_ldcf hx hb hown (tbw hts (dec1 e2) rfl) hdg (hF ad H locs ls hH hL (okS.cons trivial hS))
    | ref a =>
      obtain ⟨rfl, q2, rfl⟩ := dec1 e2
      have hz : vk_R (sxCs y) 227 "rdlu" (ad0 1000004) s := by rw [q2]; exact hSp.2.2.2.2.2.2.2.1.1
      have ha : ad 1000004 = ad0 1000004 := hH.2.2.2.2.1 1000004 (Or.inr (by decide))
      have hz2 : vk_R (sxCs y) 227 "rdlu" (ad 1000004) s := by rw [ha]; exact hz
      exact va_ldcS hx hb hown hz2 hdg (hF ad H locs ls hH hL (okS.cons (Or.inr (by decide)) hS))
    | long v => cases e2
    | double v => cases e2
    | null => cases e2
    | retAddr v => cases e2
  case ldc_w idx =>
    obtain ⟨e1, e2⟩ := and1 hg
    have e1 := beq1 e1
    subst e1
    cases kv with
    | int v => exact lv_ldcw hx hb hown (tbw hts (dec1 e2) rfl) hdg (hF ad H locs ls hH hL (okS.cons trivial hS))
    | float v => exact lv_ldcwf hx hb hown (tbw hts (dec1 e2) rfl) hdg (hF ad H locs ls hH hL (okS.cons trivial hS))
    | ref a => cases e2
    | long v => cases e2
    | double v => cases e2
    | null => cases e2
    | retAddr v => cases e2
  case ldc2_w idx =>
    obtain ⟨e1, e2⟩ := and1 hg
    have e1 := beq1 e1
    subst e1
    cases kv with
    | long v => exact lv_ldc2 hx hb hown (tbw hts (dec1 e2) rfl) hdg (hF ad H locs ls hH hL (okS.cons trivial hS))
    | double v => exact lv_ldc2d hx hb hown (tbw hts (dec1 e2) rfl) hdg (hF ad H locs ls hH hL (okS.cons trivial hS))
    | ref a => cases e2
    | int v => cases e2
    | float v => cases e2
    | null => cases e2
    | retAddr v => cases e2
  case iload_n k =>
    have e1 := beq1 hg
    subst e1
    obtain ⟨x, ho1, hk⟩ := qI_inv hF
    exact lv_iload_n hx hb hdg rfl (hL.get ho1) (hk ad H locs ls hH hL (okS.cons trivial hS))
  case iload k =>
    have e1 := beq1 hg
    subst e1
    obtain ⟨x, ho1, hk⟩ := qI_inv hF
    exact lv_iload hx hb hdg (hL.get ho1) (hk ad H locs ls hH hL (okS.cons trivial hS))
  case lload_n k =>
    have e1 := beq1 hg
    subst e1
    obtain ⟨x, ho1, hk⟩ := qJ_inv hF
    exact lv_lload_n hx hb hdg rfl (hL.get ho1) (hk ad H locs ls hH hL (okS.cons trivial hS))
  case lload k =>
    have e1 := beq1 hg
    subst e1
    obtain ⟨x, ho1, hk⟩ := qJ_inv hF
    exact lv_lload hx hb hdg (hL.get ho1) (hk ad H locs ls hH hL (okS.cons trivial hS))
  case fload_n k =>
    have e1 := beq1 hg
    subst e1
    obtain ⟨x, ho1, hk⟩ := qF_inv hF
    exact lv_fload_n hx hb hdg rfl (hL.get ho1) (hk ad H locs ls hH hL (okS.cons trivial hS))
  case fload k =>
    have e1 := beq1 hg
    subst e1
    obtain ⟨x, ho1, hk⟩ := qF_inv hF
    exact lv_fload hx hb hdg (hL.get ho1) (hk ad H locs ls hH hL (okS.cons trivial hS))
  case dload_n k =>
    have e1 := beq1 hg
    subst e1
    obtain ⟨x, ho1, hk⟩ := qD_inv hF
    exact lv_dload_n hx hb hdg rfl (hL.get ho1) (hk ad H locs ls hH hL (okS.cons trivial hS))
  case dload k =>
    have e1 := beq1 hg
    subst e1
    obtain ⟨x, ho1, hk⟩ := qD_inv hF
    exact lv_dload hx hb hdg (hL.get ho1) (hk ad H locs ls hH hL (okS.cons trivial hS))
  case aload_n k =>
    have e1 := beq1 hg
    subst e1
    obtain ⟨x, ho1, hk⟩ := qA_inv hF
    exact lv_aload_n hx hb hdg rfl (hL.get ho1) (hk ad H locs ls hH hL (okS.cons (hL.ok ho1) hS))
  case aload k =>
    have e1 := beq1 hg
    subst e1
    obtain ⟨x, ho1, hk⟩ := qA_inv hF
    exact lv_aload hx hb hdg (hL.get ho1) (hk ad H locs ls hH hL (okS.cons (hL.ok ho1) hS))
  case istore_n k =>
    obtain ⟨e1, e2⟩ := and1 hg
    have e1 := beq1 e1
    subst e1
    have e2 := Nat.le_of_ble_eq_true e2
    obtain ⟨x, r, rfl, hk⟩ := pI_inv hF
    exact lv_istore_n hx hb hdg rfl hL.has e2 rfl (fun ls1 hl => hk ad H locs ls1 hH (hL.s1 (v := .int x) hf e2 trivial hl) hS.tl)
  case istore k =>
    obtain ⟨e1, e2⟩ := and1 hg
    have e1 := beq1 e1
    subst e1
    have e2 := Nat.le_of_ble_eq_true e2
    obtain ⟨x, r, rfl, hk⟩ := pI_inv hF
    exact lv_istore hx hb hdg hL.has e2 rfl (fun ls1 hl => hk ad H locs ls1 hH (hL.s1 (v := .int x) hf e2 trivial hl) hS.tl)
  case lstore_n k =>
    obtain ⟨e1, e2⟩ := and1 hg
    have e1 := beq1 e1
    subst e1
    have e2 := Nat.le_of_ble_eq_true e2
    obtain ⟨x, r, rfl, hk⟩ := pJ_inv hF
    exact lv_lstore_n hx hb hdg rfl hL.has e2 rfl (fun ls1 hl => hk ad H locs ls1 hH (hL.s2 (v := .long x) hf e2 trivial hl) hS.tl)
  case lstore k =>
    obtain ⟨e1, e2⟩ := and1 hg
    have e1 := beq1 e1
    subst e1
    have e2 := Nat.le_of_ble_eq_true e2
    obtain ⟨x, r, rfl, hk⟩ := pJ_inv hF
    exact lv_lstore hx hb hdg hL.has e2 rfl (fun ls1 hl => hk ad H locs ls1 hH (hL.s2 (v := .long x) hf e2 trivial hl) hS.tl)
  case fstore_n k =>
    obtain ⟨e1, e2⟩ := and1 hg
    have e1 := beq1 e1
    subst e1
    have e2 := Nat.le_of_ble_eq_true e2
    obtain ⟨x, r, rfl, hk⟩ := pF_inv hF
    exact lv_fstore_n hx hb hdg rfl hL.has e2 rfl (fun ls1 hl => hk ad H locs ls1 hH (hL.s1 (v := .float x) hf e2 trivial hl) hS.tl)
  case fstore k =>
    obtain ⟨e1, e2⟩ := and1 hg
    have e1 := beq1 e1
    subst e1
    have e2 := Nat.le_of_ble_eq_true e2
    obtain ⟨x, r, rfl, hk⟩ := pF_inv hF
    exact lv_fstore hx hb hdg hL.has e2 rfl (fun ls1 hl => hk ad H locs ls1 hH (hL.s1 (v := .float x) hf e2 trivial hl) hS.tl)
  case dstore_n k =>
    obtain ⟨e1, e2⟩ := and1 hg
    have e1 := beq1 e1
    subst e1
    have e2 := Nat.le_of_ble_eq_true e2
    obtain ⟨x, r, rfl, hk⟩ := pD_inv hF
    exact lv_dstore_n hx hb hdg rfl hL.has e2 rfl (fun ls1 hl => hk ad H locs ls1 hH (hL.s2 (v := .double x) hf e2 trivial hl) hS.tl)
  case dstore k =>
    obtain ⟨e1, e2⟩ := and1 hg
    have e1 := beq1 e1
    subst e1
    have e2 := Nat.le_of_ble_eq_true e2
    obtain ⟨x, r, rfl, hk⟩ := pD_inv hF
    exact lv_dstore hx hb hdg hL.has e2 rfl (fun ls1 hl => hk ad H locs ls1 hH (hL.s2 (v := .double x) hf e2 trivial hl) hS.tl)
  case astore_n k =>
    obtain ⟨e1, e2⟩ := and1 hg
    have e1 := beq1 e1
    subst e1
    have e2 := Nat.le_of_ble_eq_true e2
    obtain ⟨x, r, rfl, hk⟩ := pA_inv hF
    exact lv_astore_n hx hb hdg rfl hL.has e2 rfl (fun ls1 hl => hk ad H locs ls1 hH (hL.s1 (v := .ref x) hf e2 hS.hd hl) hS.tl)
  case astore k =>
    obtain ⟨e1, e2⟩ := and1 hg
    have e1 := beq1 e1
    subst e1
    have e2 := Nat.le_of_ble_eq_true e2
    obtain ⟨x, r, rfl, hk⟩ := pA_inv hF
    exact lv_astore hx hb hdg hL.has e2 rfl (fun ls1 hl => hk ad H locs ls1 hH (hL.s1 (v := .ref x) hf e2 hS.hd hl) hS.tl)
  case iinc k n =>
    obtain ⟨e1, e2⟩ := and1 hg
    have e1 := beq1 e1
    subst e1
    obtain ⟨e4, e3⟩ := and1 e2
    have e4 : k < mML y := Nat.le_of_ble_eq_true e4
    have e3 := dec1 e3
    subst e3
    obtain ⟨x, ho1, hk⟩ := qI_inv hF
    obtain ⟨z, hz, hk⟩ := vI_inv hk
    cases hz
    obtain ⟨kk, hkk⟩ := List.getElem?_of_mem (lvL_mem (ad := ad) (fv := fv) ho1)
    exact lv_iinc hx hb hdg hL.has hkk rfl e4 rfl (fun ls1 hl => hk ad H locs ls1 hH (hL.s1 (v := .int (x + Int32.ofInt n)) hf e4 trivial hl) hS)
  case iadd =>
    have e1 := beq1 hg
    subst e1
    obtain ⟨x, z, r, rfl, hk⟩ := pII_inv hF
    exact lv_iadd hx hb hdg (hk ad H locs ls hH hL (okS.cons trivial hS.tl.tl))
  case isub =>
    have e1 := beq1 hg
    subst e1
    obtain ⟨x, z, r, rfl, hk⟩ := pII_inv hF
    exact lv_isub hx hb hdg (hk ad H locs ls hH hL (okS.cons trivial hS.tl.tl))
  case imul =>
    have e1 := beq1 hg
    subst e1
    obtain ⟨x, z, r, rfl, hk⟩ := pII_inv hF
    exact lv_imul hx hb hdg (hk ad H locs ls hH hL (okS.cons trivial hS.tl.tl))
  case iand =>
    have e1 := beq1 hg
    subst e1
    obtain ⟨x, z, r, rfl, hk⟩ := pII_inv hF
    exact lv_iand hx hb hdg (hk ad H locs ls hH hL (okS.cons trivial hS.tl.tl))
  case ior =>
    have e1 := beq1 hg
    subst e1
    obtain ⟨x, z, r, rfl, hk⟩ := pII_inv hF
    exact lv_ior hx hb hdg (hk ad H locs ls hH hL (okS.cons trivial hS.tl.tl))
  case ixor =>
    have e1 := beq1 hg
    subst e1
    obtain ⟨x, z, r, rfl, hk⟩ := pII_inv hF
    exact lv_ixor hx hb hdg (hk ad H locs ls hH hL (okS.cons trivial hS.tl.tl))
  case ishl =>
    have e1 := beq1 hg
    subst e1
    obtain ⟨x, z, r, rfl, hk⟩ := pII_inv hF
    exact lv_ishl hx hb hdg (hk ad H locs ls hH hL (okS.cons trivial hS.tl.tl))
  case ishr =>
    have e1 := beq1 hg
    subst e1
    obtain ⟨x, z, r, rfl, hk⟩ := pII_inv hF
    exact lv_ishr hx hb hdg (hk ad H locs ls hH hL (okS.cons trivial hS.tl.tl))
  case iushr =>
    have e1 := beq1 hg
    subst e1
    obtain ⟨x, z, r, rfl, hk⟩ := pII_inv hF
    exact lv_iushr hx hb hdg rfl (hk ad H locs ls hH hL (okS.cons trivial hS.tl.tl))
  case idiv =>
    have e1 := beq1 hg
    subst e1
    obtain ⟨x, z, r, rfl, hk⟩ := pII_inv hF
    exact lv_idiv hx hb hdg hk.1 (hk.2 ad H locs ls hH hL (okS.cons trivial hS.tl.tl))
  case irem =>
    have e1 := beq1 hg
    subst e1
    obtain ⟨x, z, r, rfl, hk⟩ := pII_inv hF
    exact lv_irem hx hb hdg hk.1 (hk.2 ad H locs ls hH hL (okS.cons trivial hS.tl.tl))
  case ineg =>
    have e1 := beq1 hg
    subst e1
    obtain ⟨x, r, rfl, hk⟩ := pI_inv hF
    exact lv_ineg hx hb hdg (hk ad H locs ls hH hL (okS.cons trivial hS.tl))
  case ladd =>
    have e1 := beq1 hg
    subst e1
    obtain ⟨x, z, r, rfl, hk⟩ := pJJ_inv hF
    exact lv_ladd hx hb hdg (hk ad H locs ls hH hL (okS.cons trivial hS.tl.tl))
  case lsub =>
    have e1 := beq1 hg
    subst e1
    obtain ⟨x, z, r, rfl, hk⟩ := pJJ_inv hF
    exact lv_lsub hx hb hdg (hk ad H locs ls hH hL (okS.cons trivial hS.tl.tl))
  case land =>
    have e1 := beq1 hg
    subst e1
    obtain ⟨x, z, r, rfl, hk⟩ := pJJ_inv hF
    exact lv_land hx hb hdg (hk ad H locs ls hH hL (okS.cons trivial hS.tl.tl))
  case lor =>
    have e1 := beq1 hg
    subst e1
    obtain ⟨x, z, r, rfl, hk⟩ := pJJ_inv hF
    exact lv_lor hx hb hdg (hk ad H locs ls hH hL (okS.cons trivial hS.tl.tl))
  case lxor =>
    have e1 := beq1 hg
    subst e1
    obtain ⟨x, z, r, rfl, hk⟩ := pJJ_inv hF
    exact lv_lxor hx hb hdg (hk ad H locs ls hH hL (okS.cons trivial hS.tl.tl))
  case ldiv =>
    have e1 := beq1 hg
    subst e1
    obtain ⟨x, z, r, rfl, hk⟩ := pJJ_inv hF
    exact lv_ldiv hx hb hdg hk.1 (hk.2 ad H locs ls hH hL (okS.cons trivial hS.tl.tl))
  case lrem =>
    have e1 := beq1 hg
    subst e1
    obtain ⟨x, z, r, rfl, hk⟩ := pJJ_inv hF
    exact lv_lrem hx hb hdg hk.1 (hk.2 ad H locs ls hH hL (okS.cons trivial hS.tl.tl))
  case lneg =>
    have e1 := beq1 hg
    subst e1
    obtain ⟨x, r, rfl, hk⟩ := pJ_inv hF
    exact lv_lneg hx hb hdg (hk ad H locs ls hH hL (okS.cons trivial hS.tl))
  case lshl =>
    have e1 := beq1 hg
    subst e1
    obtain ⟨x, z, r, rfl, hk⟩ := pJI_inv hF
    exact lv_lshl hx hb hdg rfl (hk ad H locs ls hH hL (okS.cons trivial hS.tl.tl))
  case lshr =>
    have e1 := beq1 hg
    subst e1
    obtain ⟨x, z, r, rfl, hk⟩ := pJI_inv hF
    exact lv_lshr hx hb hdg rfl (hk ad H locs ls hH hL (okS.cons trivial hS.tl.tl))
  case lushr =>
    have e1 := beq1 hg
    subst e1
    obtain ⟨x, z, r, rfl, hk⟩ := pJI_inv hF
    exact lv_lushr hx hb hdg rfl (hk ad H locs ls hH hL (okS.cons trivial hS.tl.tl))
  case lcmp =>
    have e1 := beq1 hg
    subst e1
    obtain ⟨x, z, r, rfl, hk⟩ := pJJ_inv hF
    exact W.lcmp hx hb hdg (hk ad H locs ls hH hL (okS.cons trivial hS.tl.tl))
  case i2l =>
    have e1 := beq1 hg
    subst e1
    obtain ⟨x, r, rfl, hk⟩ := pI_inv hF
    exact lv_i2l hx hb hdg rfl (hk ad H locs ls hH hL (okS.cons trivial hS.tl))
  case l2i =>
    have e1 := beq1 hg
    subst e1
    obtain ⟨x, r, rfl, hk⟩ := pJ_inv hF
    exact lv_l2i hx hb hdg rfl (hk ad H locs ls hH hL (okS.cons trivial hS.tl))
  case i2b =>
    have e1 := beq1 hg
    subst e1
    obtain ⟨x, r, rfl, hk⟩ := pI_inv hF
    exact lv_i2b hx hb hdg rfl (hk ad H locs ls hH hL (okS.cons trivial hS.tl))
  case i2s =>
    have e1 := beq1 hg
    subst e1
    obtain ⟨x, r, rfl, hk⟩ := pI_inv hF
    exact lv_i2s hx hb hdg rfl (hk ad H locs ls hH hL (okS.cons trivial hS.tl))
  case i2c =>
    have e1 := beq1 hg
    subst e1
    obtain ⟨x, r, rfl, hk⟩ := pI_inv hF
    exact lv_i2c hx hb hdg rfl (hk ad H locs ls hH hL (okS.cons trivial hS.tl))
  case i2f =>
    have e1 := beq1 hg
    subst e1
    obtain ⟨x, r, rfl, hk⟩ := pI_inv hF
    exact lv_i2f hx hb hdg (hk ad H locs ls hH hL (okS.cons trivial hS.tl))
  case i2d =>
    have e1 := beq1 hg
    subst e1
    obtain ⟨x, r, rfl, hk⟩ := pI_inv hF
    exact lv_i2d hx hb hdg (hk ad H locs ls hH hL (okS.cons trivial hS.tl))
  case f2i =>
    have e1 := beq1 hg
    subst e1
    obtain ⟨x, r, rfl, hk⟩ := pF_inv hF
    exact lv_f2i hx hb hdg (hk ad H locs ls hH hL (okS.cons trivial hS.tl))
  case d2l =>
    have e1 := beq1 hg
    subst e1
    obtain ⟨x, r, rfl, hk⟩ := pD_inv hF
    exact lv_d2l hx hb hdg (hk ad H locs ls hH hL (okS.cons trivial hS.tl))
  case dneg =>
    have e1 := beq1 hg
    subst e1
    obtain ⟨x, r, rfl, hk⟩ := pD_inv hF
    exact lv_dneg hx hb hdg (hk ad H locs ls hH hL (okS.cons trivial hS.tl))
  case fadd =>
    have e1 := beq1 hg
    subst e1
    obtain ⟨x, z, r, rfl, hk⟩ := pFF_inv hF
    exact lv_fadd hx hb hdg hk.1 (hk.2 ad H locs ls hH hL (okS.cons trivial hS.tl.tl))
  case fsub =>
    have e1 := beq1 hg
    subst e1
    obtain ⟨x, z, r, rfl, hk⟩ := pFF_inv hF
    exact lv_fsub hx hb hdg hk.1 (hk.2 ad H locs ls hH hL (okS.cons trivial hS.tl.tl))
  case fmul =>
    have e1 := beq1 hg
    subst e1
    obtain ⟨x, z, r, rfl, hk⟩ := pFF_inv hF
    exact lv_fmul hx hb hdg hk.1 (hk.2 ad H locs ls hH hL (okS.cons trivial hS.tl.tl))
  case fdiv =>
    have e1 := beq1 hg
    subst e1
    obtain ⟨x, z, r, rfl, hk⟩ := pFF_inv hF
    exact lv_fdiv hx hb hdg hk.1 (hk.2 ad H locs ls hH hL (okS.cons trivial hS.tl.tl))
  case dsub =>
    have e1 := beq1 hg
    subst e1
    obtain ⟨x, z, r, rfl, hk⟩ := pDD_inv hF
    exact lv_dsub hx hb hdg hk.1 (hk.2 ad H locs ls hH hL (okS.cons trivial hS.tl.tl))
  case dmul =>
    have e1 := beq1 hg
    subst e1
    obtain ⟨x, z, r, rfl, hk⟩ := pDD_inv hF
    exact lv_dmul hx hb hdg hk.1 (hk.2 ad H locs ls hH hL (okS.cons trivial hS.tl.tl))
  case ddiv =>
    have e1 := beq1 hg
    subst e1
    obtain ⟨x, z, r, rfl, hk⟩ := pDD_inv hF
    exact lv_ddiv hx hb hdg hk.1 (hk.2 ad H locs ls hH hL (okS.cons trivial hS.tl.tl))
  case fcmp op =>
    have e1 := beq1 hg
    subst e1
    obtain ⟨x, z, r, rfl, hk⟩ := pFF_inv hF
    exact lv_fcmp hx hb hdg (hk ad H locs ls hH hL (okS.cons trivial hS.tl.tl))
  case dcmp op =>
    have e1 := beq1 hg
    subst e1
    obtain ⟨x, z, r, rfl, hk⟩ := pDD_inv hF
    exact lv_dcmp hx hb hdg (hk ad H locs ls hH hL (okS.cons trivial hS.tl.tl))
  case dup =>
    have e1 := beq1 hg
    subst e1
    obtain ⟨v, r, rfl, hk⟩ := pV_inv hF
    cases hc : Nat.beq v.category 1 with
    | false => rw [hc] at hk; exact hk.elim
    | true =>
      rw [hc] at hk
      exact lv_dup hx hb hdg ((rv_cat hf v).trans (beq1 hc)) (hk ad H locs ls hH hL (okS.cons hS.hd hS))
  case pop =>
    have e1 := beq1 hg
    subst e1
    obtain ⟨v, r, rfl, hk⟩ := pV_inv hF
    cases hc : Nat.beq v.category 1 with
    | false => rw [hc] at hk; exact hk.elim
    | true =>
      rw [hc] at hk
      exact lv_pop hx hb hdg ((rv_cat hf v).trans (beq1 hc)) (hk ad H locs ls hH hL hS.tl)
  case dup2 =>
    have e1 := beq1 hg
    subst e1
    obtain ⟨v, r0, rfl, hk⟩ := pV_inv hF
    obtain ⟨w, r, e5, hk2⟩ := pV_inv hk
    subst e5
    cases hc : (Nat.beq v.category 1 && Nat.beq w.category 1) with
    | false => rw [hc] at hk2; exact hk2.elim
    | true =>
      rw [hc] at hk2
      obtain ⟨c1, c2⟩ := and1 hc
      exact lv_dup2_11 hx hb hdg ((rv_cat hf v).trans (beq1 c1)) ((rv_cat hf w).trans (beq1 c2)) (hk2 ad H locs ls hH hL (okS.cons hS.hd (okS.cons hS.tl.hd hS)))
  case goto off =>
    obtain ⟨e1, e2⟩ := and1 hg
    have e1 := beq1 e1
    subst e1
    have e2 := dec1 e2
    exact lv_goto hx hb hdg e2 (hF ad H locs ls hH hL hS)
  case ifCond cnd off =>
    obtain ⟨e1, e2⟩ := and1 hg
    have e1 := beq1 e1
    subst e1
    have e2 := dec1 e2
    cases cnd with
    | eq =>
      obtain ⟨x, r, rfl, hk⟩ := pI_inv hF
      exact lv_if_eq hx hb hdg e2 (fun q => hk.1 q ad H locs ls hH hL hS.tl) (fun q => hk.2 q ad H locs ls hH hL hS.tl)
    | ne =>
      obtain ⟨x, r, rfl, hk⟩ := pI_inv hF
      exact lv_if_ne hx hb hdg e2 (fun q => hk.1 q ad H locs ls hH hL hS.tl) (fun q => hk.2 q ad H locs ls hH hL hS.tl)
    | lt =>
      obtain ⟨x, r, rfl, hk⟩ := pI_inv hF
      exact lv_if_lt hx hb hdg e2 (fun q => hk.1 q ad H locs ls hH hL hS.tl) (fun q => hk.2 q ad H locs ls hH hL hS.tl)
    | ge =>
      obtain ⟨x, r, rfl, hk⟩ := pI_inv hF
      exact lv_if_ge hx hb hdg e2 (fun q => hk.1 q ad H locs ls hH hL hS.tl) (fun q => hk.2 q ad H locs ls hH hL hS.tl)
    | gt =>
      obtain ⟨x, r, rfl, hk⟩ := pI_inv hF
      exact lv_if_gt hx hb hdg e2 (fun q => hk.1 q ad H locs ls hH hL hS.tl) (fun q => hk.2 q ad H locs ls hH hL hS.tl)
    | le =>
      obtain ⟨x, r, rfl, hk⟩ := pI_inv hF
      exact lv_if_le hx hb hdg e2 (fun q => hk.1 q ad H locs ls hH hL hS.tl) (fun q => hk.2 q ad H locs ls hH hL hS.tl)
  case if_icmp cnd off =>
    obtain ⟨e1, e2⟩ := and1 hg
    have e1 := beq1 e1
    subst e1
    have e2 := dec1 e2
    cases cnd with
    | eq =>
      obtain ⟨x, z, r, rfl, hk⟩ := pII_inv hF
      exact lv_icmp_eq hx hb hdg e2 (fun q => hk.1 q ad H locs ls hH hL hS.tl.tl) (fun q => hk.2 q ad H locs ls hH hL hS.tl.tl)
    | ne =>
      obtain ⟨x, z, r, rfl, hk⟩ := pII_inv hF
      exact lv_icmp_ne hx hb hdg e2 (fun q => hk.1 q ad H locs ls hH hL hS.tl.tl) (fun q => hk.2 q ad H locs ls hH hL hS.tl.tl)
    | lt =>
      obtain ⟨x, z, r, rfl, hk⟩ := pII_inv hF
      exact lv_icmp_lt hx hb hdg e2 (fun q => hk.1 q ad H locs ls hH hL hS.tl.tl) (fun q => hk.2 q ad H locs ls hH hL hS.tl.tl)
    | ge =>
      obtain ⟨x, z, r, rfl, hk⟩ := pII_inv hF
      exact lv_icmp_ge hx hb hdg e2 (fun q => hk.1 q ad H locs ls hH hL hS.tl.tl) (fun q => hk.2 q ad H locs ls hH hL hS.tl.tl)
    | gt =>
      obtain ⟨x, z, r, rfl, hk⟩ := pII_inv hF
      exact lv_icmp_gt hx hb hdg e2 (fun q => hk.1 q ad H locs ls hH hL hS.tl.tl) (fun q => hk.2 q ad H locs ls hH hL hS.tl.tl)
    | le =>
      obtain ⟨x, z, r, rfl, hk⟩ := pII_inv hF
      exact lv_icmp_le hx hb hdg e2 (fun q => hk.1 q ad H locs ls hH hL hS.tl.tl) (fun q => hk.2 q ad H locs ls hH hL hS.tl.tl)
  case tableswitch d lo hi offs =>
    obtain ⟨e1, e2⟩ := and1 hg
    have e1 := dec1 e1
    obtain ⟨e2, e3⟩ := and1 e2
    have e2 := dec1 e2
    have e3 := dec1 e3
    obtain ⟨x, r, rfl, hk⟩ := pI_inv hF
    have hlen : (dat.tail.length : Int) = hi + 1 - lo := by
      have := congrArg List.length e2
      simp only [List.length_map, Array.length_toList] at this
      rw [e3, ← this]
    by_cases hin : x.toInt < lo ∨ hi < x.toInt
    · have ht := swT_out dat.tail x.toInt lo (sd0 dat) (by omega)
      rw [ht] at hk
      exact lv_tableOut hx hb hdg hin e1 (hk ad H locs ls hH hL hS.tl)
    · have h1 : ¬ x.toInt < lo := fun q => hin (Or.inl q)
      have h2 : ¬ hi < x.toInt := fun q => hin (Or.inr q)
      have hl : (x.toInt - lo).toNat < dat.tail.length := by omega
      have hl2 : (x.toInt - lo).toNat < offs.size := by omega
      have ht := swT_in dat.tail x.toInt lo (sd0 dat) _ (by omega) (List.getElem?_eq_getElem hl)
      rw [ht] at hk
      have hoff : offs[(x.toInt - lo).toNat]? = some offs[(x.toInt - lo).toNat] := Array.getElem?_eq_getElem hl2
      refine lv_tableIn hx hb hdg h1 h2 hoff ?_ (hk ad H locs ls hH hL hS.tl)
      have := congrArg (fun l => l[(x.toInt - lo).toNat]?) e2
      simp only [List.getElem?_map, Array.getElem?_toList, hoff, Option.map_some, List.getElem?_eq_getElem hl] at this
      exact Option.some.inj this
  case lookupswitch d ps =>
    obtain ⟨e1, e2⟩ := and1 hg
    have e1 := dec1 e1
    obtain ⟨e2, e3⟩ := and1 e2
    have e2 := dec1 e2
    have e3 := dec1 e3
    obtain ⟨x, r, rfl, hk⟩ := pI_inv hF
    exact lv_lookup hx hb hdg e3 rfl (swL_of ps.toList dat.tail pc d x.toInt (sd0 dat) e2 e1) (hk ad H locs ls hH hL hS.tl)
