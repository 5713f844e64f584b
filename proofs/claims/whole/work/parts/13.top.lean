/-! THE CLAIM OUT OF ONE WALK OF THE LAW'S BODY. Your part is whole_start (and what it stands on); all else here is the same for every law, but numbers. -/
def R_law : String := "RegionWordsLaw"
def lw_P (b : Addr) (xs : List Int32) (args : Array Value) (s : State) : Prop := args = #[.ref b] ∧ s.IntsAt b xs ∧ xs.length ≤ 3072 ∧ (Jvm.Cond.and given_1 narrow_1).before args s = true
/-- what a walk over the start with the record d0 says of its end, said of the start itself -/
theorem lw_closed {s t : State} {o : Outcome} {d0 : Drawn} {L : List Loc} {k n : Nat} (hd0 : s.drawn.sameBut d0 lw_cs) (hv : ∃ v, o = .returned v) (hW : (s.setDrawn d0).WarmedH t.vm) (hs : (s.setDrawn d0).sameButNew ({ t with vm := s.vm } : State) L k n) : State.butDraws s t lw_cs (fun t1 => Framed s o t1 L k n) := by
  have h2 : t.drawn = d0 := congrArg State.drawn hs.1
  refine ⟨⟨hv, hW, State.sameButNew.setDrawn hs s.drawn⟩, ?_, by decide⟩
  rw [h2]
  exact hd0
def lw_Q (_ : Array Value) (s : State) (o : Outcome) (t : State) : Prop := o = .returned (some (.int 1)) ∧ State.butDraws s t lw_cs (fun t1 => Framed s o t1 [] 600000 7302250)
def lw_Z (below : List Frame) (a : Array Value) (s : State) : State → Prop := fun t => ∃ o, t.status = .running ∧ Ended t below o ∧ lw_Q a s o t
/-- the law's own end, with 1 on the stack, nothing written that was there before, its room as the claim has it; d0: the record of draws at this point (at the entry s.drawn: begin with 'refine W.base ?_' and 'have hd0 := Drawn.sameBut.refl s.drawn lw_cs') -/
theorem lw_ret {p : Program} {l : Launch} {e : Env} {s : State} {m : MethodId} {below : List Frame} {meth : Method} {c : Code} {b : Nat} {d0 : Drawn} (hd0 : s.drawn.sameBut d0 lw_cs) (hx : p.tables.exec = Jvm.exec) (hb : c.code = code) (hr : meth.sig.returnType = ret) (hlocks : meth.locks = false) {pc : Nat} {H : Heap} {ls : Array Slot} (hdg : decode code pc = .ok (.ireturn, 1)) : W p l e room_1 (s.setDrawn d0) m #[Value.ref b] below meth c H [] 600000 7302250 (lw_Z below #[Value.ref b] s) (F0 m pc ls [.int 1]) := by
  intro T hT X
  obtain ⟨fs, hret, hrun, hended, hW, hframe⟩ := X.leave (v := some (.int 1)) (hlocks := hlocks) (fun h => by rw [hr] at h; cases h)
  have hmeth' : T.vm.method? m = some meth := X.method'
  refine ⟨T.setFrames fs, ?_, .returned (some (.int 1)), hrun, hended, rfl, lw_closed hd0 ⟨_, rfl⟩ hW hframe⟩
  jvm_step X.here [X.here.top, hx, hb, hdg, hmeth', hr, ret, narrow_b1]
  (try refine ⟨rfl, ?_⟩); (try refine ⟨rfl, ?_⟩)
  first | (intro acts; rw [hret _ acts rfl rfl rfl]) | rw [hret _ _ rfl rfl rfl]
  exact Steps.refl _
/-- what holds at the law's entry: the machine, the code, the tables' words (any of lw_tbl by 'hts w (by decide +kernel)'), the script of L ints xs at the cell b, what the Statement gives of the start (any of its parts by flat_of_before) -/
def lw_At (p : Program) (s : State) (m : MethodId) (meth : Method) (c : Code) (b L : Nat) (xs : Nat → Int32) : Prop :=
  p.tables.exec = Jvm.exec ∧ c.code = code ∧ meth.sig.returnType = ret ∧ c.maxLocals = 4 ∧ s.vm.findClass R_law = some m.cls ∧ (∀ w ∈ lw_tbl, w.before #[Value.ref b] s = true) ∧ va_X b L xs s s.heap ∧ b < s.heap.size ∧ meth.locks = false ∧ (Jvm.Cond.and given_1 narrow_1).before #[Value.ref b] s = true
/-- the pure statement: the law, run by our machine, answers 1 -/
def sxD : Nat := 100
def LawOK : Prop := ∀ (L : Nat) (xs : Nat → Int32), L ≤ 3072 → sxE (L, xs) sxD 257 [.ref 1000000] [] (fun r _ => r = some (.int 1))
theorem tbw0 {args : Array Value} {s : State} (hts : ∀ w ∈ lw_tbl, w.before args s = true) {i : Nat} {w : Jvm.Cond} (h : lw_tbl[i]? = some w) : w.before args s = true := hts w (List.mem_of_getElem? h)
def ad00 (b t1 t2 t3 t4 t5 : Nat) : Nat → Nat := fun k => if k = 1000000 then b else if k = 1000001 then t1 else if k = 1000002 then t2 else if k = 1000003 then t3 else if k = 1000004 then t4 else if k = 1000005 then t5 else 0
theorem arrT {s : State} {cA : ClassId} {kA : Class} {comp : ClassId} {ty : FieldType} (h2 : s.vm.classes[cA]? = some kA) (h3 : kA.kind = .array comp ty) : ArrOfT s cA ty := fun n z => ⟨fun k h => (by cases h), kA, h2, comp, h3⟩
set_option maxHeartbeats 4000000 in
set_option maxRecDepth 100000 in
/-- what stands outside our heap, at the law's entry -/
theorem spf_start {s : State} {b L : Nat} {xs : Nat → Int32} (hts : ∀ w ∈ lw_tbl, w.before #[Value.ref b] s = true) (hX : va_X b L xs s s.heap) (hbl : b < s.heap.size) (hgv : (Jvm.Cond.and given_1 narrow_1).before #[Value.ref b] s = true) :
    ∃ (ad : Nat → Nat) (fv : Value), ad 1000000 = b ∧ SPF ad fv (L, xs) (fun q => s.heap.size ≤ q) s s.heap := by
  have hs := flat_of_before _ hgv
  have hA0 : ∀ a : Nat, a < s.heap.size → ¬ (fun q => s.heap.size ≤ q) a := fun a h => Nat.not_le.mpr h
  obtain ⟨tSHAPES, htSHAPES, hTSHAPES⟩ := va_Tof (tm := .static "RegionWords$Stones" "SHAPES" "[J") (ty := .long) (N := 8) (f := fun j => .long (sxSHAPES j)) (A := fun q => s.heap.size ≤ q) (by decide) (hs (.arrayOf (.static "RegionWords$Stones" "SHAPES" "[J") .long) (by decide +kernel)) (va_eqt (hs (.eq (.length (.static "RegionWords$Stones" "SHAPES" "[J")) (.int 8)) (by decide +kernel))) (fun j hj => by
    match j, hj with
    | 0, _ => exact va_eqtl (hs (.eq (.elem (.static "RegionWords$Stones" "SHAPES" "[J") (.int 0)) (.long 3)) (by decide +kernel))
    | 1, _ => exact va_eqtl (hs (.eq (.elem (.static "RegionWords$Stones" "SHAPES" "[J") (.int 1)) (.long 65)) (by decide +kernel))
    | 2, _ => exact va_eqtl (hs (.eq (.elem (.static "RegionWords$Stones" "SHAPES" "[J") (.int 2)) (.long 7)) (by decide +kernel))
    | 3, _ => exact va_eqtl (hs (.eq (.elem (.static "RegionWords$Stones" "SHAPES" "[J") (.int 3)) (.long 4161)) (by decide +kernel))
    | 4, _ => exact va_eqtl (hs (.eq (.elem (.static "RegionWords$Stones" "SHAPES" "[J") (.int 4)) (.long 67)) (by decide +kernel))
    | 5, _ => exact va_eqtl (hs (.eq (.elem (.static "RegionWords$Stones" "SHAPES" "[J") (.int 5)) (.long 131)) (by decide +kernel))
    | 6, _ => exact va_eqtl (hs (.eq (.elem (.static "RegionWords$Stones" "SHAPES" "[J") (.int 6)) (.long 193)) (by decide +kernel))
    | 7, _ => exact va_eqtl (hs (.eq (.elem (.static "RegionWords$Stones" "SHAPES" "[J") (.int 7)) (.long 97)) (by decide +kernel))) hA0
  have hZSHAPES := va_Zref (tbw0 (i := 710) (w := .laysStatic "RegionWords$Stones" "SHAPES" "[J") hts (by decide +kernel)) (tbw0 (i := 68) (w := .initialized "RegionWords$Stones") hts (by decide +kernel)) htSHAPES hA0
  obtain ⟨tRIGHT, htRIGHT, hTRIGHT⟩ := va_Tof (tm := .static "RegionWords$Stones" "RIGHT" "[I") (ty := .int) (N := 8) (f := fun j => .int (sxRIGHT j)) (A := fun q => s.heap.size ≤ q) (by decide) (hs (.arrayOf (.static "RegionWords$Stones" "RIGHT" "[I") .int) (by decide +kernel)) (va_eqt (hs (.eq (.length (.static "RegionWords$Stones" "RIGHT" "[I")) (.int 8)) (by decide +kernel))) (fun j hj => by
    match j, hj with
    | 0, _ => exact va_eqt (hs (.eq (.elem (.static "RegionWords$Stones" "RIGHT" "[I") (.int 0)) (.int 1)) (by decide +kernel))
    | 1, _ => exact va_eqt (hs (.eq (.elem (.static "RegionWords$Stones" "RIGHT" "[I") (.int 1)) (.int 0)) (by decide +kernel))
    | 2, _ => exact va_eqt (hs (.eq (.elem (.static "RegionWords$Stones" "RIGHT" "[I") (.int 2)) (.int 2)) (by decide +kernel))
    | 3, _ => exact va_eqt (hs (.eq (.elem (.static "RegionWords$Stones" "RIGHT" "[I") (.int 3)) (.int 0)) (by decide +kernel))
    | 4, _ => exact va_eqt (hs (.eq (.elem (.static "RegionWords$Stones" "RIGHT" "[I") (.int 4)) (.int 1)) (by decide +kernel))
    | 5, _ => exact va_eqt (hs (.eq (.elem (.static "RegionWords$Stones" "RIGHT" "[I") (.int 5)) (.int 1)) (by decide +kernel))
    | 6, _ => exact va_eqt (hs (.eq (.elem (.static "RegionWords$Stones" "RIGHT" "[I") (.int 6)) (.int 1)) (by decide +kernel))
    | 7, _ => exact va_eqt (hs (.eq (.elem (.static "RegionWords$Stones" "RIGHT" "[I") (.int 7)) (.int 0)) (by decide +kernel))) hA0
  have hZRIGHT := va_Zref (tbw0 (i := 712) (w := .laysStatic "RegionWords$Stones" "RIGHT" "[I") hts (by decide +kernel)) (tbw0 (i := 68) (w := .initialized "RegionWords$Stones") hts (by decide +kernel)) htRIGHT hA0
  obtain ⟨tLEFT, htLEFT, hTLEFT⟩ := va_Tof (tm := .static "RegionWords$Stones" "LEFT" "[I") (ty := .int) (N := 8) (f := fun j => .int (sxLEFT j)) (A := fun q => s.heap.size ≤ q) (by decide) (hs (.arrayOf (.static "RegionWords$Stones" "LEFT" "[I") .int) (by decide +kernel)) (va_eqt (hs (.eq (.length (.static "RegionWords$Stones" "LEFT" "[I")) (.int 8)) (by decide +kernel))) (fun j hj => by
    match j, hj with
    | 0, _ => exact va_eqt (hs (.eq (.elem (.static "RegionWords$Stones" "LEFT" "[I") (.int 0)) (.int 0)) (by decide +kernel))
    | 1, _ => exact va_eqt (hs (.eq (.elem (.static "RegionWords$Stones" "LEFT" "[I") (.int 1)) (.int 0)) (by decide +kernel))
    | 2, _ => exact va_eqt (hs (.eq (.elem (.static "RegionWords$Stones" "LEFT" "[I") (.int 2)) (.int 0)) (by decide +kernel))
    | 3, _ => exact va_eqt (hs (.eq (.elem (.static "RegionWords$Stones" "LEFT" "[I") (.int 3)) (.int 0)) (by decide +kernel))
    | 4, _ => exact va_eqt (hs (.eq (.elem (.static "RegionWords$Stones" "LEFT" "[I") (.int 4)) (.int 0)) (by decide +kernel))
    | 5, _ => exact va_eqt (hs (.eq (.elem (.static "RegionWords$Stones" "LEFT" "[I") (.int 5)) (.int 0)) (by decide +kernel))
    | 6, _ => exact va_eqt (hs (.eq (.elem (.static "RegionWords$Stones" "LEFT" "[I") (.int 6)) (.int 0)) (by decide +kernel))
    | 7, _ => exact va_eqt (hs (.eq (.elem (.static "RegionWords$Stones" "LEFT" "[I") (.int 7)) (.int 1)) (by decide +kernel))) hA0
  have hZLEFT := va_Zref (tbw0 (i := 714) (w := .laysStatic "RegionWords$Stones" "LEFT" "[I") hts (by decide +kernel)) (tbw0 (i := 68) (w := .initialized "RegionWords$Stones") hts (by decide +kernel)) htLEFT hA0
  have hZC := va_Zof (A := fun q => s.heap.size ≤ q) (tbw0 (i := 1226) (w := .laysStatic "java/lang/String" "COMPACT_STRINGS" "Z") hts (by decide +kernel)) (tbw0 (i := 78) (w := .initialized "java/lang/String") hts (by decide +kernel)) (va_eqt (hs (.eq (.static "java/lang/String" "COMPACT_STRINGS" "Z") (.int 1)) (by decide +kernel))) hA0
  have hZF := va_Zqof (A := fun q => s.heap.size ≤ q) (tbw0 (i := 1234) (w := .laysStatic "jdk/internal/util/Preconditions" "SIOOBE_FORMATTER" "Ljava/util/function/BiFunction;") hts (by decide +kernel)) (tbw0 (i := 80) (w := .initialized "jdk/internal/util/Preconditions") hts (by decide +kernel)) (hs (.isRef (.static "jdk/internal/util/Preconditions" "SIOOBE_FORMATTER" "Ljava/util/function/BiFunction;")) (by decide +kernel)) hA0
  have hfv : ∃ fv : Value, va_Z "jdk/internal/util/Preconditions" "SIOOBE_FORMATTER" "Ljava/util/function/BiFunction;" fv (fun q => s.heap.size ≤ q) s s.heap ∧ fv.category = 1 := by
    rcases hZF with h | ⟨t, h⟩
    · exact ⟨_, h, rfl⟩
    · exact ⟨_, h, rfl⟩
  obtain ⟨fv, hZF, hfv⟩ := hfv
  obtain ⟨adK, adV, hVS, hVt⟩ := vk_Sof (args := #[Value.ref b]) (s := s) (N := 1) (tm := fun _ => .string "RegionWordsModel" 227) (len := [4]) (byt := [[114, 100, 108, 117]]) (A := fun q => s.heap.size ≤ q)
    (fun i hi => by obtain rfl : i = 0 := by omega
                    decide)
    (fun i _ => hs (.exactly (.string "RegionWordsModel" 227) "java/lang/String") (by decide +kernel))
    (fun i _ => hs (.eq (.field (.string "RegionWordsModel" 227) "java/lang/String" "coder" "B") (.int 0)) (by decide +kernel))
    (fun i _ => hs (.arrayOf (.field (.string "RegionWordsModel" 227) "java/lang/String" "value" "[B") .byte) (by decide +kernel))
    (fun i hi => by obtain rfl : i = 0 := by omega
                    exact hs (.eq (.length (.field (.string "RegionWordsModel" 227) "java/lang/String" "value" "[B")) (.int 4)) (by decide +kernel))
    (fun i hi j hj => by
      obtain rfl : i = 0 := by omega
      match j, hj with
      | 0, _ => exact hs (.eq (.elem (.field (.string "RegionWordsModel" 227) "java/lang/String" "value" "[B") (.int 0)) (.int 114)) (by decide +kernel)
      | 1, _ => exact hs (.eq (.elem (.field (.string "RegionWordsModel" 227) "java/lang/String" "value" "[B") (.int 1)) (.int 100)) (by decide +kernel)
      | 2, _ => exact hs (.eq (.elem (.field (.string "RegionWordsModel" 227) "java/lang/String" "value" "[B") (.int 2)) (.int 108)) (by decide +kernel)
      | 3, _ => exact hs (.eq (.elem (.field (.string "RegionWordsModel" 227) "java/lang/String" "value" "[B") (.int 3)) (.int 117)) (by decide +kernel))
    (fun i j hi hj hne => absurd (by omega : i = j) hne) hA0
  have hR : vk_R "RegionWordsModel" 227 "rdlu" (adK 0) s := vk_R.same (U := s) rfl (vk_R.of (tbw0 (i := 1216) (w := .stringRef "RegionWordsModel" 227 "rdlu") hts (by decide +kernel)) (hVt 0 (by decide)))
  refine ⟨ad00 b tSHAPES tRIGHT tLEFT (adK 0) (adV 0), fv, rfl, ⟨hX, hbl, Nat.not_le.mpr hbl⟩, ⟨hZSHAPES, hTSHAPES⟩, ⟨hZRIGHT, hTRIGHT⟩, ⟨hZLEFT, hTLEFT⟩, hZC, hZF, ⟨fun i hi => ?_, fun i j hi hj _ => by omega⟩, ⟨hR, fun i o k x h hl => va_Nw.of rfl (hts _ (List.mem_of_getElem? hl))⟩, va_AO.of (tbw0 (i := 278) (w := .arrayOver (.object "RegionWords$Tape")) hts (by decide +kernel)), hfv⟩
  obtain rfl : i = 0 := by omega
  exact hVS.1 0 (by decide)
set_option maxHeartbeats 4000000 in
set_option maxRecDepth 100000 in
/-- the classes and array classes -/
theorem k_start {s : State} {args : Array Value} (hts : ∀ w ∈ lw_tbl, w.before args s = true) : ∃ (D : va_G) (cA : Nat → ClassId), va_K D vwCl (tysL cA) s := by
  have ht2 : ∀ w ∈ sxTB, w.before args s = true := fun w hw => hts w (List.mem_filter.mp hw).1
  obtain ⟨c0, iS0, hKn0⟩ := u_known (C := RX2) (T := TX2) (N := 17) (n := 17) ht2 lay_RX2 (tbw0 (i := 167) (w := .instantiable RX2 17) hts (by decide +kernel))
  obtain ⟨c1, iS1, hKn1⟩ := u_known (C := RX3) (T := TX3) (N := 4) (n := 4) ht2 lay_RX3 (tbw0 (i := 100) (w := .instantiable RX3 4) hts (by decide +kernel))
  obtain ⟨c2, iS2, hKn2⟩ := u_known (C := RX4) (T := TX4) (N := 3) (n := 3) ht2 lay_RX4 (tbw0 (i := 122) (w := .instantiable RX4 3) hts (by decide +kernel))
  obtain ⟨c3, iS3, hKn3⟩ := u_known (C := RX5) (T := TX5) (N := 4) (n := 4) ht2 lay_RX5 (tbw0 (i := 257) (w := .instantiable RX5 4) hts (by decide +kernel))
  obtain ⟨c4, iS4, hKn4⟩ := u_known (C := RX6) (T := TX6) (N := 7) (n := 7) ht2 lay_RX6 (tbw0 (i := 94) (w := .instantiable RX6 7) hts (by decide +kernel))
  obtain ⟨c5, iS5, hKn5⟩ := u_known (C := RX7) (T := TX7) (N := 6) (n := 6) ht2 lay_RX7 (tbw0 (i := 230) (w := .instantiable RX7 6) hts (by decide +kernel))
  obtain ⟨c6, iS6, hKn6⟩ := u_known (C := RX8) (T := TX8) (N := 3) (n := 3) ht2 lay_RX8 (tbw0 (i := 279) (w := .instantiable RX8 3) hts (by decide +kernel))
  obtain ⟨c7, iS7, hKn7⟩ := u_known (C := RX9) (T := TX9) (N := 7) (n := 7) ht2 lay_RX9 (tbw0 (i := 86) (w := .instantiable RX9 7) hts (by decide +kernel))
  obtain ⟨c8, iS8, hKn8⟩ := u_known (C := RX10) (T := TX10) (N := 34) (n := 34) ht2 lay_RX10 (tbw0 (i := 907) (w := .instantiable RX10 34) hts (by decide +kernel))
  obtain ⟨a0, ka0, kc0, f0, g0, h0⟩ := Cond.arrayClass_spec (tbw0 (i := 120) (w := .arrayClass .int) hts (by decide +kernel))
  obtain ⟨a1, ka1, kc1, f1, g1, h1⟩ := Cond.arrayClass_spec (tbw0 (i := 254) (w := .arrayClass .long) hts (by decide +kernel))
  obtain ⟨a2, ka2, kc2, f2, g2, h2⟩ := Cond.arrayClass_spec (tbw0 (i := 255) (w := .arrayClass .float) hts (by decide +kernel))
  obtain ⟨a3, ka3, kc3, f3, g3, h3⟩ := Cond.arrayClass_spec (tbw0 (i := 1019) (w := .arrayClass .boolean) hts (by decide +kernel))
  obtain ⟨comp, a4, ka4, f4, z4, g4, h4, j4⟩ := Cond.arrayOver_spec (tbw0 (i := 278) (w := .arrayOver (.object "RegionWords$Tape")) hts (by decide +kernel))
  refine ⟨(fun k => if k = 0 then c0 else if k = 1 then c1 else if k = 2 then c2 else if k = 3 then c3 else if k = 4 then c4 else if k = 5 then c5 else if k = 6 then c6 else if k = 7 then c7 else c8, fun k => if k = 0 then iS0 else if k = 1 then iS1 else if k = 2 then iS2 else if k = 3 then iS3 else if k = 4 then iS4 else if k = 5 then iS5 else if k = 6 then iS6 else if k = 7 then iS7 else iS8), fun k => if k = 0 then a0 else if k = 1 then a1 else if k = 2 then a2 else if k = 3 then a3 else a4, ?_, ?_⟩
  · intro k q hq
    match k, hq with
    | 0, hq => cases hq; exact hKn0
    | 1, hq => cases hq; exact hKn1
    | 2, hq => cases hq; exact hKn2
    | 3, hq => cases hq; exact hKn3
    | 4, hq => cases hq; exact hKn4
    | 5, hq => cases hq; exact hKn5
    | 6, hq => cases hq; exact hKn6
    | 7, hq => cases hq; exact hKn7
    | 8, hq => cases hq; exact hKn8
    | k + 9, hq => simp [vwCl] at hq
  · intro k q hq
    match k, hq with
    | 0, hq => cases hq; exact ⟨arrT g0 h0, f0⟩
    | 1, hq => cases hq; exact ⟨arrT g1 h1, f1⟩
    | 2, hq => cases hq; exact ⟨arrT g2 h2, f2⟩
    | 3, hq => cases hq; exact ⟨arrT g3 h3, f3⟩
    | 4, hq => cases hq; exact ⟨arrT g4 h4, ka4, comp, g4, h4, f4, j4⟩
    | k + 5, hq => simp [tysL] at hq
set_option maxHeartbeats 4000000 in
set_option maxRecDepth 100000 in
/-- THE LAW, from its entry, out of the pure statement -/
theorem whole_open (hlaw : LawOK) {p : Program} {e : Env} {s : State} {m : MethodId} {below : List Frame} {meth : Method} {c : Code} (l : Launch) {b L : Nat} {xs : Nat → Int32} (hL : L ≤ 3072) (C0 : lw_At p s m meth c b L xs) : W p l e room_1 s m #[Value.ref b] below meth c s.heap [] 0 0 (lw_Z below #[Value.ref b] s) (entryFrame m ([Value.ref b] : List Value).toArray 4) := by
  obtain ⟨hx, hb, hr, hml, hown, hts, hX, hbl, hlocks, hgv⟩ := C0
  obtain ⟨ad, fv, hadb, hSp⟩ := spf_start hts hX hbl hgv
  obtain ⟨D, cA, hK⟩ := k_start hts
  have hf : fv.category = 1 := hSp.2.2.2.2.2.2.2.2.2
  have hnm : (mNm 257).name = "<init>" → meth.name = "<init>" := fun h => absurd h (by decide)
  have hml2 : mML 257 = 4 := rfl
  have C : Cx p room_1 s m #[Value.ref b] meth c D cA fv (fun q => s.heap.size ≤ q) ad 257 (L, xs) :=
    ⟨hx, hb, hml, hown, fun w hw => hts w (List.mem_filter.mp hw).1, hK, fun q h => h, hSp, hnm, Nat.le_of_ble_eq_true rfl, Nat.le_of_ble_eq_true rfl, Nat.le_of_ble_eq_true rfl, Nat.le_of_ble_eq_true rfl, Nat.le_of_ble_eq_true rfl⟩
  have hX1 : sxWP (L, xs) (sxE (L, xs) 99) (fun r _ => r = some (.int 1)) 257 (0, sxIn [.ref 1000000] (mML 257), [], [], 0, 0) := hlaw L xs hL
  have hd0 := Drawn.sameBut.refl s.drawn lw_cs
  have key := hX1 (SP p l e room_1 s m #[Value.ref b] below meth c (lw_Z below #[Value.ref b] s) D cA fv (fun q => s.heap.size ≤ q) ad 0 257)
    (sim_step C (sim_met l D cA fv (L, xs) 99) (Nat.le_of_ble_eq_true rfl) (Nat.le_of_ble_eq_true rfl) (by
      intro v hp1 pc ad1 H locs ls cu su hR hQ hcu hsu hH1
      subst hQ
      have hdg : decode code pc = .ok (.ireturn, 1) := by
        rcases hR with ⟨x, h1, hdg, -⟩ | ⟨x, h1, -⟩ | ⟨x, h1, -⟩ | ⟨h1, -⟩
        · exact hdg
        · cases h1
        · cases h1
        · cases h1
      refine W.widen (k := 600000) (n := 7302250) hcu hsu ?_
      refine va_forget (fun q h => hH1.2.2.1.2.2 q h) ?_
      exact lw_ret (d0 := s.drawn) hd0 hx hb hr hlocks hdg))
  have h0 : va_P D vwCl (wld ad fv cA []) s.heap := fun k q h => by simp [wld] at h
  have h1 : va_D (fun q => s.heap.size ≤ q) (wld ad fv cA []) := ⟨fun i j p q h => by simp [wld] at h, fun k q h => by simp [wld] at h⟩
  have hH : RH D cA fv (fun q => s.heap.size ≤ q) ad 0 s.heap [] ad s.heap [] := ⟨h0, h1, va_S.rf, (fun c hc => by cases hc), agr.rf, Nat.le_refl _⟩
  have k2 := key ad s.heap [] _ hH (RL.entry (vs := [.ref 1000000]) (nL := mML 257) hf (Nat.le_of_ble_eq_true rfl) (fun v hv => by rw [List.mem_singleton.mp hv]; exact Or.inr (Nat.le_refl _))) (fun v hv => by cases hv)
  have e1 : [Value.ref 1000000].map (rv ad fv) = [Value.ref b] := by
    show [Value.ref (ad 1000000)] = _
    rw [hadb]
  rw [e1] at k2
  rw [lg_entry_eq]
  exact k2
