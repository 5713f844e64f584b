/-! OUR MACHINE: one step over plain values, as a predicate transformer. A state: pc, locals, stack, heap (cells by number), cells and slots made so far. References are numbers of cells; from 1000000 on: the script (+0), SHAPES (+1), RIGHT (+2), LEFT (+3), the text (+4), its bytes (+5); retAddr 0: a reference of which nothing is known -/
abbrev sxH : Type := List va_E
abbrev sxL : Type := List (Option Value)
abbrev sxC : Type := Nat × sxL × List Value × sxH × Nat × Nat
abbrev sxR : Type := Option Value → sxH → Prop
abbrev sxS : Type := Nat × (Nat → Int32)
def sxg : sxH → Nat → Option va_E
  | [], _ => none
  | c :: _, 0 => some c
  | _ :: r, n + 1 => sxg r n
def sxl : sxL → Nat → Option Value
  | [], _ => none
  | c :: _, 0 => c
  | _ :: r, n + 1 => sxl r n
def sxc2 : Option Value → Option Value
  | some (.long _) => none
  | some (.double _) => none
  | x => x
/-- a value of one slot is stored -/
def sxs1 : sxL → Nat → Value → sxL
  | [], _, _ => []
  | _ :: r, 0, v => some v :: r
  | a :: r, 1, v => sxc2 a :: sxs1 r 0 v
  | a :: r, n + 2, v => a :: sxs1 r (n + 1) v
/-- a value of two slots is stored -/
def sxs2 : sxL → Nat → Value → sxL
  | [], _, _ => []
  | [_], 0, v => [some v]
  | _ :: _ :: r, 0, v => some v :: none :: r
  | a :: r, 1, v => sxc2 a :: sxs2 r 0 v
  | a :: r, n + 2, v => a :: sxs2 r (n + 1) v
def pI (st : List Value) (k : Int32 → List Value → Prop) : Prop := match st with
  | .int x :: r => k x r
  | _ => False
def pII (st : List Value) (k : Int32 → Int32 → List Value → Prop) : Prop := match st with
  | .int y :: .int x :: r => k x y r
  | _ => False
def pJ (st : List Value) (k : Int64 → List Value → Prop) : Prop := match st with
  | .long x :: r => k x r
  | _ => False
def pJJ (st : List Value) (k : Int64 → Int64 → List Value → Prop) : Prop := match st with
  | .long y :: .long x :: r => k x y r
  | _ => False
def pJI (st : List Value) (k : Int64 → Int32 → List Value → Prop) : Prop := match st with
  | .int y :: .long x :: r => k x y r
  | _ => False
def pF (st : List Value) (k : UInt32 → List Value → Prop) : Prop := match st with
  | .float x :: r => k x r
  | _ => False
def pFF (st : List Value) (k : UInt32 → UInt32 → List Value → Prop) : Prop := match st with
  | .float y :: .float x :: r => k x y r
  | _ => False
def pD (st : List Value) (k : UInt64 → List Value → Prop) : Prop := match st with
  | .double x :: r => k x r
  | _ => False
def pDD (st : List Value) (k : UInt64 → UInt64 → List Value → Prop) : Prop := match st with
  | .double y :: .double x :: r => k x y r
  | _ => False
def pA (st : List Value) (k : Nat → List Value → Prop) : Prop := match st with
  | .ref x :: r => k x r
  | _ => False
def pIA (st : List Value) (k : Int32 → Nat → List Value → Prop) : Prop := match st with
  | .int i :: .ref a :: r => k i a r
  | _ => False
def pV (st : List Value) (k : Value → List Value → Prop) : Prop := match st with
  | v :: r => k v r
  | _ => False
def qI (o : Option Value) (k : Int32 → Prop) : Prop := match o with
  | some (.int x) => k x
  | _ => False
def qJ (o : Option Value) (k : Int64 → Prop) : Prop := match o with
  | some (.long x) => k x
  | _ => False
def qF (o : Option Value) (k : UInt32 → Prop) : Prop := match o with
  | some (.float x) => k x
  | _ => False
def qD (o : Option Value) (k : UInt64 → Prop) : Prop := match o with
  | some (.double x) => k x
  | _ => False
def qA (o : Option Value) (k : Nat → Prop) : Prop := match o with
  | some (.ref x) => k x
  | _ => False
def vI (v : Value) (k : Int32 → Prop) : Prop := match v with
  | .int x => k x
  | _ => False
/-- the static arrays, and the script -/
def sxSHAPES : Nat → Int64 := fun j => ([3, 65, 7, 4161, 67, 131, 193, 97] : List Int64).getD j 0
def sxRIGHT : Nat → Int32 := fun j => ([1, 0, 2, 0, 1, 1, 1, 0] : List Int32).getD j 0
def sxLEFT : Nat → Int32 := fun j => ([0, 0, 0, 0, 0, 0, 0, 1] : List Int32).getD j 0
def sxRDLU : Nat → Int32 := fun j => ([114, 100, 108, 117] : List Int32).getD j 0
/-- an array of ints (of 0 ints, 3 booleans): its length and contents -/
def hI (sc : sxS) (hp : sxH) (a : Nat) (k : Nat → (Nat → Int32) → Prop) : Prop := match Nat.ble 1000000 a with
  | true => match a - 1000000 with
    | 0 => k sc.1 sc.2
    | 2 => k 8 sxRIGHT
    | 3 => k 8 sxLEFT
    | _ => False
  | false => match sxg hp a with
    | some (.inl (0, n, .inl f)) => k n f
    | _ => False
def hB (hp : sxH) (a : Nat) (k : Nat → (Nat → Int32) → Prop) : Prop := match Nat.ble 1000000 a with
  | true => match a - 1000000 with
    | 5 => k 4 sxRDLU
    | _ => False
  | false => match sxg hp a with
    | some (.inl (3, n, .inl f)) => k n f
    | _ => False
def hJ (hp : sxH) (a : Nat) (k : Nat → (Nat → Int64) → Prop) : Prop := match Nat.ble 1000000 a with
  | true => match a - 1000000 with
    | 1 => k 8 sxSHAPES
    | _ => False
  | false => match sxg hp a with
    | some (.inl (1, n, .inr (.inl f))) => k n f
    | _ => False
def hF (hp : sxH) (a : Nat) (k : Nat → (Nat → UInt32) → Prop) : Prop := match sxg hp a with
  | some (.inl (2, n, .inr (.inr (.inl f)))) => k n f
  | _ => False
def hA (hp : sxH) (a : Nat) (k : Nat → (Nat → Option Nat) → Prop) : Prop := match sxg hp a with
  | some (.inl (4, n, .inr (.inr (.inr (.inr f))))) => k n f
  | _ => False
/-- any array's length -/
def hN (sc : sxS) (hp : sxH) (a : Nat) (k : Nat → Prop) : Prop := match Nat.ble 1000000 a with
  | true => match a - 1000000 with
    | 0 => k sc.1
    | 1 => k 8
    | 2 => k 8
    | 3 => k 8
    | 5 => k 4
    | _ => False
  | false => match sxg hp a with
    | some (.inl (t, n, _)) => match Nat.ble t 4 with
      | true => k n
      | false => False
    | _ => False
/-- an object of a class -/
def hO (hp : sxH) (a ci : Nat) (k : List Value → Prop) : Prop := match Nat.ble 1000000 a with
  | true => False
  | false => match sxg hp a with
    | some (.inr (c, fs)) => match Nat.beq c ci with
      | true => k fs
      | false => False
    | _ => False
def fV (fs : List Value) (i : Nat) (k : Value → Prop) : Prop := match fs[i]? with
  | some v => k v
  | none => False
/-- whether a field (of an own class) takes a value -/
def sxFT (ci k : Nat) : FieldType := match ci with
  | 0 => tyX2 k
  | 1 => tyX3 k
  | 2 => tyX4 k
  | 3 => tyX5 k
  | 4 => tyX6 k
  | 5 => tyX7 k
  | 6 => tyX8 k
  | 7 => tyX9 k
  | _ => tyX10 k
def sxFit (ty : FieldType) (v : Value) (P : Prop) : Prop := match ty, v with
  | .int, .int _ => P
  | .long, .long _ => P
  | .float, .float _ => P
  | .boolean, .int x => (x = 0 ∨ x = 1) ∧ P
  | .object _, .ref _ => P
  | .array _, .ref _ => P
  | _, _ => False
def sxRet (ty : Option FieldType) (v : Int32) (P : Prop) : Prop := match ty with
  | some .int => P
  | some .boolean => (v = 0 ∨ v = 1) ∧ P
  | some .char => narrow .char (.int v) = .int v ∧ P
  | _ => False
def sxDef (ty : FieldType) : Value := match ty with
  | .int => .int 0
  | .boolean => .int 0
  | .long => .long 0
  | .float => .float 0
  | _ => .null
def sxNew (ci : Nat) : List Value := (List.range (sxNF ci)).map (fun k => sxDef (sxFT ci k))
def sxArr (t n : Nat) : vp_A := match t with
  | 0 => (n, .inl (fun _ => 0))
  | 1 => (n, .inr (.inl (fun _ => 0)))
  | 2 => (n, .inr (.inr (.inl (fun _ => 0))))
  | 3 => (n, .inl (fun _ => 0))
  | _ => (n, .inr (.inr (.inr (.inr (fun _ => none)))))
/-- where a switch goes -/
def swT (x : Int) (lo : Int) : List Nat → Nat → Nat
  | [], d => d
  | t :: r, d => if x = lo then t else swT x (lo + 1) r d
def swL (x : Int) : List (Int × Int) → List Nat → Nat → Nat
  | q :: ps, t :: r, d => if x = q.1 then t else swL x ps r d
  | _, _, d => d
def sxCat (st : List Value) : Nat := (st.map fun v => v.category).sum
/-- System.arraycopy -/
def sxCpy (hp : sxH) (st : List Value) (k : sxH → List Value → Prop) : Prop := match st with
  | .int n :: .int dp :: .ref a :: .int sp :: .ref a0 :: r => match Nat.ble 1000000 a || Nat.ble 1000000 a0 with
    | true => False
    | false => match sxg hp a0, sxg hp a with
      | some (.inl (0, n0, .inl f)), some (.inl (0, n1, .inl g)) => (0 ≤ sp ∧ 0 ≤ dp ∧ 0 ≤ n ∧ sp.toNatClampNeg + n.toNatClampNeg ≤ n0 ∧ dp.toNatClampNeg + n.toNatClampNeg ≤ n1) ∧ k (hp.set a (.inl (0, n1, .inl (va_cpy f g sp.toNatClampNeg dp.toNatClampNeg n.toNatClampNeg)))) r
      | some (.inl (1, n0, .inr (.inl f))), some (.inl (1, n1, .inr (.inl g))) => (0 ≤ sp ∧ 0 ≤ dp ∧ 0 ≤ n ∧ sp.toNatClampNeg + n.toNatClampNeg ≤ n0 ∧ dp.toNatClampNeg + n.toNatClampNeg ≤ n1) ∧ k (hp.set a (.inl (1, n1, .inr (.inl (va_cpy f g sp.toNatClampNeg dp.toNatClampNeg n.toNatClampNeg))))) r
      | _, _ => False
  | _ => False
abbrev sxX : Type := Nat → List Value → sxH → sxR → Prop
/-- the first n of the stack, turned round, and the rest -/
def sxPop : Nat → List Value → List Value → (List Value → List Value → Prop) → Prop
  | 0, st, As, k => k As st
  | n + 1, v :: st, As, k => sxPop n st (v :: As) k
  | _ + 1, [], _, _ => False
/-- a call of an own method -/
def sxCall (call : sxX) (y : Nat) (P : sxC → Prop) (dat : List Nat) (pc : Nat) (L : sxL) (As rest : List Value) (hp : sxH) (cu su : Nat) : Prop :=
  match Nat.ble (sxCat rest) 8 && (Nat.ble (cu + mMc (sd0 dat)) (mMc y) && Nat.ble (su + mMs (sd0 dat)) (mMs y)) with
  | true => call (sd0 dat) As hp (fun r hp' => P (pc + 3, L, r.toList ++ rest, hp', cu + mMc (sd0 dat), su + mMs (sd0 dat)))
  | false => False
/-- what isn't numbers alone: heap, calls, ends -/
def sxJ (sc : sxS) (call : sxX) (Q : sxR) (y : Nat) (P : sxC → Prop) (i : Instr) (dat : List Nat) (kv : Value) (pc : Nat) (L : sxL) (st : List Value) (hp : sxH) (cu su : Nat) : Prop := match i with
  | .getfield _ => pA st fun a r => match dat with
    | [ci, k, _] => hO hp a ci fun fs => fV fs k fun v => P (pc + 3, L, v :: r, hp, cu, su)
    | [0, _] => match Nat.beq a 1000004 with
      | true => P (pc + 3, L, .ref 1000005 :: r, hp, cu, su)
      | false => False
    | [1, _] => match Nat.beq a 1000004 with
      | true => P (pc + 3, L, .int 0 :: r, hp, cu, su)
      | false => False
    | _ => False
  | .putfield _ => pV st fun v r0 => pA r0 fun a r => hO hp a (sd0 dat) fun fs => match Nat.blt (sd1 dat) fs.length with
    | true => sxFit (sxFT (sd0 dat) (sd1 dat)) v (P (pc + 3, L, r, hp.set a (.inr (sd0 dat, fs.set (sd1 dat) v)), cu, su))
    | false => False
  | .getstatic _ => match sd0 dat with
    | 0 => P (pc + 3, L, .ref 1000001 :: st, hp, cu, su)
    | 1 => P (pc + 3, L, .ref 1000002 :: st, hp, cu, su)
    | 2 => P (pc + 3, L, .ref 1000003 :: st, hp, cu, su)
    | 3 => P (pc + 3, L, .int 1 :: st, hp, cu, su)
    | 4 => P (pc + 3, L, .retAddr 0 :: st, hp, cu, su)
    | _ => False
  | .iaload => pIA st fun ix a r => hI sc hp a fun n f => vp_in ix n ∧ P (pc + 1, L, .int (f ix.toNatClampNeg) :: r, hp, cu, su)
  | .baload => pIA st fun ix a r => hB hp a fun n f => vp_in ix n ∧ P (pc + 1, L, .int (f ix.toNatClampNeg) :: r, hp, cu, su)
  | .laload => pIA st fun ix a r => hJ hp a fun n f => vp_in ix n ∧ P (pc + 1, L, .long (f ix.toNatClampNeg) :: r, hp, cu, su)
  | .faload => pIA st fun ix a r => hF hp a fun n f => vp_in ix n ∧ P (pc + 1, L, .float (f ix.toNatClampNeg) :: r, hp, cu, su)
  | .aaload => pIA st fun ix a r => hA hp a fun n f => vp_in ix n ∧ P (pc + 1, L, va_rf (f ix.toNatClampNeg) :: r, hp, cu, su)
  | .arraylength => pA st fun a r => hN sc hp a fun n => P (pc + 1, L, .int (Int32.ofNat n) :: r, hp, cu, su)
  | .iastore => pI st fun x r0 => pIA r0 fun ix a r => match sxg hp a with
    | some (.inl (0, n, .inl f)) => vp_in ix n ∧ P (pc + 1, L, r, hp.set a (.inl (0, n, .inl (upd f ix.toNatClampNeg x))), cu, su)
    | _ => False
  | .bastore => pI st fun x r0 => pIA r0 fun ix a r => match sxg hp a with
    | some (.inl (3, n, .inl f)) => vp_in ix n ∧ (x = 0 ∨ x = 1) ∧ P (pc + 1, L, r, hp.set a (.inl (3, n, .inl (upd f ix.toNatClampNeg x))), cu, su)
    | _ => False
  | .lastore => pJ st fun x r0 => pIA r0 fun ix a r => match sxg hp a with
    | some (.inl (1, n, .inr (.inl f))) => vp_in ix n ∧ P (pc + 1, L, r, hp.set a (.inl (1, n, .inr (.inl (vp_updL f ix.toNatClampNeg x)))), cu, su)
    | _ => False
  | .fastore => pF st fun x r0 => pIA r0 fun ix a r => match sxg hp a with
    | some (.inl (2, n, .inr (.inr (.inl f)))) => vp_in ix n ∧ P (pc + 1, L, r, hp.set a (.inl (2, n, .inr (.inr (.inl (vf_upd f ix.toNatClampNeg x))))), cu, su)
    | _ => False
  | .aastore => pA st fun x r0 => pIA r0 fun ix a r => match sxg hp a, sxg hp x with
    | some (.inl (4, n, .inr (.inr (.inr (.inr f))))), some (.inr (6, _)) => vp_in ix n ∧ P (pc + 1, L, r, hp.set a (.inl (4, n, .inr (.inr (.inr (.inr (va_up f ix.toNatClampNeg (some x))))))), cu, su)
    | _, _ => False
  | .new _ => match Nat.ble (cu + 1) (mMc y) && Nat.ble (su + sxNF (sd0 dat)) (mMs y) with
    | true => hp.length < 1000000 ∧ P (pc + 3, L, .ref hp.length :: st, hp ++ [.inr (sd0 dat, sxNew (sd0 dat))], cu + 1, su + sxNF (sd0 dat))
    | false => False
  | .newarray _ => pI st fun n r => ((¬ n < 0) ∧ n.toNatClampNeg ≤ 65536 ∧ cu + 1 ≤ mMc y ∧ su + n.toNatClampNeg ≤ mMs y ∧ hp.length < 1000000) ∧ P (pc + 2, L, .ref hp.length :: r, hp ++ [.inl (sd0 dat, sxArr (sd0 dat) n.toNatClampNeg)], cu + 1, su + n.toNatClampNeg)
  | .anewarray _ => pI st fun n r => ((¬ n < 0) ∧ n.toNatClampNeg ≤ 65536 ∧ cu + 1 ≤ mMc y ∧ su + n.toNatClampNeg ≤ mMs y ∧ hp.length < 1000000) ∧ P (pc + 3, L, .ref hp.length :: r, hp ++ [.inl (4, sxArr 4 n.toNatClampNeg)], cu + 1, su + n.toNatClampNeg)
  | .invokevirtual _ => sxPop (sd1 dat) st [] fun As r0 => pA r0 fun a r => match Nat.beq a 1000004 with
    | true => match (mNm (sd0 dat)).cls == "java/lang/String" with
      | true => sxCall call y P dat pc L (.ref a :: As) r hp cu su
      | false => False
    | false => match sxg hp a with
      | some (.inr (ci, _)) => match vwCl[ci]? with
        | some q => match q.1 == (mNm (sd0 dat)).cls with
          | true => sxCall call y P dat pc L (.ref a :: As) r hp cu su
          | false => False
        | none => False
      | _ => False
  | .invokespecial _ => match dat with
    | [0, _, _, _] => match Nat.ble (sxCat st) 9 with
      | true => pA st fun _ r => P (pc + 3, L, r, hp, cu, su)
      | false => False
    | _ => sxPop (sd1 dat) st [] fun As r0 => pA r0 fun a r => sxCall call y P dat pc L (.ref a :: As) r hp cu su
  | .invokestatic _ => match dat with
    | [0, _, _, _, _] => match Nat.ble (sxCat st) 16 with
      | true => sxCpy hp st fun hp' r => P (pc + 3, L, r, hp', cu, su)
      | false => False
    | [1, _, _, _, _] => match Nat.ble (sxCat st) 16 with
      | true => pF st fun b r => P (pc + 3, L, .int b.toInt32 :: r, hp, cu, su)
      | false => False
    | [2, _, _, _, _] => match Nat.ble (sxCat st) 16 with
      | true => pD st fun b r => P (pc + 3, L, .long b.toInt64 :: r, hp, cu, su)
      | false => False
    | _ => sxPop (sd1 dat) st [] fun As r => sxCall call y P dat pc L As r hp cu su
  | .ireturn => match Nat.ble cu (mMc y) && Nat.ble su (mMs y) with
    | true => match st with
      | [.int v] => sxRet (mRt y) v (Q (some (.int v)) hp)
      | _ => False
    | false => False
  | .lreturn => match Nat.ble cu (mMc y) && Nat.ble su (mMs y) with
    | true => match st, mRt y with
      | [.long v], some .long => Q (some (.long v)) hp
      | _, _ => False
    | false => False
  | .freturn => match Nat.ble cu (mMc y) && Nat.ble su (mMs y) with
    | true => match st, mRt y with
      | [.float v], some .float => Q (some (.float v)) hp
      | _, _ => False
    | false => False
  | .return_ => match Nat.ble cu (mMc y) && Nat.ble su (mMs y) with
    | true => match st, mRt y with
      | [], none => Q none hp
      | _, _ => False
    | false => False
  | _ => False
/-- numbers, locals, jumps -/
def sxI (sc : sxS) (call : sxX) (Q : sxR) (y : Nat) (P : sxC → Prop) (i : Instr) (dat : List Nat) (kv : Value) (pc : Nat) (L : sxL) (st : List Value) (hp : sxH) (cu su : Nat) : Prop := match i with
  | .iconst _ => P (pc + 1, L, kv :: st, hp, cu, su)
  | .bipush _ => P (pc + 2, L, kv :: st, hp, cu, su)
  | .sipush _ => P (pc + 3, L, kv :: st, hp, cu, su)
  | .lconst _ => P (pc + 1, L, kv :: st, hp, cu, su)
  | .fconst _ => P (pc + 1, L, kv :: st, hp, cu, su)
  | .dconst _ => P (pc + 1, L, kv :: st, hp, cu, su)
  | .ldc _ => P (pc + 2, L, kv :: st, hp, cu, su)
  | .ldc_w _ => P (pc + 3, L, kv :: st, hp, cu, su)
  | .ldc2_w _ => P (pc + 3, L, kv :: st, hp, cu, su)
  | .iload_n k => qI (sxl L k.1) fun x => P (pc + 1, L, .int x :: st, hp, cu, su)
  | .iload k => qI (sxl L k) fun x => P (pc + 2, L, .int x :: st, hp, cu, su)
  | .lload_n k => qJ (sxl L k.1) fun x => P (pc + 1, L, .long x :: st, hp, cu, su)
  | .lload k => qJ (sxl L k) fun x => P (pc + 2, L, .long x :: st, hp, cu, su)
  | .fload_n k => qF (sxl L k.1) fun x => P (pc + 1, L, .float x :: st, hp, cu, su)
  | .fload k => qF (sxl L k) fun x => P (pc + 2, L, .float x :: st, hp, cu, su)
  | .dload_n k => qD (sxl L k.1) fun x => P (pc + 1, L, .double x :: st, hp, cu, su)
  | .dload k => qD (sxl L k) fun x => P (pc + 2, L, .double x :: st, hp, cu, su)
  | .aload_n k => qA (sxl L k.1) fun x => P (pc + 1, L, .ref x :: st, hp, cu, su)
  | .aload k => qA (sxl L k) fun x => P (pc + 2, L, .ref x :: st, hp, cu, su)
  | .istore_n k => pI st fun x r => P (pc + 1, sxs1 L k.1 (.int x), r, hp, cu, su)
  | .istore k => pI st fun x r => P (pc + 2, sxs1 L k (.int x), r, hp, cu, su)
  | .lstore_n k => pJ st fun x r => P (pc + 1, sxs2 L k.1 (.long x), r, hp, cu, su)
  | .lstore k => pJ st fun x r => P (pc + 2, sxs2 L k (.long x), r, hp, cu, su)
  | .fstore_n k => pF st fun x r => P (pc + 1, sxs1 L k.1 (.float x), r, hp, cu, su)
  | .fstore k => pF st fun x r => P (pc + 2, sxs1 L k (.float x), r, hp, cu, su)
  | .dstore_n k => pD st fun x r => P (pc + 1, sxs2 L k.1 (.double x), r, hp, cu, su)
  | .dstore k => pD st fun x r => P (pc + 2, sxs2 L k (.double x), r, hp, cu, su)
  | .astore_n k => pA st fun x r => P (pc + 1, sxs1 L k.1 (.ref x), r, hp, cu, su)
  | .astore k => pA st fun x r => P (pc + 2, sxs1 L k (.ref x), r, hp, cu, su)
  | .iinc k _ => qI (sxl L k) fun x => vI kv fun n => P (pc + 3, sxs1 L k (.int (x + n)), st, hp, cu, su)
  | .iadd => pII st fun x y r => P (pc + 1, L, .int (x + y) :: r, hp, cu, su)
  | .isub => pII st fun x y r => P (pc + 1, L, .int (x - y) :: r, hp, cu, su)
  | .imul => pII st fun x y r => P (pc + 1, L, .int (x * y) :: r, hp, cu, su)
  | .iand => pII st fun x y r => P (pc + 1, L, .int (x &&& y) :: r, hp, cu, su)
  | .ior => pII st fun x y r => P (pc + 1, L, .int (x ||| y) :: r, hp, cu, su)
  | .ixor => pII st fun x y r => P (pc + 1, L, .int (x ^^^ y) :: r, hp, cu, su)
  | .idiv => pII st fun x y r => ¬ y = 0 ∧ P (pc + 1, L, .int (x / y) :: r, hp, cu, su)
  | .irem => pII st fun x y r => ¬ y = 0 ∧ P (pc + 1, L, .int (x - x / y * y) :: r, hp, cu, su)
  | .ishl => pII st fun x y r => P (pc + 1, L, .int (x <<< (y &&& 31)) :: r, hp, cu, su)
  | .ishr => pII st fun x y r => P (pc + 1, L, .int (x >>> (y &&& 31)) :: r, hp, cu, su)
  | .iushr => pII st fun x y r => P (pc + 1, L, .int ((x.toUInt32 >>> (y.toUInt32 &&& Int32.toUInt32 31)).toInt32) :: r, hp, cu, su)
  | .ineg => pI st fun x r => P (pc + 1, L, .int (-x) :: r, hp, cu, su)
  | .ladd => pJJ st fun x y r => P (pc + 1, L, .long (x + y) :: r, hp, cu, su)
  | .lsub => pJJ st fun x y r => P (pc + 1, L, .long (x - y) :: r, hp, cu, su)
  | .land => pJJ st fun x y r => P (pc + 1, L, .long (x &&& y) :: r, hp, cu, su)
  | .lor => pJJ st fun x y r => P (pc + 1, L, .long (x ||| y) :: r, hp, cu, su)
  | .lxor => pJJ st fun x y r => P (pc + 1, L, .long (x ^^^ y) :: r, hp, cu, su)
  | .ldiv => pJJ st fun x y r => ¬ y = 0 ∧ P (pc + 1, L, .long (x / y) :: r, hp, cu, su)
  | .lrem => pJJ st fun x y r => ¬ y = 0 ∧ P (pc + 1, L, .long (x - x / y * y) :: r, hp, cu, su)
  | .lneg => pJ st fun x r => P (pc + 1, L, .long (-x) :: r, hp, cu, su)
  | .lshl => pJI st fun x y r => P (pc + 1, L, .long (x <<< (y.toInt64 &&& 63)) :: r, hp, cu, su)
  | .lshr => pJI st fun x y r => P (pc + 1, L, .long (x >>> (y.toInt64 &&& 63)) :: r, hp, cu, su)
  | .lushr => pJI st fun x y r => P (pc + 1, L, .long ((x.toUInt64 >>> (y.toInt64.toUInt64 &&& Int64.toUInt64 63)).toInt64) :: r, hp, cu, su)
  | .lcmp => pJJ st fun x y r => P (pc + 1, L, .int (lg_cmp x y) :: r, hp, cu, su)
  | .i2l => pI st fun x r => P (pc + 1, L, .long x.toInt64 :: r, hp, cu, su)
  | .l2i => pJ st fun x r => P (pc + 1, L, .int x.toInt32 :: r, hp, cu, su)
  | .i2b => pI st fun x r => P (pc + 1, L, .int x.toInt8.toInt32 :: r, hp, cu, su)
  | .i2s => pI st fun x r => P (pc + 1, L, .int x.toInt16.toInt32 :: r, hp, cu, su)
  | .i2c => pI st fun x r => P (pc + 1, L, .int (x.toUInt32 % 65536).toInt32 :: r, hp, cu, su)
  | .i2f => pI st fun x r => P (pc + 1, L, .float (FP.i2f x) :: r, hp, cu, su)
  | .i2d => pI st fun x r => P (pc + 1, L, .double (FP.i2d x) :: r, hp, cu, su)
  | .f2i => pF st fun x r => P (pc + 1, L, .int (FP.f2i x) :: r, hp, cu, su)
  | .d2l => pD st fun x r => P (pc + 1, L, .long (FP.d2l x) :: r, hp, cu, su)
  | .fadd => pFF st fun x y r => vf_n32 (FP.fadd x y) ∧ P (pc + 1, L, .float (FP.fadd x y) :: r, hp, cu, su)
  | .fsub => pFF st fun x y r => vf_n32 (FP.fsub x y) ∧ P (pc + 1, L, .float (FP.fsub x y) :: r, hp, cu, su)
  | .fmul => pFF st fun x y r => vf_n32 (FP.fmul x y) ∧ P (pc + 1, L, .float (FP.fmul x y) :: r, hp, cu, su)
  | .fdiv => pFF st fun x y r => vf_n32 (FP.fdiv x y) ∧ P (pc + 1, L, .float (FP.fdiv x y) :: r, hp, cu, su)
  | .dsub => pDD st fun x y r => vf_n64 (FP.dsub x y) ∧ P (pc + 1, L, .double (FP.dsub x y) :: r, hp, cu, su)
  | .dmul => pDD st fun x y r => vf_n64 (FP.dmul x y) ∧ P (pc + 1, L, .double (FP.dmul x y) :: r, hp, cu, su)
  | .ddiv => pDD st fun x y r => vf_n64 (FP.ddiv x y) ∧ P (pc + 1, L, .double (FP.ddiv x y) :: r, hp, cu, su)
  | .dneg => pD st fun x r => P (pc + 1, L, .double (FP.dneg x) :: r, hp, cu, su)
  | .fcmp op => pFF st fun x y r => P (pc + 1, L, .int (Op.cmpValue (FP.fcmp x y) op) :: r, hp, cu, su)
  | .dcmp op => pDD st fun x y r => P (pc + 1, L, .int (Op.cmpValue (FP.dcmp x y) op) :: r, hp, cu, su)
  | .dup => pV st fun v r => match Nat.beq v.category 1 with
    | true => P (pc + 1, L, v :: v :: r, hp, cu, su)
    | false => False
  | .dup2 => pV st fun v r0 => pV r0 fun w r => match Nat.beq v.category 1 && Nat.beq w.category 1 with
    | true => P (pc + 1, L, v :: w :: v :: w :: r, hp, cu, su)
    | false => False
  | .pop => pV st fun v r => match Nat.beq v.category 1 with
    | true => P (pc + 1, L, r, hp, cu, su)
    | false => False
  | .goto _ => P (sd0 dat, L, st, hp, cu, su)
  | .ifCond c _ => pI st fun x r => match c with
    | .eq => (x = 0 → P (sd0 dat, L, r, hp, cu, su)) ∧ (¬ x = 0 → P (pc + 3, L, r, hp, cu, su))
    | .ne => (¬ x = 0 → P (sd0 dat, L, r, hp, cu, su)) ∧ (x = 0 → P (pc + 3, L, r, hp, cu, su))
    | .lt => (x < 0 → P (sd0 dat, L, r, hp, cu, su)) ∧ (¬ x < 0 → P (pc + 3, L, r, hp, cu, su))
    | .ge => (0 ≤ x → P (sd0 dat, L, r, hp, cu, su)) ∧ (¬ 0 ≤ x → P (pc + 3, L, r, hp, cu, su))
    | .gt => (0 < x → P (sd0 dat, L, r, hp, cu, su)) ∧ (¬ 0 < x → P (pc + 3, L, r, hp, cu, su))
    | .le => (x ≤ 0 → P (sd0 dat, L, r, hp, cu, su)) ∧ (¬ x ≤ 0 → P (pc + 3, L, r, hp, cu, su))
  | .if_icmp c _ => pII st fun x y r => match c with
    | .eq => (x = y → P (sd0 dat, L, r, hp, cu, su)) ∧ (¬ x = y → P (pc + 3, L, r, hp, cu, su))
    | .ne => (¬ x = y → P (sd0 dat, L, r, hp, cu, su)) ∧ (x = y → P (pc + 3, L, r, hp, cu, su))
    | .lt => (x < y → P (sd0 dat, L, r, hp, cu, su)) ∧ (¬ x < y → P (pc + 3, L, r, hp, cu, su))
    | .ge => (y ≤ x → P (sd0 dat, L, r, hp, cu, su)) ∧ (¬ y ≤ x → P (pc + 3, L, r, hp, cu, su))
    | .gt => (y < x → P (sd0 dat, L, r, hp, cu, su)) ∧ (¬ y < x → P (pc + 3, L, r, hp, cu, su))
    | .le => (x ≤ y → P (sd0 dat, L, r, hp, cu, su)) ∧ (¬ x ≤ y → P (pc + 3, L, r, hp, cu, su))
  | .tableswitch _ lo _ _ => pI st fun x r => P (swT x.toInt lo dat.tail (sd0 dat), L, r, hp, cu, su)
  | .lookupswitch _ ps => pI st fun x r => P (swL x.toInt ps.toList dat.tail (sd0 dat), L, r, hp, cu, su)
  | i => sxJ sc call Q y P i dat kv pc L st hp cu su
def sxF (sc : sxS) (call : sxX) (Q : sxR) (y : Nat) (P : sxC → Prop) (c : sxC) : Prop := match mOp y c.1 with
  | none => False
  | some o => sxI sc call Q y P o.1 o.2.2.1 o.2.2.2 c.1 c.2.1 c.2.2.1 c.2.2.2.1 c.2.2.2.2.1 c.2.2.2.2.2
/-- from a state the method comes to its end with Q: the least predicate that a step back keeps -/
def sxWP (sc : sxS) (call : sxX) (Q : sxR) (y : Nat) (c : sxC) : Prop := ∀ P : sxC → Prop, (∀ c, sxF sc call Q y P c → P c) → P c
/-- the locals at the start -/
def sxIn : List Value → Nat → sxL
  | [], n => List.replicate n none
  | .long v :: r, n => some (.long v) :: none :: sxIn r (n - 2)
  | .double v :: r, n => some (.double v) :: none :: sxIn r (n - 2)
  | v :: r, n => some v :: sxIn r (n - 1)
/-- a method, at most d frames deep -/
def sxE (sc : sxS) : Nat → sxX
  | 0 => fun _ _ _ _ => False
  | d + 1 => fun y As hp Q => match Nat.ble (sxCat As) (mML y) with
    | true => sxWP sc (sxE sc d) Q y (0, sxIn As (mML y), [], hp, 0, 0)
    | false => False
