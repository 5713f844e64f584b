/-! what a program decides of the tables: each entry is what decode says, and its numbers are those of the words -/
def lk (i : Nat) : Option Jvm.Cond := lw_tbl[i]?
def sxCs (y : Nat) : String := (mNm y).cls
/-- an own method that may be called: its words -/
def sxCd (y : Nat) : Prop := lk (sd1 (mPl y)) = some (.code (mNm y) (mBy y) (mML y) (mRt y))
def sxMOk (y : Nat) : Bool :=
  (decide (lk (sd2 (mPl y)) = some (.initialized (mNm y).cls)) &&
  (decide ((mNm y).cls ≠ "java/lang/invoke/MethodHandle" ∧ (mNm y).cls ≠ "java/lang/invoke/VarHandle" ∧ (parseMethodDescriptor (mNm y).desc).map (fun d => d.parameters.length) = some (mNp y)) && (plainFor (mNm y) &&
  (Nat.ble (mML y) 40 && (match mPl y with
    | [1, _, _, i, j] => decide (lk i = some (.instanceMethod (mNm y)) ∧ lk j = some (.selects (mNm y).cls (mNm y) (mNm y)))
    | [2, _, _, i] => decide (lk i = some (.static (mNm y)))
    | [3, _, _, i] => decide (lk i = some (.instanceMethod (mNm y)) ∧ (mNm y).name = "<init>" ∧ mRt y = none)
    | _ => false)))))
def sxNest : String := "RegionWords"
def sxLink (y idx : Nat) (dat : List Nat) : Bool := match dat with
  | [t, n, pl, 0] => Nat.blt t 257 && (Nat.beq n (mNp t) && decide (lk pl = some (.methodLink (sxCs y) idx (mNm t))))
  | [t, n, pl, 1] => Nat.blt t 257 && (Nat.beq n (mNp t) && decide (lk pl = some (.methodLinkNest (sxCs y) idx (mNm t) sxNest)))
  | _ => false
def sxFld (y idx : Nat) (dat : List Nat) (put : Bool) : Bool := match dat with
  | [ci, k, pl] => match vwCl[ci]? with
    | some q => Nat.blt k q.2.2 && (decide (lk pl = some (.fieldLink (sxCs y) idx q.1 (q.2.1 k).2.1 (q.2.1 k).2.2.1)) && (decide ((q.2.1 k).1 = q.1) && (!put || !(q.2.1 k).2.2.2 || (decide ((mNm y).name = "<init>") && decide (q.1 = sxCs y)))))
    | none => false
  | [0, pl] => !put && decide (lk pl = some (.fieldLink (sxCs y) idx "java/lang/String" "value" "[B"))
  | [1, pl] => !put && decide (lk pl = some (.fieldLink (sxCs y) idx "java/lang/String" "coder" "B"))
  | _ => false
def sxGd (y pc : Nat) (i : Instr) (len : Nat) (dat : List Nat) (kv : Value) : Bool := match i with
  | .iconst n => Nat.beq len 1 && decide (kv = .int (Int32.ofInt n))
  | .bipush n => Nat.beq len 2 && decide (kv = .int (Int8.ofInt n).toInt32)
  | .sipush n => Nat.beq len 3 && decide (kv = .int (Int16.ofInt n).toInt32)
  | .lconst n => Nat.beq len 1 && decide (kv = .long (Int64.ofNat n.1))
  | .fconst n => Nat.beq len 1 && decide ((n = 0 ∧ kv = .float FP.fconst0) ∨ (n = 1 ∧ kv = .float FP.fconst1) ∨ (n = 2 ∧ kv = .float FP.fconst2))
  | .dconst n => Nat.beq len 1 && decide ((n = 0 ∧ kv = .double FP.dconst0) ∨ (n = 1 ∧ kv = .double FP.dconst1))
  | .ldc idx => Nat.beq len 2 && (match kv with
    | .int v => decide (lk (sd0 dat) = some (.constant (sxCs y) idx v))
    | .float v => decide (lk (sd0 dat) = some (.constantFloat (sxCs y) idx v))
    | .ref a => decide (a = 1000004 ∧ sxCs y = "RegionWordsModel" ∧ idx = 227)
    | _ => false)
  | .ldc_w idx => Nat.beq len 3 && (match kv with
    | .int v => decide (lk (sd0 dat) = some (.constant (sxCs y) idx v))
    | .float v => decide (lk (sd0 dat) = some (.constantFloat (sxCs y) idx v))
    | _ => false)
  | .ldc2_w idx => Nat.beq len 3 && (match kv with
    | .long v => decide (lk (sd0 dat) = some (.constantLong (sxCs y) idx v))
    | .double v => decide (lk (sd0 dat) = some (.constantDouble (sxCs y) idx v))
    | _ => false)
  | .iload_n _ => Nat.beq len 1
  | .iload _ => Nat.beq len 2
  | .lload_n _ => Nat.beq len 1
  | .lload _ => Nat.beq len 2
  | .fload_n _ => Nat.beq len 1
  | .fload _ => Nat.beq len 2
  | .dload_n _ => Nat.beq len 1
  | .dload _ => Nat.beq len 2
  | .aload_n _ => Nat.beq len 1
  | .aload _ => Nat.beq len 2
  | .istore_n k => Nat.beq len 1 && Nat.blt k.1 (mML y)
  | .istore k => Nat.beq len 2 && Nat.blt k (mML y)
  | .lstore_n k => Nat.beq len 1 && Nat.blt (k.1 + 1) (mML y)
  | .lstore k => Nat.beq len 2 && Nat.blt (k + 1) (mML y)
  | .fstore_n k => Nat.beq len 1 && Nat.blt k.1 (mML y)
  | .fstore k => Nat.beq len 2 && Nat.blt k (mML y)
  | .dstore_n k => Nat.beq len 1 && Nat.blt (k.1 + 1) (mML y)
  | .dstore k => Nat.beq len 2 && Nat.blt (k + 1) (mML y)
  | .astore_n k => Nat.beq len 1 && Nat.blt k.1 (mML y)
  | .astore k => Nat.beq len 2 && Nat.blt k (mML y)
  | .iinc k n => Nat.beq len 3 && (Nat.blt k (mML y) && decide (kv = .int (Int32.ofInt n)))
  | .goto off => Nat.beq len 3 && decide ((pc : Int) + off = (sd0 dat : Int))
  | .ifCond _ off => Nat.beq len 3 && decide ((pc : Int) + off = (sd0 dat : Int))
  | .if_icmp _ off => Nat.beq len 3 && decide ((pc : Int) + off = (sd0 dat : Int))
  | .tableswitch d lo hi offs => decide ((pc : Int) + d = (sd0 dat : Int)) && (decide (offs.toList.map (fun o => (pc : Int) + o) = dat.tail.map Int.ofNat) && decide (hi + 1 - lo = (offs.size : Int)))
  | .lookupswitch d ps => decide ((pc : Int) + d = (sd0 dat : Int)) && (decide (ps.toList.map (fun o => (pc : Int) + o.2) = dat.tail.map Int.ofNat) && decide ((ps.toList.zip (ps.toList.drop 1)).all (fun (a, next) => a.1 < next.1) = true))
  | .getfield idx => Nat.beq len 3 && sxFld y idx dat false
  | .putfield idx => Nat.beq len 3 && sxFld y idx dat true
  | .getstatic idx => Nat.beq len 3 && (match dat with
    | [0, pl] => decide (lk pl = some (.fieldLink (sxCs y) idx "RegionWords$Stones" "SHAPES" "[J"))
    | [1, pl] => decide (lk pl = some (.fieldLink (sxCs y) idx "RegionWords$Stones" "RIGHT" "[I"))
    | [2, pl] => decide (lk pl = some (.fieldLink (sxCs y) idx "RegionWords$Stones" "LEFT" "[I"))
    | [3, pl] => decide (lk pl = some (.fieldLink (sxCs y) idx "java/lang/String" "COMPACT_STRINGS" "Z"))
    | [4, pl] => decide (lk pl = some (.fieldLink (sxCs y) idx "jdk/internal/util/Preconditions" "SIOOBE_FORMATTER" "Ljava/util/function/BiFunction;"))
    | _ => false)
  | .new idx => Nat.beq len 3 && (match dat with
    | [ci, p1, p2, p3] => match vwCl[ci]? with
      | some q => Nat.beq q.2.2 (sxNF ci) && decide (lk p1 = some (.classLink (sxCs y) idx q.1) ∧ lk p2 = some (.instantiable q.1 q.2.2) ∧ lk p3 = some (.initialized q.1))
      | none => false
    | _ => false)
  | .newarray at_ => Nat.beq len 2 && (match dat with
    | [t, pl] => decide (lk pl = some (.arrayClass (newarray.typeOf at_))) && decide ((t = 0 ∧ at_ = .int) ∨ (t = 1 ∧ at_ = .long) ∨ (t = 2 ∧ at_ = .float) ∨ (t = 3 ∧ at_ = .boolean))
    | _ => false)
  | .anewarray idx => Nat.beq len 3 && (match dat with
    | [4, pl, _] => decide (lk pl = some (.classLink (sxCs y) idx "RegionWords$Tape"))
    | _ => false)
  | .invokevirtual idx => Nat.beq len 3 && (sxLink y idx dat && (Nat.beq (sd0 (mPl (sd0 dat))) 1 && Nat.beq ((dat.drop 3).headD 1) 0))
  | .invokestatic idx => Nat.beq len 3 && (match dat with
    | [0, p1, p2, p3, p4] => decide (lk p1 = some (.methodLink (sxCs y) idx arraycopyName) ∧ lk p2 = some (.native arraycopyName) ∧ lk p3 = some (.static arraycopyName) ∧ lk p4 = some (.initialized "java/lang/System"))
    | [1, p1, p2, p3, p4] => decide (lk p1 = some (.methodLink (sxCs y) idx ⟨"java/lang/Float", "floatToRawIntBits", "(F)I"⟩) ∧ lk p2 = some (.native ⟨"java/lang/Float", "floatToRawIntBits", "(F)I"⟩) ∧ lk p3 = some (.static ⟨"java/lang/Float", "floatToRawIntBits", "(F)I"⟩) ∧ lk p4 = some (.initialized "java/lang/Float"))
    | [2, p1, p2, p3, p4] => decide (lk p1 = some (.methodLink (sxCs y) idx ⟨"java/lang/Double", "doubleToRawLongBits", "(D)J"⟩) ∧ lk p2 = some (.native ⟨"java/lang/Double", "doubleToRawLongBits", "(D)J"⟩) ∧ lk p3 = some (.static ⟨"java/lang/Double", "doubleToRawLongBits", "(D)J"⟩) ∧ lk p4 = some (.initialized "java/lang/Double"))
    | _ => sxLink y idx dat && (Nat.beq (sd0 (mPl (sd0 dat))) 2 && Nat.beq ((dat.drop 3).headD 1) 0))
  | .invokespecial idx => Nat.beq len 3 && (match dat with
    | [0, p1, p2, p3] => decide (lk p1 = some (.methodLink (sxCs y) idx Lib.objectInit) ∧ lk p2 = some (.instanceMethod Lib.objectInit) ∧ lk p3 = some (.code Lib.objectInit ⟨#[0xb1]⟩ 1 none))
    | _ => sxLink y idx dat && Nat.beq (sd0 (mPl (sd0 dat))) 3)
  | _ => Nat.beq len 1
def sxGood (y pc : Nat) : Bool := match mOp y pc with
  | none => true
  | some o => decide (decode (mBy y) pc = .ok (o.1, o.2.1)) && sxGd y pc o.1 o.2.1 o.2.2.1 o.2.2.2
/-- what the checks give -/
def sxG (y : Nat) : Prop := ∀ (pc : Nat) (o : sxO), mOp y pc = some o → decode (mBy y) pc = .ok (o.1, o.2.1) ∧ sxGd y pc o.1 o.2.1 o.2.2.1 o.2.2.2 = true
theorem sxG_of {y n : Nat} {t : Nat → Option sxO} (hop : mOp y = fun pc => cond (Nat.blt pc n) (t pc) none) (hg : (List.range n).all (sxGood y) = true) : sxG y := by
  intro pc o h
  rcases Nat.lt_or_ge pc n with hl | hl
  · have h1 := List.all_eq_true.mp hg pc (List.mem_range.mpr hl)
    unfold sxGood at h1
    rw [h] at h1
    simpa only [Bool.and_eq_true, decide_eq_true_eq] using h1
  · exfalso
    have hb : Nat.blt pc n = false := by
      rw [Bool.eq_false_iff]
      intro q
      have := Nat.le_of_ble_eq_true q
      omega
    rw [hop] at h
    simp only [hb, cond_false] at h
    cases h
