/-! steps of our machine: it only grows with what is asked of it -/
theorem pI_mono {st : List Value} {k k1 : Int32 → List Value → Prop} (hk : ∀ a0 a1, k a0 a1 → k1 a0 a1) (h : pI st k) : pI st k1 := by
  unfold pI at h ⊢
  split at h
  · exact hk _ _ h
  · exact h.elim
theorem pII_mono {st : List Value} {k k1 : Int32 → Int32 → List Value → Prop} (hk : ∀ a0 a1 a2, k a0 a1 a2 → k1 a0 a1 a2) (h : pII st k) : pII st k1 := by
  unfold pII at h ⊢
  split at h
  · exact hk _ _ _ h
  · exact h.elim
theorem pJ_mono {st : List Value} {k k1 : Int64 → List Value → Prop} (hk : ∀ a0 a1, k a0 a1 → k1 a0 a1) (h : pJ st k) : pJ st k1 := by
  unfold pJ at h ⊢
  split at h
  · exact hk _ _ h
  · exact h.elim
theorem pJJ_mono {st : List Value} {k k1 : Int64 → Int64 → List Value → Prop} (hk : ∀ a0 a1 a2, k a0 a1 a2 → k1 a0 a1 a2) (h : pJJ st k) : pJJ st k1 := by
  unfold pJJ at h ⊢
  split at h
  · exact hk _ _ _ h
  · exact h.elim
theorem pJI_mono {st : List Value} {k k1 : Int64 → Int32 → List Value → Prop} (hk : ∀ a0 a1 a2, k a0 a1 a2 → k1 a0 a1 a2) (h : pJI st k) : pJI st k1 := by
  unfold pJI at h ⊢
  split at h
  · exact hk _ _ _ h
  · exact h.elim
theorem pF_mono {st : List Value} {k k1 : UInt32 → List Value → Prop} (hk : ∀ a0 a1, k a0 a1 → k1 a0 a1) (h : pF st k) : pF st k1 := by
  unfold pF at h ⊢
  split at h
  · exact hk _ _ h
  · exact h.elim
theorem pFF_mono {st : List Value} {k k1 : UInt32 → UInt32 → List Value → Prop} (hk : ∀ a0 a1 a2, k a0 a1 a2 → k1 a0 a1 a2) (h : pFF st k) : pFF st k1 := by
  unfold pFF at h ⊢
  split at h
  · exact hk _ _ _ h
  · exact h.elim
theorem pD_mono {st : List Value} {k k1 : UInt64 → List Value → Prop} (hk : ∀ a0 a1, k a0 a1 → k1 a0 a1) (h : pD st k) : pD st k1 := by
  unfold pD at h ⊢
  split at h
  · exact hk _ _ h
  · exact h.elim
theorem pDD_mono {st : List Value} {k k1 : UInt64 → UInt64 → List Value → Prop} (hk : ∀ a0 a1 a2, k a0 a1 a2 → k1 a0 a1 a2) (h : pDD st k) : pDD st k1 := by
  unfold pDD at h ⊢
  split at h
  · exact hk _ _ _ h
  · exact h.elim
theorem pA_mono {st : List Value} {k k1 : Nat → List Value → Prop} (hk : ∀ a0 a1, k a0 a1 → k1 a0 a1) (h : pA st k) : pA st k1 := by
  unfold pA at h ⊢
  split at h
  · exact hk _ _ h
  · exact h.elim
theorem pIA_mono {st : List Value} {k k1 : Int32 → Nat → List Value → Prop} (hk : ∀ a0 a1 a2, k a0 a1 a2 → k1 a0 a1 a2) (h : pIA st k) : pIA st k1 := by
  unfold pIA at h ⊢
  split at h
  · exact hk _ _ _ h
  · exact h.elim
theorem pV_mono {st : List Value} {k k1 : Value → List Value → Prop} (hk : ∀ a0 a1, k a0 a1 → k1 a0 a1) (h : pV st k) : pV st k1 := by
  unfold pV at h ⊢
  split at h
  · exact hk _ _ h
  · exact h.elim
theorem qI_mono {o : Option Value} {k k1 : Int32 → Prop} (hk : ∀ a, k a → k1 a) (h : qI o k) : qI o k1 := by
  unfold qI at h ⊢
  split at h
  · exact hk _ h
  · exact h.elim
theorem qJ_mono {o : Option Value} {k k1 : Int64 → Prop} (hk : ∀ a, k a → k1 a) (h : qJ o k) : qJ o k1 := by
  unfold qJ at h ⊢
  split at h
  · exact hk _ h
  · exact h.elim
theorem qF_mono {o : Option Value} {k k1 : UInt32 → Prop} (hk : ∀ a, k a → k1 a) (h : qF o k) : qF o k1 := by
  unfold qF at h ⊢
  split at h
  · exact hk _ h
  · exact h.elim
theorem qD_mono {o : Option Value} {k k1 : UInt64 → Prop} (hk : ∀ a, k a → k1 a) (h : qD o k) : qD o k1 := by
  unfold qD at h ⊢
  split at h
  · exact hk _ h
  · exact h.elim
theorem qA_mono {o : Option Value} {k k1 : Nat → Prop} (hk : ∀ a, k a → k1 a) (h : qA o k) : qA o k1 := by
  unfold qA at h ⊢
  split at h
  · exact hk _ h
  · exact h.elim
theorem vI_mono {v : Value} {k k1 : Int32 → Prop} (hk : ∀ a, k a → k1 a) (h : vI v k) : vI v k1 := by
  unfold vI at h ⊢
  split at h
  · exact hk _ h
  · exact h.elim
theorem hI_mono {sc : sxS} {hp : sxH} {a : Nat} {k k1 : Nat → (Nat → Int32) → Prop} (hk : ∀ n f, k n f → k1 n f) (h : hI sc hp a k) : hI sc hp a k1 := by
  unfold hI at h ⊢
  split at h
  · split at h
    · exact hk _ _ h
    · exact hk _ _ h
    · exact hk _ _ h
    · exact h.elim
  · split at h
    · exact hk _ _ h
    · exact h.elim
theorem hB_mono {hp : sxH} {a : Nat} {k k1 : Nat → (Nat → Int32) → Prop} (hk : ∀ n f, k n f → k1 n f) (h : hB hp a k) : hB hp a k1 := by
  unfold hB at h ⊢
  split at h
  · split at h
    · exact hk _ _ h
    · exact h.elim
  · split at h
    · exact hk _ _ h
    · exact h.elim
theorem hJ_mono {hp : sxH} {a : Nat} {k k1 : Nat → (Nat → Int64) → Prop} (hk : ∀ n f, k n f → k1 n f) (h : hJ hp a k) : hJ hp a k1 := by
  unfold hJ at h ⊢
  split at h
  · split at h
    · exact hk _ _ h
    · exact h.elim
  · split at h
    · exact hk _ _ h
    · exact h.elim
theorem hF_mono {hp : sxH} {a : Nat} {k k1 : Nat → (Nat → UInt32) → Prop} (hk : ∀ n f, k n f → k1 n f) (h : hF hp a k) : hF hp a k1 := by
  unfold hF at h ⊢
  split at h
  · exact hk _ _ h
  · exact h.elim
theorem hA_mono {hp : sxH} {a : Nat} {k k1 : Nat → (Nat → Option Nat) → Prop} (hk : ∀ n f, k n f → k1 n f) (h : hA hp a k) : hA hp a k1 := by
  unfold hA at h ⊢
  split at h
  · exact hk _ _ h
  · exact h.elim
theorem hN_mono {sc : sxS} {hp : sxH} {a : Nat} {k k1 : Nat → Prop} (hk : ∀ n, k n → k1 n) (h : hN sc hp a k) : hN sc hp a k1 := by
  unfold hN at h ⊢
  split at h
  · split at h
    · exact hk _ h
    · exact hk _ h
    · exact hk _ h
    · exact hk _ h
    · exact hk _ h
    · exact h.elim
  · split at h
    · split at h
      · exact hk _ h
      · exact h.elim
    · exact h.elim
theorem hO_mono {hp : sxH} {a ci : Nat} {k k1 : List Value → Prop} (hk : ∀ f, k f → k1 f) (h : hO hp a ci k) : hO hp a ci k1 := by
  unfold hO at h ⊢
  split at h
  · exact h.elim
  · split at h
    · split at h
      · exact hk _ h
      · exact h.elim
    · exact h.elim
theorem fV_mono {fs : List Value} {i : Nat} {k k1 : Value → Prop} (hk : ∀ f, k f → k1 f) (h : fV fs i k) : fV fs i k1 := by
  unfold fV at h ⊢
  split at h
  · exact hk _ h
  · exact h.elim
theorem sxFit_mono {ty : FieldType} {v : Value} {P P1 : Prop} (hk : P → P1) (h : sxFit ty v P) : sxFit ty v P1 := by
  unfold sxFit at h ⊢
  split at h
  · exact hk h
  · exact hk h
  · exact hk h
  · exact ⟨h.1, hk h.2⟩
  · exact hk h
  · exact hk h
  · exact h.elim
theorem sxRet_mono {ty : Option FieldType} {v : Int32} {P P1 : Prop} (hk : P → P1) (h : sxRet ty v P) : sxRet ty v P1 := by
  unfold sxRet at h ⊢
  split at h
  · exact hk h
  · exact ⟨h.1, hk h.2⟩
  · exact ⟨h.1, hk h.2⟩
  · exact h.elim
theorem sxCpy_mono {hp : sxH} {st : List Value} {k k1 : sxH → List Value → Prop} (hk : ∀ a b, k a b → k1 a b) (h : sxCpy hp st k) : sxCpy hp st k1 := by
  unfold sxCpy at h ⊢
  split at h
  · split at h
    · exact h.elim
    · split at h
      · exact ⟨h.1, hk _ _ h.2⟩
      · exact ⟨h.1, hk _ _ h.2⟩
      · exact h.elim
  · exact h.elim
theorem sxPop_mono {k k1 : List Value → List Value → Prop} (hk : ∀ a b, k a b → k1 a b) : ∀ (n : Nat) (st As : List Value), sxPop n st As k → sxPop n st As k1
  | 0, st, As, h => hk _ _ h
  | n + 1, [], As, h => h.elim
  | n + 1, v :: st, As, h => sxPop_mono hk n st (v :: As) h
def CallMono (call : sxX) : Prop := ∀ (y : Nat) (As : List Value) (hp : sxH) (Q Q1 : sxR), (∀ r h, Q r h → Q1 r h) → call y As hp Q → call y As hp Q1
theorem sxCall_mono {call : sxX} (hc : CallMono call) {y : Nat} {P P1 : sxC → Prop} (hP : ∀ c, P c → P1 c) {dat : List Nat} {pc : Nat} {L : sxL} {As rest : List Value} {hp : sxH} {cu su : Nat} (h : sxCall call y P dat pc L As rest hp cu su) : sxCall call y P1 dat pc L As rest hp cu su := by
  unfold sxCall at h ⊢
  split at h
  · exact hc _ _ _ _ _ (fun r h1 q => hP _ q) h
  · exact h.elim
theorem bm_mono {b : Bool} {P P1 : Prop} (hk : P → P1) : (match b with | true => P | false => False) → (match b with | true => P1 | false => False) := by
  cases b with
  | true => exact hk
  | false => exact fun h => h.elim
set_option maxHeartbeats 2000000 in
theorem sxJ_mono {sc : sxS} {call : sxX} (hc : CallMono call) {Q Q1 : sxR} (hQ : ∀ r h, Q r h → Q1 r h) {y : Nat} {P P1 : sxC → Prop} (hP : ∀ c, P c → P1 c) {dat : List Nat} {kv : Value} {pc : Nat} {L : sxL} {st : List Value} {hp : sxH} {cu su : Nat} : ∀ (i : Instr), sxJ sc call Q y P i dat kv pc L st hp cu su → sxJ sc call Q1 y P1 i dat kv pc L st hp cu su := by
  intro i h
  cases i
  case getfield z0 =>
    exact by
      refine pA_mono (fun a r h => ?_) h
      split at h
      · exact hO_mono (fun _ h => fV_mono (fun _ h => hP _ h) h) h
      · exact bm_mono (hP _) h
      · exact bm_mono (hP _) h
      · exact h.elim
  case putfield z0 =>
    exact pV_mono (fun _ _ h => pA_mono (fun _ _ h => hO_mono (fun _ h => bm_mono (sxFit_mono (hP _)) h) h) h) h
  case getstatic z0 =>
    exact by
      simp only [sxJ] at h ⊢
      revert h
      generalize sd0 dat = o
      intro h
      split at h
      · exact hP _ h
      · exact hP _ h
      · exact hP _ h
      · exact hP _ h
      · exact hP _ h
      · exact h.elim
  case iaload =>
    exact pIA_mono (fun _ _ _ h => hI_mono (fun _ _ h => ⟨h.1, hP _ h.2⟩) h) h
  case baload =>
    exact pIA_mono (fun _ _ _ h => hB_mono (fun _ _ h => ⟨h.1, hP _ h.2⟩) h) h
  case laload =>
    exact pIA_mono (fun _ _ _ h => hJ_mono (fun _ _ h => ⟨h.1, hP _ h.2⟩) h) h
  case faload =>
    exact pIA_mono (fun _ _ _ h => hF_mono (fun _ _ h => ⟨h.1, hP _ h.2⟩) h) h
  case aaload =>
    exact pIA_mono (fun _ _ _ h => hA_mono (fun _ _ h => ⟨h.1, hP _ h.2⟩) h) h
  case arraylength =>
    exact pA_mono (fun _ _ h => hN_mono (fun _ h => hP _ h) h) h
  case iastore =>
    exact by
      refine pI_mono (fun x r0 h => pIA_mono (fun ix a r h => ?_) h) h
      try dsimp only at h ⊢
      split at h
      · exact ⟨h.1, hP _ h.2⟩
      · exact h.elim
  case bastore =>
    exact by
      refine pI_mono (fun x r0 h => pIA_mono (fun ix a r h => ?_) h) h
      try dsimp only at h ⊢
      split at h
      · exact ⟨h.1, h.2.1, hP _ h.2.2⟩
      · exact h.elim
  case lastore =>
    exact by
      refine pJ_mono (fun x r0 h => pIA_mono (fun ix a r h => ?_) h) h
      try dsimp only at h ⊢
      split at h
      · exact ⟨h.1, hP _ h.2⟩
      · exact h.elim
  case fastore =>
    exact by
      refine pF_mono (fun x r0 h => pIA_mono (fun ix a r h => ?_) h) h
      try dsimp only at h ⊢
      split at h
      · exact ⟨h.1, hP _ h.2⟩
      · exact h.elim
  case aastore =>
    exact by
      refine pA_mono (fun x r0 h => pIA_mono (fun ix a r h => ?_) h) h
      try dsimp only at h ⊢
      split at h
      · exact ⟨h.1, hP _ h.2⟩
      · exact h.elim
  case new z0 =>
    exact bm_mono (fun h => ⟨h.1, hP _ h.2⟩) h
  case newarray z0 =>
    exact pI_mono (fun _ _ h => ⟨h.1, hP _ h.2⟩) h
  case anewarray z0 =>
    exact pI_mono (fun _ _ h => ⟨h.1, hP _ h.2⟩) h
  case invokevirtual z0 =>
    exact by
      refine sxPop_mono (fun As r0 h => pA_mono (fun a r h => ?_) h) _ _ _ h
      try dsimp only at h ⊢
      split at h
      · next hb => rw [hb]; exact bm_mono (sxCall_mono hc hP) h
      · next hb =>
        rw [hb]
        split at h
        · split at h
          · exact bm_mono (sxCall_mono hc hP) h
          · exact h.elim
        · exact h.elim
  case invokespecial z0 =>
    exact by
      simp only [sxJ] at h ⊢
      split at h
      · exact bm_mono (fun h => pA_mono (fun _ _ h => hP _ h) h) h
      · exact sxPop_mono (fun As r0 h => pA_mono (fun a r h => sxCall_mono hc hP h) h) _ _ _ h
  case invokestatic z0 =>
    exact by
      simp only [sxJ] at h ⊢
      split at h
      · exact bm_mono (fun h => sxCpy_mono (fun _ _ h => hP _ h) h) h
      · exact bm_mono (fun h => pF_mono (fun _ _ h => hP _ h) h) h
      · exact bm_mono (fun h => pD_mono (fun _ _ h => hP _ h) h) h
      · exact sxPop_mono (fun As r h => sxCall_mono hc hP h) _ _ _ h
  case ireturn =>
    exact by
      refine bm_mono (b := Nat.ble cu (mMc y) && Nat.ble su (mMs y)) (fun h => ?_) h
      split at h
      · exact sxRet_mono (hQ _ _) h
      · exact h.elim
  case lreturn =>
    exact by
      refine bm_mono (b := Nat.ble cu (mMc y) && Nat.ble su (mMs y)) (fun h => ?_) h
      revert h
      generalize mRt y = o
      intro h
      split at h
      · exact hQ _ _ h
      · exact h.elim
  case freturn =>
    exact by
      refine bm_mono (b := Nat.ble cu (mMc y) && Nat.ble su (mMs y)) (fun h => ?_) h
      revert h
      generalize mRt y = o
      intro h
      split at h
      · exact hQ _ _ h
      · exact h.elim
  case return_ =>
    exact by
      refine bm_mono (b := Nat.ble cu (mMc y) && Nat.ble su (mMs y)) (fun h => ?_) h
      revert h
      generalize mRt y = o
      intro h
      split at h
      · exact hQ _ _ h
      · exact h.elim
  all_goals exact (show False from h).elim
set_option maxHeartbeats 2000000 in
theorem sxI_mono {sc : sxS} {call : sxX} (hc : CallMono call) {Q Q1 : sxR} (hQ : ∀ r h, Q r h → Q1 r h) {y : Nat} {P P1 : sxC → Prop} (hP : ∀ c, P c → P1 c) {dat : List Nat} {kv : Value} {pc : Nat} {L : sxL} {st : List Value} {hp : sxH} {cu su : Nat} : ∀ (i : Instr), sxI sc call Q y P i dat kv pc L st hp cu su → sxI sc call Q1 y P1 i dat kv pc L st hp cu su := by
  intro i h
  have key := sxJ_mono (sc := sc) (dat := dat) (kv := kv) (pc := pc) (L := L) (st := st) (hp := hp) (cu := cu) (su := su) (y := y) hc hQ hP i
  cases i
  case iconst z0 =>
    exact hP _ h
  case bipush z0 =>
    exact hP _ h
  case sipush z0 =>
    exact hP _ h
  case lconst z0 =>
    exact hP _ h
  case fconst z0 =>
    exact hP _ h
  case dconst z0 =>
    exact hP _ h
  case ldc z0 =>
    exact hP _ h
  case ldc_w z0 =>
    exact hP _ h
  case ldc2_w z0 =>
    exact hP _ h
  case iload_n z0 =>
    exact qI_mono (fun _ h => hP _ h) h
  case iload z0 =>
    exact qI_mono (fun _ h => hP _ h) h
  case lload_n z0 =>
    exact qJ_mono (fun _ h => hP _ h) h
  case lload z0 =>
    exact qJ_mono (fun _ h => hP _ h) h
  case fload_n z0 =>
    exact qF_mono (fun _ h => hP _ h) h
  case fload z0 =>
    exact qF_mono (fun _ h => hP _ h) h
  case dload_n z0 =>
    exact qD_mono (fun _ h => hP _ h) h
  case dload z0 =>
    exact qD_mono (fun _ h => hP _ h) h
  case aload_n z0 =>
    exact qA_mono (fun _ h => hP _ h) h
  case aload z0 =>
    exact qA_mono (fun _ h => hP _ h) h
  case istore_n z0 =>
    exact pI_mono (fun _ _ h => hP _ h) h
  case istore z0 =>
    exact pI_mono (fun _ _ h => hP _ h) h
  case lstore_n z0 =>
    exact pJ_mono (fun _ _ h => hP _ h) h
  case lstore z0 =>
    exact pJ_mono (fun _ _ h => hP _ h) h
  case fstore_n z0 =>
    exact pF_mono (fun _ _ h => hP _ h) h
  case fstore z0 =>
    exact pF_mono (fun _ _ h => hP _ h) h
  case dstore_n z0 =>
    exact pD_mono (fun _ _ h => hP _ h) h
  case dstore z0 =>
    exact pD_mono (fun _ _ h => hP _ h) h
  case astore_n z0 =>
    exact pA_mono (fun _ _ h => hP _ h) h
  case astore z0 =>
    exact pA_mono (fun _ _ h => hP _ h) h
  case iinc z0 z1 =>
    exact qI_mono (fun _ h => vI_mono (fun _ h => hP _ h) h) h
  case iadd =>
    exact pII_mono (fun _ _ _ h => hP _ h) h
  case isub =>
    exact pII_mono (fun _ _ _ h => hP _ h) h
  case imul =>
    exact pII_mono (fun _ _ _ h => hP _ h) h
  case iand =>
    exact pII_mono (fun _ _ _ h => hP _ h) h
  case ior =>
    exact pII_mono (fun _ _ _ h => hP _ h) h
  case ixor =>
    exact pII_mono (fun _ _ _ h => hP _ h) h
  case idiv =>
    exact pII_mono (fun _ _ _ h => ⟨h.1, hP _ h.2⟩) h
  case irem =>
    exact pII_mono (fun _ _ _ h => ⟨h.1, hP _ h.2⟩) h
  case ishl =>
    exact pII_mono (fun _ _ _ h => hP _ h) h
  case ishr =>
    exact pII_mono (fun _ _ _ h => hP _ h) h
  case iushr =>
    exact pII_mono (fun _ _ _ h => hP _ h) h
  case ineg =>
    exact pI_mono (fun _ _ h => hP _ h) h
  case ladd =>
    exact pJJ_mono (fun _ _ _ h => hP _ h) h
  case lsub =>
    exact pJJ_mono (fun _ _ _ h => hP _ h) h
  case land =>
    exact pJJ_mono (fun _ _ _ h => hP _ h) h
  case lor =>
    exact pJJ_mono (fun _ _ _ h => hP _ h) h
  case lxor =>
    exact pJJ_mono (fun _ _ _ h => hP _ h) h
  case ldiv =>
    exact pJJ_mono (fun _ _ _ h => ⟨h.1, hP _ h.2⟩) h
  case lrem =>
    exact pJJ_mono (fun _ _ _ h => ⟨h.1, hP _ h.2⟩) h
  case lneg =>
    exact pJ_mono (fun _ _ h => hP _ h) h
  case lshl =>
    exact pJI_mono (fun _ _ _ h => hP _ h) h
  case lshr =>
    exact pJI_mono (fun _ _ _ h => hP _ h) h
  case lushr =>
    exact pJI_mono (fun _ _ _ h => hP _ h) h
  case lcmp =>
    exact pJJ_mono (fun _ _ _ h => hP _ h) h
  case i2l =>
    exact pI_mono (fun _ _ h => hP _ h) h
  case l2i =>
    exact pJ_mono (fun _ _ h => hP _ h) h
  case i2b =>
    exact pI_mono (fun _ _ h => hP _ h) h
  case i2s =>
    exact pI_mono (fun _ _ h => hP _ h) h
  case i2c =>
    exact pI_mono (fun _ _ h => hP _ h) h
  case i2f =>
    exact pI_mono (fun _ _ h => hP _ h) h
  case i2d =>
    exact pI_mono (fun _ _ h => hP _ h) h
  case f2i =>
    exact pF_mono (fun _ _ h => hP _ h) h
  case d2l =>
    exact pD_mono (fun _ _ h => hP _ h) h
  case fadd =>
    exact pFF_mono (fun _ _ _ h => ⟨h.1, hP _ h.2⟩) h
  case fsub =>
    exact pFF_mono (fun _ _ _ h => ⟨h.1, hP _ h.2⟩) h
  case fmul =>
    exact pFF_mono (fun _ _ _ h => ⟨h.1, hP _ h.2⟩) h
  case fdiv =>
    exact pFF_mono (fun _ _ _ h => ⟨h.1, hP _ h.2⟩) h
  case dsub =>
    exact pDD_mono (fun _ _ _ h => ⟨h.1, hP _ h.2⟩) h
  case dmul =>
    exact pDD_mono (fun _ _ _ h => ⟨h.1, hP _ h.2⟩) h
  case ddiv =>
    exact pDD_mono (fun _ _ _ h => ⟨h.1, hP _ h.2⟩) h
  case dneg =>
    exact pD_mono (fun _ _ h => hP _ h) h
  case fcmp z0 =>
    exact pFF_mono (fun _ _ _ h => hP _ h) h
  case dcmp z0 =>
    exact pDD_mono (fun _ _ _ h => hP _ h) h
  case dup =>
    exact pV_mono (fun _ _ h => bm_mono (hP _) h) h
  case dup2 =>
    exact pV_mono (fun _ _ h => pV_mono (fun _ _ h => bm_mono (hP _) h) h) h
  case pop =>
    exact pV_mono (fun _ _ h => bm_mono (hP _) h) h
  case goto z0 =>
    exact hP _ h
  case ifCond z0 z1 =>
    exact pI_mono (fun a0 a1 h => by cases z0 <;> exact ⟨fun q => hP _ (h.1 q), fun q => hP _ (h.2 q)⟩) h
  case if_icmp z0 z1 =>
    exact pII_mono (fun a0 a1 a2 h => by cases z0 <;> exact ⟨fun q => hP _ (h.1 q), fun q => hP _ (h.2 q)⟩) h
  case tableswitch z0 z1 z2 z3 =>
    exact pI_mono (fun _ _ h => hP _ h) h
  case lookupswitch z0 z1 =>
    exact pI_mono (fun _ _ h => hP _ h) h
  all_goals exact key h
theorem sxF_mono {sc : sxS} {call : sxX} (hc : CallMono call) {Q Q1 : sxR} (hQ : ∀ r h, Q r h → Q1 r h) {y : Nat} {P P1 : sxC → Prop} (hP : ∀ c, P c → P1 c) {c : sxC} (h : sxF sc call Q y P c) : sxF sc call Q1 y P1 c := by
  unfold sxF at h ⊢
  cases ho : mOp y c.1 with
  | none => rw [ho] at h; exact h.elim
  | some q => rw [ho] at h; exact sxI_mono hc hQ hP _ h
theorem sxE_mono (sc : sxS) : ∀ d : Nat, CallMono (sxE sc d)
  | 0 => fun _ _ _ _ _ _ h => h.elim
  | d + 1 => by
    intro y As hp Q Q1 hQ h
    exact bm_mono (b := Nat.ble (sxCat As) (mML y)) (fun h P hP => h P (fun c hF => hP c (sxF_mono (sxE_mono sc d) hQ (fun _ q => q) hF))) h
/-- a step forward -/
theorem sxWP_step {sc : sxS} {call : sxX} (hm : CallMono call) {Q : sxR} {y : Nat} {c : sxC} (h : sxF sc call Q y (sxWP sc call Q y) c) : sxWP sc call Q y c :=
  fun P hP => hP c (sxF_mono hm (fun _ _ q => q) (fun _ q => q P hP) h)
def sxFn (sc : sxS) (call : sxX) (Q : sxR) (y : Nat) : Nat → (sxC → Prop) → sxC → Prop
  | 0, P, c => P c
  | n + 1, P, c => sxF sc call Q y (sxFn sc call Q y n P) c
/-- n steps forward -/
theorem stp {sc : sxS} {call : sxX} (hm : CallMono call) {Q : sxR} {y : Nat} : ∀ (n : Nat) {c : sxC}, sxFn sc call Q y n (sxWP sc call Q y) c → sxWP sc call Q y c
  | 0, _, h => h
  | n + 1, _, h => sxWP_step hm (sxF_mono hm (fun _ _ q => q) (fun _ q => stp hm n q) h)
/-- a method's beginning; 'call' stands for the methods one frame deeper, so that nothing looks into them -/
theorem ent {sc : sxS} {d y : Nat} {As : List Value} {hp : sxH} {Q : sxR} {call : sxX} (hc : call = sxE sc (d + 1)) (ha : Nat.ble (sxCat As) (mML y) = true) (h : ∀ cl : sxX, cl = sxE sc d → CallMono cl → sxWP sc cl Q y (0, sxIn As (mML y), [], hp, 0, 0)) : call y As hp Q := by
  subst hc
  show (match Nat.ble (sxCat As) (mML y) with | true => sxWP sc (sxE sc d) Q y (0, sxIn As (mML y), [], hp, 0, 0) | false => False)
  rw [ha]
  exact h _ rfl (sxE_mono sc d)
