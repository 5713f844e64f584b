/-! the decompiler's words: guards, loops with fuel, and how the machine follows them -/
def gi (ix : Int32) (n : Nat) : Bool := decide (0 ≤ ix.toInt ∧ ix.toInt < n)
theorem gi_in {ix : Int32} {n : Nat} (h : gi ix n = true) : vp_in ix n := vp_in_iff.mpr (of_decide_eq_true h)
def zb (x : Int32) : Bool := decide (x = 0 ∨ x = 1)
theorem zb_e {x : Int32} (h : zb x = true) : x = 0 ∨ x = 1 := of_decide_eq_true h
def cb (x : Int32) : Bool := decide ((x.toUInt32 % 65536).toInt32 = x)
theorem giz1 {ix x : Int32} {n : Nat} (h : (gi ix n && zb x) = true) : vp_in ix n := gi_in ((Bool.and_eq_true _ _).mp h).1
theorem giz2 {ix x : Int32} {n : Nat} (h : (gi ix n && zb x) = true) : x = 0 ∨ x = 1 := zb_e ((Bool.and_eq_true _ _).mp h).2
def nn32 (r : UInt32) : Bool := decide (r &&& 0x7fffffff ≤ 0x7f800000)
def nn64 (r : UInt64) : Bool := decide (r &&& 0x7fffffffffffffff ≤ 0x7ff0000000000000)
theorem nn32_e {x : UInt32} (h : nn32 x = true) : vf_n32 x := by unfold vf_n32; exact of_decide_eq_true h
theorem nn64_e {x : UInt64} (h : nn64 x = true) : vf_n64 x := by unfold vf_n64; exact of_decide_eq_true h
def cpB (sp dp n : Int32) (n0 n1 : Nat) : Bool := decide (0 ≤ sp ∧ 0 ≤ dp ∧ 0 ≤ n ∧ sp.toNatClampNeg + n.toNatClampNeg ≤ n0 ∧ dp.toNatClampNeg + n.toNatClampNeg ≤ n1)
def grd {α : Type} (b : Bool) (k : Option α) : Option α := match b with
  | true => k
  | false => none
theorem grd_e {α : Type} {b : Bool} {k : Option α} {x : α} (h : grd b k = some x) : b = true ∧ k = some x := by
  cases b with
  | true => exact ⟨rfl, h⟩
  | false => cases h
theorem grd_t {α : Type} {b : Bool} {k : Option α} (h : b = true) : grd b k = k := by rw [h]; rfl
theorem bnd {α β : Type} {o : Option α} {k : α → Option β} {x : β} (h : Option.bind o k = some x) : ∃ q, o = some q ∧ k q = some x := by
  cases o with
  | none => cases h
  | some q => exact ⟨q, rfl, h⟩
theorem br {c : Prop} [Decidable c] {α : Type} {A B x : α} {P1 P2 : Prop} (hf : (if c then A else B) = x) (h1 : c → A = x → P1) (h2 : ¬ c → B = x → P2) : (c → P1) ∧ (¬ c → P2) :=
  ⟨fun q => h1 q (by rw [if_pos q] at hf; exact hf), fun q => h2 q (by rw [if_neg q] at hf; exact hf)⟩
theorem brn {c : Prop} [Decidable c] {α : Type} {A B x : α} {P1 P2 : Prop} (hf : (if c then A else B) = x) (h1 : ¬ c → B = x → P1) (h2 : c → A = x → P2) : (¬ c → P1) ∧ (c → P2) :=
  ⟨fun q => h1 q (by rw [if_neg q] at hf; exact hf), fun q => h2 q (by rw [if_pos q] at hf; exact hf)⟩
theorem brI {c c' : Prop} [Decidable c] (i : c' ↔ c) {α : Type} {A B x : α} {P1 P2 : Prop} (hf : (if c then A else B) = x) (h1 : c → A = x → P1) (h2 : ¬ c → B = x → P2) : (c' → P1) ∧ (¬ c' → P2) :=
  ⟨fun q => h1 (i.mp q) (by rw [if_pos (i.mp q)] at hf; exact hf), fun q => h2 (fun k => q (i.mpr k)) (by rw [if_neg (fun k => q (i.mpr k))] at hf; exact hf)⟩
theorem brnI {c c' : Prop} [Decidable c] (i : c' ↔ c) {α : Type} {A B x : α} {P1 P2 : Prop} (hf : (if c then A else B) = x) (h1 : ¬ c → B = x → P1) (h2 : c → A = x → P2) : (¬ c' → P1) ∧ (c' → P2) :=
  ⟨fun q => h1 (fun k => q (i.mpr k)) (by rw [if_neg (fun k => q (i.mpr k))] at hf; exact hf), fun q => h2 (i.mp q) (by rw [if_pos (i.mp q)] at hf; exact hf)⟩
theorem bs {c : Prop} {P1 P2 : Prop} (h1 : c → P1) (h2 : ¬ c → P2) : (c → P1) ∧ (¬ c → P2) := ⟨h1, h2⟩
theorem bsn {c : Prop} {P1 P2 : Prop} (h1 : ¬ c → P1) (h2 : c → P2) : (¬ c → P1) ∧ (c → P2) := ⟨h1, h2⟩
theorem bsI {c c' : Prop} (i : c' ↔ c) {P1 P2 : Prop} (h1 : c → P1) (h2 : ¬ c → P2) : (c' → P1) ∧ (¬ c' → P2) := ⟨fun q => h1 (i.mp q), fun q => h2 (fun k => q (i.mpr k))⟩
theorem bsnI {c c' : Prop} (i : c' ↔ c) {P1 P2 : Prop} (h1 : ¬ c → P1) (h2 : c → P2) : (¬ c' → P1) ∧ (c' → P2) := ⟨fun q => h1 (fun k => q (i.mpr k)), fun q => h2 (i.mp q)⟩
theorem bT {c A B : Prop} (h : c) (a : A) : (c → A) ∧ (¬ c → B) := ⟨fun _ => a, fun n => absurd h n⟩
theorem bF {c A B : Prop} (h : ¬ c) (b : B) : (c → A) ∧ (¬ c → B) := ⟨fun n => absurd n h, fun _ => b⟩
theorem bNT {c A B : Prop} (h : ¬ c) (a : A) : (¬ c → A) ∧ (c → B) := ⟨fun _ => a, fun n => absurd n h⟩
theorem bNF {c A B : Prop} (h : c) (b : B) : (¬ c → A) ∧ (c → B) := ⟨fun n => absurd h n, fun _ => b⟩
theorem ite_or {c : Prop} [Decidable c] {α : Type} {A B x : α} (hf : (if c then A else B) = x) : (c ∧ A = x) ∨ (¬ c ∧ B = x) := by
  by_cases q : c
  · rw [if_pos q] at hf; exact Or.inl ⟨q, hf⟩
  · rw [if_neg q] at hf; exact Or.inr ⟨q, hf⟩
def FU : Nat := 4000000
/-- a loop with fuel: a step goes on, or ends -/
def wh {σ ρ : Type} (st : σ → Option (σ ⊕ ρ)) : Nat → σ → Option ρ
  | 0, _ => none
  | n + 1, s => match st s with
    | none => none
    | some (Sum.inl s') => wh st n s'
    | some (Sum.inr r) => some r
theorem wh_run {σ ρ : Type} {st : σ → Option (σ ⊕ ρ)} {A : σ → Prop} {B : ρ → Prop} (hs : ∀ s x, st s = some x → (∀ s', x = Sum.inl s' → A s') → (∀ r, x = Sum.inr r → B r) → A s) : ∀ (n : Nat) (s : σ) (r : ρ), wh st n s = some r → B r → A s
  | 0, _, _, h, _ => by cases h
  | n + 1, s, r, h, hb => by
    cases e : st s with
    | none => simp [wh, e] at h
    | some x =>
      refine hs s x e (fun s' e1 => ?_) (fun r' e1 => ?_)
      · subst e1
        simp only [wh, e] at h
        exact wh_run hs n s' r h hb
      · subst e1
        simp only [wh, e] at h
        cases h
        exact hb
