/-! the decompiler's words: guards, loops with fuel, and how the machine follows them -/
def gi (ix : Int32) (n : Nat) : Bool := decide (0 ≤ ix.toInt ∧ ix.toInt < n)
theorem gi_in {ix : Int32} {n : Nat} (h : gi ix n = true) : vp_in ix n := vp_in_iff.mpr (of_decide_eq_true h)
def zb (x : Int32) : Bool := decide (x = 0 ∨ x = 1)
theorem zb_e {x : Int32} (h : zb x = true) : x = 0 ∨ x = 1 := of_decide_eq_true h
def cb (x : Int32) : Bool := decide (x.toUInt32.toUInt16.toUInt32.toInt32 = x)
theorem cb_e {x : Int32} (h : cb x = true) : narrow .char (.int x) = .int x := congrArg Value.int (of_decide_eq_true h)
def tpU (tp : Nat → tTp) (k : Nat) (x : tTp) : Nat → tTp := fun j => if j = k then x else tp j
theorem giz1 {ix x : Int32} {n : Nat} (h : (gi ix n && zb x) = true) : vp_in ix n := gi_in ((Bool.and_eq_true _ _).mp h).1
theorem giz2 {ix x : Int32} {n : Nat} (h : (gi ix n && zb x) = true) : x = 0 ∨ x = 1 := zb_e ((Bool.and_eq_true _ _).mp h).2
def nn32 (r : UInt32) : Bool := decide (r &&& 0x7fffffff ≤ 0x7f800000)
def nn64 (r : UInt64) : Bool := decide (r &&& 0x7fffffffffffffff ≤ 0x7ff0000000000000)
theorem nn32_e {x : UInt32} (h : nn32 x = true) : vf_n32 x := by unfold vf_n32; exact of_decide_eq_true h
theorem nn64_e {x : UInt64} (h : nn64 x = true) : vf_n64 x := by unfold vf_n64; exact of_decide_eq_true h
def cpB (sp dp n : Int32) (n0 n1 : Nat) : Bool := decide (0 ≤ sp ∧ 0 ≤ dp ∧ 0 ≤ n ∧ sp.toNatClampNeg + n.toNatClampNeg ≤ n0 ∧ dp.toNatClampNeg + n.toNatClampNeg ≤ n1)
def grd {α : Type} (b : Bool) (k : Option α) : Option α := match b with
  | true => k
  | false => none
theorem grd_e {α : Type} {b : Bool} {k : Option α} {x : α} (h : grd b k = some x) : b = true ∧ k = some x := by
  cases b with
  | true => exact ⟨rfl, h⟩
  | false => cases h
theorem grd_t {α : Type} {b : Bool} {k : Option α} (h : b = true) : grd b k = k := by rw [h]; rfl
theorem bnd {α β : Type} {o : Option α} {k : α → Option β} {x : β} (h : Option.bind o k = some x) : ∃ q, o = some q ∧ k q = some x := by
  cases o with
  | none => cases h
  | some q => exact ⟨q, rfl, h⟩
theorem br {c : Prop} [Decidable c] {α : Type} {A B x : α} {P1 P2 : Prop} (hf : (if c then A else B) = x) (h1 : c → A = x → P1) (h2 : ¬ c → B = x → P2) : (c → P1) ∧ (¬ c → P2) :=
  ⟨fun q => h1 q (by rw [if_pos q] at hf; exact hf), fun q => h2 q (by rw [if_neg q] at hf; exact hf)⟩
theorem brn {c : Prop} [Decidable c] {α : Type} {A B x : α} {P1 P2 : Prop} (hf : (if c then A else B) = x) (h1 : ¬ c → B = x → P1) (h2 : c → A = x → P2) : (¬ c → P1) ∧ (c → P2) :=
  ⟨fun q => h1 q (by rw [if_neg q] at hf; exact hf), fun q => h2 q (by rw [if_pos q] at hf; exact hf)⟩
theorem brI {c c' : Prop} [Decidable c] (i : c' ↔ c) {α : Type} {A B x : α} {P1 P2 : Prop} (hf : (if c then A else B) = x) (h1 : c → A = x → P1) (h2 : ¬ c → B = x → P2) : (c' → P1) ∧ (¬ c' → P2) :=
  ⟨fun q => h1 (i.mp q) (by rw [if_pos (i.mp q)] at hf; exact hf), fun q => h2 (fun k => q (i.mpr k)) (by rw [if_neg (fun k => q (i.mpr k))] at hf; exact hf)⟩
theorem brnI {c c' : Prop} [Decidable c] (i : c' ↔ c) {α : Type} {A B x : α} {P1 P2 : Prop} (hf : (if c then A else B) = x) (h1 : ¬ c → B = x → P1) (h2 : c → A = x → P2) : (¬ c' → P1) ∧ (c' → P2) :=
  ⟨fun q => h1 (fun k => q (i.mpr k)) (by rw [if_neg (fun k => q (i.mpr k))] at hf; exact hf), fun q => h2 (i.mp q) (by rw [if_pos (i.mp q)] at hf; exact hf)⟩
theorem bs {c : Prop} {P1 P2 : Prop} (h1 : c → P1) (h2 : ¬ c → P2) : (c → P1) ∧ (¬ c → P2) := ⟨h1, h2⟩
theorem bsn {c : Prop} {P1 P2 : Prop} (h1 : ¬ c → P1) (h2 : c → P2) : (¬ c → P1) ∧ (c → P2) := ⟨h1, h2⟩
theorem bsI {c c' : Prop} (i : c' ↔ c) {P1 P2 : Prop} (h1 : c → P1) (h2 : ¬ c → P2) : (c' → P1) ∧ (¬ c' → P2) := ⟨fun q => h1 (i.mp q), fun q => h2 (fun k => q (i.mpr k))⟩
theorem bsnI {c c' : Prop} (i : c' ↔ c) {P1 P2 : Prop} (h1 : ¬ c → P1) (h2 : c → P2) : (¬ c' → P1) ∧ (c' → P2) := ⟨fun q => h1 (fun k => q (i.mpr k)), fun q => h2 (i.mp q)⟩
theorem bT {c A B : Prop} (h : c) (a : A) : (c → A) ∧ (¬ c → B) := ⟨fun _ => a, fun n => absurd h n⟩
theorem bF {c A B : Prop} (h : ¬ c) (b : B) : (c → A) ∧ (¬ c → B) := ⟨fun n => absurd n h, fun _ => b⟩
theorem bNT {c A B : Prop} (h : ¬ c) (a : A) : (¬ c → A) ∧ (c → B) := ⟨fun _ => a, fun n => absurd n h⟩
theorem bNF {c A B : Prop} (h : c) (b : B) : (¬ c → A) ∧ (c → B) := ⟨fun n => absurd h n, fun _ => b⟩
theorem ite_or {c : Prop} [Decidable c] {α : Type} {A B x : α} (hf : (if c then A else B) = x) : (c ∧ A = x) ∨ (¬ c ∧ B = x) := by
  by_cases q : c
  · rw [if_pos q] at hf; exact Or.inl ⟨q, hf⟩
  · rw [if_neg q] at hf; exact Or.inr ⟨q, hf⟩
def FU : Nat := 4000000
/-- a loop with fuel: a step goes on, or ends -/
def wh {σ ρ : Type} (st : σ → Option (σ ⊕ ρ)) : Nat → σ → Option ρ
  | 0, _ => none
  | n + 1, s => match st s with
    | none => none
    | some (Sum.inl s') => wh st n s'
    | some (Sum.inr r) => some r
theorem wh_run {σ ρ : Type} {st : σ → Option (σ ⊕ ρ)} {A : σ → Prop} {B : ρ → Prop} (hs : ∀ s x, st s = some x → (∀ s', x = Sum.inl s' → A s') → (∀ r, x = Sum.inr r → B r) → A s) : ∀ (n : Nat) (s : σ) (r : ρ), wh st n s = some r → B r → A s
  | 0, _, _, h, _ => by cases h
  | n + 1, s, r, h, hb => by
    cases e : st s with
    | none => simp [wh, e] at h
    | some x =>
      refine hs s x e (fun s' e1 => ?_) (fun r' e1 => ?_)
      · subst e1
        simp only [wh, e] at h
        exact wh_run hs n s' r h hb
      · subst e1
        simp only [wh, e] at h
        cases h
        exact hb
/-- the heap, flat -/
def wF (im : Int32) (nrg : Int64) (nld : Int32) (nmt : (Nat → Int32)) (nps : Int32) (npl : Int32) (npw : (Nat → Int32)) (npr : (Nat → Int32)) (nss : Int32) (nso : (Nat → Int32)) (nsq : (Nat → Int32)) (nes : Int32) (neo : (Nat → Int32)) (neq : (Nat → Int32)) (ngs : Int32) (ngo : (Nat → Int32)) (ngq : (Nat → Int32)) (krg : Int64) (kld : Int32) (kmt : (Nat → Int32)) (kps : Int32) (kpl : Int32) (kpw : (Nat → Int32)) (kpr : (Nat → Int32)) (kss : Int32) (kso : (Nat → Int32)) (ksq : (Nat → Int32)) (kes : Int32) (keo : (Nat → Int32)) (keq : (Nat → Int32)) (kgs : Int32) (kgo : (Nat → Int32)) (kgq : (Nat → Int32)) (okn : Int32) (org : Int64) (osi : Int32) (oti : Int32) (ole : Int32) (oto : Int32) (oow : Int64) (oco : Int64) (ost : (Nat → Int32)) (owa : (Nat → Int32)) (owv : (Nat → Int32)) (owh : (Nat → Int32)) (olo : (Nat → Int32)) (ohi : (Nat → Int32)) (ora : (Nat → Int32)) (odi : (Nat → Int32)) (oqu : (Nat → Int32)) (skd : Int32) (sdp : Int32) (sfd : Int32) (sop : (Nat → Int64)) (str : (Nat → Int32)) (spr : (Nat → UInt32)) (rsz : Int32) (rcl : Int32) (rsg : (Nat → Int32)) (rst : (Nat → Int32)) (mrg : Int64) (mkr : Int64) (mik : Int32) (msz : Int32) (gle : Int32) (gsu : Int32) (tat : Int32) (tfa : Int32) (cco : Int64) (cct : Int64) (cac : Int32) (caf : Int32) (cwe : UInt32) (ms : (Nat → Int32)) (mkp : (Nat → Int32)) (mtx : (Nat → Int32)) (mso : (Nat → Int32)) (mmy : (Nat → Int32)) (mit : (Nat → Int64)) (gma : (Nat → Int32)) (gpi : (Nat → Int32)) (gst : (Nat → Int32)) (ghe : (Nat → Int32)) (gow : (Nat → Int32)) (gfa : (Nat → Int32)) (gqu : (Nat → Int32)) (glo : (Nat → Int32)) (ghi : (Nat → Int32)) (gby : (Nat → Int32)) (gib : (Nat → Int32)) (tto : (Nat → Int32)) (cfo : (Nat → Int32)) (cff : (Nat → Int32)) (ccl : (Nat → Int32)) (tp : Nat → tTp) (T : sxH) : sxH :=
  ob 7 [.ref 1, .ref 15, .int im, .ref 29, .ref 39, .ref 43, .ref 46] ::
  ob 4 [.long nrg, .int nld, .ref 2, .ref 3, .ref 6, .ref 9, .ref 12] ::
  ai 36 nmt ::
  ob 1 [.int nps, .int npl, .ref 4, .ref 5] ::
  ai 40 npw ::
  ai 40 npr ::
  ob 2 [.int nss, .ref 7, .ref 8] ::
  ai 4 nso ::
  ai 4 nsq ::
  ob 2 [.int nes, .ref 10, .ref 11] ::
  ai 8 neo ::
  ai 8 neq ::
  ob 2 [.int ngs, .ref 13, .ref 14] ::
  ai 8 ngo ::
  ai 8 ngq ::
  ob 4 [.long krg, .int kld, .ref 16, .ref 17, .ref 20, .ref 23, .ref 26] ::
  ai 36 kmt ::
  ob 1 [.int kps, .int kpl, .ref 18, .ref 19] ::
  ai 40 kpw ::
  ai 40 kpr ::
  ob 2 [.int kss, .ref 21, .ref 22] ::
  ai 4 kso ::
  ai 4 ksq ::
  ob 2 [.int kes, .ref 24, .ref 25] ::
  ai 8 keo ::
  ai 8 keq ::
  ob 2 [.int kgs, .ref 27, .ref 28] ::
  ai 8 kgo ::
  ai 8 kgq ::
  ob 0 [.int okn, .long org, .int osi, .int oti, .int ole, .int oto, .long oow, .long oco, .ref 30, .ref 31, .ref 32, .ref 33, .ref 34, .ref 35, .ref 36, .ref 37, .ref 38] ::
  ai 49 ost ::
  ai 49 owa ::
  ai 49 owv ::
  ai 49 owh ::
  ai 49 olo ::
  ai 49 ohi ::
  ai 49 ora ::
  ai 49 odi ::
  ai 49 oqu ::
  ob 5 [.int skd, .int sdp, .int sfd, .ref 40, .ref 41, .ref 42] ::
  al 19 sop ::
  ai 19 str ::
  af 19 spr ::
  ob 3 [.int rsz, .int rcl, .ref 44, .ref 45] ::
  ai 100 rsg ::
  ai 12 rst ::
  .inl (4, 6, .inr (.inr (.inr (.inr tapeRefs)))) ::
  ob 6 [.int (tp 0).1, .int (tp 0).2.1, .ref 48] ::
  al 60 (tp 0).2.2 ::
  ob 6 [.int (tp 1).1, .int (tp 1).2.1, .ref 50] ::
  al 60 (tp 1).2.2 ::
  ob 6 [.int (tp 2).1, .int (tp 2).2.1, .ref 52] ::
  al 60 (tp 2).2.2 ::
  ob 6 [.int (tp 3).1, .int (tp 3).2.1, .ref 54] ::
  al 60 (tp 3).2.2 ::
  ob 6 [.int (tp 4).1, .int (tp 4).2.1, .ref 56] ::
  al 60 (tp 4).2.2 ::
  ob 6 [.int (tp 5).1, .int (tp 5).2.1, .ref 58] ::
  al 60 (tp 5).2.2 ::
  ob 8 [.long mrg, .long mkr, .ref 60, .ref 61, .int mik, .ref 62, .int msz, .ref 63, .ref 64, .ref 65, .ref 66, .ref 67, .int gle, .int gsu, .ref 68, .ref 69, .ref 70, .ref 71, .ref 72, .ref 73, .ref 74, .ref 75, .ref 76, .int tat, .int tfa, .ref 77, .long cco, .long cct, .int cac, .int caf, .float cwe, .ref 78, .ref 79, .ref 80] ::
  ai 122 ms ::
  ai 122 mkp ::
  ai 100 mtx ::
  ai 6 mso ::
  ai 6 mmy ::
  al 360 mit ::
  ai 64 gma ::
  ai 64 gpi ::
  ai 160 gst ::
  ai 49 ghe ::
  az 49 gow ::
  ai 2401 gfa ::
  ai 49 gqu ::
  ai 49 glo ::
  ai 49 ghi ::
  ai 49 gby ::
  az 49 gib ::
  ai 312 tto ::
  ai 36 cfo ::
  ai 36 cff ::
  ai 3 ccl :: T
