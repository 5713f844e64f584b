/-! names of the own classes (out of the printed names), the tables' good words -/
theorem goodIn_r {big : List Cond} (ws : List Cond) (ps : List Nat) (hp : ws = ps.filterMap (fun i => big[i]?)) (h : ws.all goodWord = true) : GoodIn big ws := by
  intro w hw
  have h1 := List.all_eq_true.mp h w hw
  rw [hp] at hw
  obtain ⟨i, -, hi⟩ := List.mem_filterMap.mp hw
  have hm : w ∈ big := by first | exact List.mem_of_getElem? hi | exact List.getElem?_mem hi
  exact ⟨hm, good_of_word h1⟩
theorem goodIn_app {big a b : List Cond} (ha : GoodIn big a) (hb : GoodIn big b) : GoodIn big (a ++ b) := fun w h => (List.mem_append.mp h).elim (ha w) (hb w)
theorem goodIn_ca {big a b : List Cond} {c : Cond} (ha : GoodIn big (c :: a)) (hb : GoodIn big b) : GoodIn big (c :: (a ++ b)) := fun w h => (List.mem_cons.mp h).elim (fun e => ha w (List.mem_cons.mpr (Or.inl e))) (fun h => (List.mem_append.mp h).elim (fun h => ha w (List.mem_cons.mpr (Or.inr h))) (hb w))
theorem goodIn_sub {big ws : List Cond} (hm : ∀ w ∈ ws, w ∈ big) (h : ws.all goodWord = true) : GoodIn big ws := fun w hw => ⟨hm w hw, good_of_word (List.all_eq_true.mp h w hw)⟩

def RX2 : String := "RegionWords$Outline"
def TX2 : u_T := fun k => match k with
  | 0 => ("RegionWords$Outline", "known", "Z", false)
  | 1 => ("RegionWords$Outline", "region", "J", false)
  | 2 => ("RegionWords$Outline", "simple", "Z", false)
  | 3 => ("RegionWords$Outline", "tilable", "Z", false)
  | 4 => ("RegionWords$Outline", "length", "I", false)
  | 5 => ("RegionWords$Outline", "total", "I", false)
  | 6 => ("RegionWords$Outline", "onWord", "J", false)
  | 7 => ("RegionWords$Outline", "corners", "J", false)
  | 8 => ("RegionWords$Outline", "steps", "[I", true)
  | 9 => ("RegionWords$Outline", "ways", "[I", true)
  | 10 => ("RegionWords$Outline", "wordVertices", "[I", true)
  | 11 => ("RegionWords$Outline", "wordHeights", "[I", true)
  | 12 => ("RegionWords$Outline", "lows", "[I", true)
  | 13 => ("RegionWords$Outline", "highs", "[I", true)
  | 14 => ("RegionWords$Outline", "raised", "[I", true)
  | 15 => ("RegionWords$Outline", "distances", "[I", true)
  | _ => ("RegionWords$Outline", "queue", "[I", true)
def tyX2 : Nat → FieldType := fun k => match k with
  | 0 => .boolean
  | 1 => .long
  | 2 => .boolean
  | 3 => .boolean
  | 4 => .int
  | 5 => .int
  | 6 => .long
  | 7 => .long
  | 8 => .array .int
  | 9 => .array .int
  | 10 => .array .int
  | 11 => .array .int
  | 12 => .array .int
  | 13 => .array .int
  | 14 => .array .int
  | 15 => .array .int
  | _ => .array .int
theorem nmX2 : ∀ a, a < 17 → ∀ b, b < 17 → a ≠ b → (TX2 a).2.1 ≠ (TX2 b).2.1 := by decide +kernel
theorem tyX2_ok : ∀ k, k < 17 → parseFieldDescriptor (TX2 k).2.2.1 = some (tyX2 k) := by decide +kernel
def RX3 : String := "RegionWords$Path"
def TX3 : u_T := fun k => match k with
  | 0 => ("RegionWords$Path", "start", "I", false)
  | 1 => ("RegionWords$Path", "length", "I", false)
  | 2 => ("RegionWords$Path", "ways", "[I", true)
  | _ => ("RegionWords$Path", "rest", "[I", true)
def tyX3 : Nat → FieldType := fun k => match k with
  | 0 => .int
  | 1 => .int
  | 2 => .array .int
  | _ => .array .int
theorem nmX3 : ∀ a, a < 4 → ∀ b, b < 4 → a ≠ b → (TX3 a).2.1 ≠ (TX3 b).2.1 := by decide +kernel
theorem tyX3_ok : ∀ k, k < 4 → parseFieldDescriptor (TX3 k).2.2.1 = some (tyX3 k) := by decide +kernel
def RX4 : String := "RegionWords$Rows"
def TX4 : u_T := fun k => match k with
  | 0 => ("RegionWords$Rows", "size", "I", false)
  | 1 => ("RegionWords$Rows", "ones", "[I", true)
  | _ => ("RegionWords$Rows", "others", "[I", true)
def tyX4 : Nat → FieldType := fun k => match k with
  | 0 => .int
  | 1 => .array .int
  | _ => .array .int
theorem nmX4 : ∀ a, a < 3 → ∀ b, b < 3 → a ≠ b → (TX4 a).2.1 ≠ (TX4 b).2.1 := by decide +kernel
theorem tyX4_ok : ∀ k, k < 3 → parseFieldDescriptor (TX4 k).2.2.1 = some (tyX4 k) := by decide +kernel
def RX5 : String := "RegionWords$Script"
def TX5 : u_T := fun k => match k with
  | 0 => ("RegionWords$Script", "size", "I", false)
  | 1 => ("RegionWords$Script", "clauses", "I", false)
  | 2 => ("RegionWords$Script", "signs", "[I", true)
  | _ => ("RegionWords$Script", "starts", "[I", true)
def tyX5 : Nat → FieldType := fun k => match k with
  | 0 => .int
  | 1 => .int
  | 2 => .array .int
  | _ => .array .int
theorem nmX5 : ∀ a, a < 4 → ∀ b, b < 4 → a ≠ b → (TX5 a).2.1 ≠ (TX5 b).2.1 := by decide +kernel
theorem tyX5_ok : ∀ k, k < 4 → parseFieldDescriptor (TX5 k).2.2.1 = some (tyX5 k) := by decide +kernel
def RX6 : String := "RegionWords$State"
def TX6 : u_T := fun k => match k with
  | 0 => ("RegionWords$State", "region", "J", false)
  | 1 => ("RegionWords$State", "laid", "Z", false)
  | 2 => ("RegionWords$State", "mates", "[I", true)
  | 3 => ("RegionWords$State", "path", "LRegionWords$Path;", true)
  | 4 => ("RegionWords$State", "seen", "LRegionWords$Rows;", true)
  | 5 => ("RegionWords$State", "events", "LRegionWords$Rows;", true)
  | _ => ("RegionWords$State", "pages", "LRegionWords$Rows;", true)
def tyX6 : Nat → FieldType := fun k => match k with
  | 0 => .long
  | 1 => .boolean
  | 2 => .array .int
  | 3 => .object "RegionWords$Path"
  | 4 => .object "RegionWords$Rows"
  | 5 => .object "RegionWords$Rows"
  | _ => .object "RegionWords$Rows"
theorem nmX6 : ∀ a, a < 7 → ∀ b, b < 7 → a ≠ b → (TX6 a).2.1 ≠ (TX6 b).2.1 := by decide +kernel
theorem tyX6_ok : ∀ k, k < 7 → parseFieldDescriptor (TX6 k).2.2.1 = some (tyX6 k) := by decide +kernel
def RX7 : String := "RegionWords$Stones"
def TX7 : u_T := fun k => match k with
  | 0 => ("RegionWords$Stones", "kind", "I", false)
  | 1 => ("RegionWords$Stones", "depth", "I", false)
  | 2 => ("RegionWords$Stones", "found", "Z", false)
  | 3 => ("RegionWords$Stones", "open", "[J", true)
  | 4 => ("RegionWords$Stones", "tried", "[I", true)
  | _ => ("RegionWords$Stones", "products", "[F", true)
def tyX7 : Nat → FieldType := fun k => match k with
  | 0 => .int
  | 1 => .int
  | 2 => .boolean
  | 3 => .array .long
  | 4 => .array .int
  | _ => .array .float
theorem nmX7 : ∀ a, a < 6 → ∀ b, b < 6 → a ≠ b → (TX7 a).2.1 ≠ (TX7 b).2.1 := by decide +kernel
theorem tyX7_ok : ∀ k, k < 6 → parseFieldDescriptor (TX7 k).2.2.1 = some (tyX7 k) := by decide +kernel
def RX8 : String := "RegionWords$Tape"
def TX8 : u_T := fun k => match k with
  | 0 => ("RegionWords$Tape", "sort", "I", false)
  | 1 => ("RegionWords$Tape", "size", "I", false)
  | _ => ("RegionWords$Tape", "items", "[J", true)
def tyX8 : Nat → FieldType := fun k => match k with
  | 0 => .int
  | 1 => .int
  | _ => .array .long
theorem nmX8 : ∀ a, a < 3 → ∀ b, b < 3 → a ≠ b → (TX8 a).2.1 ≠ (TX8 b).2.1 := by decide +kernel
theorem tyX8_ok : ∀ k, k < 3 → parseFieldDescriptor (TX8 k).2.2.1 = some (tyX8 k) := by decide +kernel
def RX9 : String := "RegionWords"
def TX9 : u_T := fun k => match k with
  | 0 => ("RegionWords", "now", "LRegionWords$State;", true)
  | 1 => ("RegionWords", "kept", "LRegionWords$State;", true)
  | 2 => ("RegionWords", "imaged", "Z", false)
  | 3 => ("RegionWords", "outline", "LRegionWords$Outline;", true)
  | 4 => ("RegionWords", "stones", "LRegionWords$Stones;", true)
  | 5 => ("RegionWords", "script", "LRegionWords$Script;", true)
  | _ => ("RegionWords", "tapes", "[LRegionWords$Tape;", true)
def tyX9 : Nat → FieldType := fun k => match k with
  | 0 => .object "RegionWords$State"
  | 1 => .object "RegionWords$State"
  | 2 => .boolean
  | 3 => .object "RegionWords$Outline"
  | 4 => .object "RegionWords$Stones"
  | 5 => .object "RegionWords$Script"
  | _ => .array (.object "RegionWords$Tape")
theorem nmX9 : ∀ a, a < 7 → ∀ b, b < 7 → a ≠ b → (TX9 a).2.1 ≠ (TX9 b).2.1 := by decide +kernel
theorem tyX9_ok : ∀ k, k < 7 → parseFieldDescriptor (TX9 k).2.2.1 = some (tyX9 k) := by decide +kernel
def RX10 : String := "RegionWordsModel"
def TX10 : u_T := fun k => match k with
  | 0 => ("RegionWordsModel", "region", "J", false)
  | 1 => ("RegionWordsModel", "keptRegion", "J", false)
  | 2 => ("RegionWordsModel", "s", "[I", true)
  | 3 => ("RegionWordsModel", "kept", "[I", true)
  | 4 => ("RegionWordsModel", "isKept", "Z", false)
  | 5 => ("RegionWordsModel", "text", "[I", true)
  | 6 => ("RegionWordsModel", "size", "I", false)
  | 7 => ("RegionWordsModel", "sort", "[I", true)
  | 8 => ("RegionWordsModel", "many", "[I", true)
  | 9 => ("RegionWordsModel", "items", "[J", true)
  | 10 => ("RegionWordsModel", "mark", "[I", true)
  | 11 => ("RegionWordsModel", "pile", "[I", true)
  | 12 => ("RegionWordsModel", "length", "I", false)
  | 13 => ("RegionWordsModel", "sum", "I", false)
  | 14 => ("RegionWordsModel", "step", "[I", true)
  | 15 => ("RegionWordsModel", "height", "[I", true)
  | 16 => ("RegionWordsModel", "onWord", "[Z", true)
  | 17 => ("RegionWordsModel", "far", "[I", true)
  | 18 => ("RegionWordsModel", "queue", "[I", true)
  | 19 => ("RegionWordsModel", "low", "[I", true)
  | 20 => ("RegionWordsModel", "high", "[I", true)
  | 21 => ("RegionWordsModel", "by", "[I", true)
  | 22 => ("RegionWordsModel", "isBy", "[Z", true)
  | 23 => ("RegionWordsModel", "at", "I", false)
  | 24 => ("RegionWordsModel", "fault", "I", false)
  | 25 => ("RegionWordsModel", "told", "[I", true)
  | 26 => ("RegionWordsModel", "coverings", "J", false)
  | 27 => ("RegionWordsModel", "counted", "J", false)
  | 28 => ("RegionWordsModel", "askedCell", "I", false)
  | 29 => ("RegionWordsModel", "askedForm", "I", false)
  | 30 => ("RegionWordsModel", "weights", "F", false)
  | 31 => ("RegionWordsModel", "form", "[I", true)
  | 32 => ("RegionWordsModel", "firstForm", "[I", true)
  | _ => ("RegionWordsModel", "colour", "[I", true)
def tyX10 : Nat → FieldType := fun k => match k with
  | 0 => .long
  | 1 => .long
  | 2 => .array .int
  | 3 => .array .int
  | 4 => .boolean
  | 5 => .array .int
  | 6 => .int
  | 7 => .array .int
  | 8 => .array .int
  | 9 => .array .long
  | 10 => .array .int
  | 11 => .array .int
  | 12 => .int
  | 13 => .int
  | 14 => .array .int
  | 15 => .array .int
  | 16 => .array .boolean
  | 17 => .array .int
  | 18 => .array .int
  | 19 => .array .int
  | 20 => .array .int
  | 21 => .array .int
  | 22 => .array .boolean
  | 23 => .int
  | 24 => .int
  | 25 => .array .int
  | 26 => .long
  | 27 => .long
  | 28 => .int
  | 29 => .int
  | 30 => .float
  | 31 => .array .int
  | 32 => .array .int
  | _ => .array .int
theorem nmX10 : ∀ a, a < 34 → ∀ b, b < 34 → a ≠ b → (TX10 a).2.1 ≠ (TX10 b).2.1 := by decide +kernel
theorem tyX10_ok : ∀ k, k < 34 → parseFieldDescriptor (TX10 k).2.2.1 = some (tyX10 k) := by decide +kernel
abbrev vwCl : List vw_C := [(RX2, TX2, 17), (RX3, TX3, 4), (RX4, TX4, 3), (RX5, TX5, 4), (RX6, TX6, 7), (RX7, TX7, 6), (RX8, TX8, 3), (RX9, TX9, 7), (RX10, TX10, 34)]
def sxTB : List Cond := lw_tbl.filter goodWord
theorem sxTB_mem {i : Nat} {w : Cond} (h : lw_tbl[i]? = some w) (hg : goodWord w = true) : w ∈ sxTB := List.mem_filter.mpr ⟨List.mem_of_getElem? h, hg⟩
theorem lay_RX2 : ∀ w ∈ u_ws RX2 TX2 17, w ∈ sxTB := by
  have h : GoodIn lw_tbl (u_ws RX2 TX2 17) := goodIn_r _ [194, 196, 198, 200, 202, 204, 206, 208, 210, 212, 214, 216, 218, 220, 222, 224, 226] (by decide +kernel) (by decide +kernel)
  have g : (u_ws RX2 TX2 17).all goodWord = true := by decide +kernel
  exact fun w hw => List.mem_filter.mpr ⟨(h w hw).1, List.all_eq_true.mp g w hw⟩
theorem lay_RX3 : ∀ w ∈ u_ws RX3 TX3 4, w ∈ sxTB := by
  have h : GoodIn lw_tbl (u_ws RX3 TX3 4) := goodIn_r _ [111, 113, 115, 117] (by decide +kernel) (by decide +kernel)
  have g : (u_ws RX3 TX3 4).all goodWord = true := by decide +kernel
  exact fun w hw => List.mem_filter.mpr ⟨(h w hw).1, List.all_eq_true.mp g w hw⟩
theorem lay_RX4 : ∀ w ∈ u_ws RX4 TX4 3, w ∈ sxTB := by
  have h : GoodIn lw_tbl (u_ws RX4 TX4 3) := goodIn_r _ [131, 133, 135] (by decide +kernel) (by decide +kernel)
  have g : (u_ws RX4 TX4 3).all goodWord = true := by decide +kernel
  exact fun w hw => List.mem_filter.mpr ⟨(h w hw).1, List.all_eq_true.mp g w hw⟩
theorem lay_RX5 : ∀ w ∈ u_ws RX5 TX5 4, w ∈ sxTB := by
  have h : GoodIn lw_tbl (u_ws RX5 TX5 4) := goodIn_r _ [268, 270, 272, 274] (by decide +kernel) (by decide +kernel)
  have g : (u_ws RX5 TX5 4).all goodWord = true := by decide +kernel
  exact fun w hw => List.mem_filter.mpr ⟨(h w hw).1, List.all_eq_true.mp g w hw⟩
theorem lay_RX6 : ∀ w ∈ u_ws RX6 TX6 7, w ∈ sxTB := by
  have h : GoodIn lw_tbl (u_ws RX6 TX6 7) := goodIn_r _ [151, 153, 155, 157, 159, 161, 163] (by decide +kernel) (by decide +kernel)
  have g : (u_ws RX6 TX6 7).all goodWord = true := by decide +kernel
  exact fun w hw => List.mem_filter.mpr ⟨(h w hw).1, List.all_eq_true.mp g w hw⟩
theorem lay_RX7 : ∀ w ∈ u_ws RX7 TX7 6, w ∈ sxTB := by
  have h : GoodIn lw_tbl (u_ws RX7 TX7 6) := goodIn_r _ [241, 243, 245, 247, 249, 251] (by decide +kernel) (by decide +kernel)
  have g : (u_ws RX7 TX7 6).all goodWord = true := by decide +kernel
  exact fun w hw => List.mem_filter.mpr ⟨(h w hw).1, List.all_eq_true.mp g w hw⟩
theorem lay_RX8 : ∀ w ∈ u_ws RX8 TX8 3, w ∈ sxTB := by
  have h : GoodIn lw_tbl (u_ws RX8 TX8 3) := goodIn_r _ [288, 290, 292] (by decide +kernel) (by decide +kernel)
  have g : (u_ws RX8 TX8 3).all goodWord = true := by decide +kernel
  exact fun w hw => List.mem_filter.mpr ⟨(h w hw).1, List.all_eq_true.mp g w hw⟩
theorem lay_RX9 : ∀ w ∈ u_ws RX9 TX9 7, w ∈ sxTB := by
  have h : GoodIn lw_tbl (u_ws RX9 TX9 7) := goodIn_r _ [302, 304, 306, 308, 310, 312, 314] (by decide +kernel) (by decide +kernel)
  have g : (u_ws RX9 TX9 7).all goodWord = true := by decide +kernel
  exact fun w hw => List.mem_filter.mpr ⟨(h w hw).1, List.all_eq_true.mp g w hw⟩
theorem lay_RX10 : ∀ w ∈ u_ws RX10 TX10 34, w ∈ sxTB := by
  have h : GoodIn lw_tbl (u_ws RX10 TX10 34) := goodIn_r _ [950, 952, 954, 956, 958, 960, 962, 964, 966, 968, 970, 972, 974, 976, 978, 980, 982, 984, 986, 988, 990, 992, 994, 996, 998, 1000, 1002, 1004, 1006, 1008, 1010, 1012, 1014, 1016] (by decide +kernel) (by decide +kernel)
  have g : (u_ws RX10 TX10 34).all goodWord = true := by decide +kernel
  exact fun w hw => List.mem_filter.mpr ⟨(h w hw).1, List.all_eq_true.mp g w hw⟩
