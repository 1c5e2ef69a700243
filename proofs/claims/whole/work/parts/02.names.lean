/-! names, fields of the classes (pasted from NAMES.whole), and the places of their words (by program) -/
def RX0 : String := "OwedToWinds$Coins"
def TX0 : u_T := fun k => match k with
  | _ => ("OwedToWinds$Coins", "fewest", "[I", true)
def tyX0 : Nat → FieldType := fun k => match k with
  | _ => .array .int
abbrev wsX00 : List Cond := u_ws RX0 TX0 1
theorem nmX0 : ∀ a, a < 1 → ∀ b, b < 1 → a ≠ b → (TX0 a).2.1 ≠ (TX0 b).2.1 := by decide +kernel
theorem tyX0_ok : ∀ k, k < 1 → parseFieldDescriptor (TX0 k).2.2.1 = some (tyX0 k) := by decide +kernel
def RX1 : String := "OwedToWinds$Days"
def TX1 : u_T := fun k => match k with
  | 0 => ("OwedToWinds$Days", "world", "LOwedToWinds$World;", true)
  | 1 => ("OwedToWinds$Days", "laws", "LOwedToWinds$Laws;", true)
  | 2 => ("OwedToWinds$Days", "wind", "I", false)
  | 3 => ("OwedToWinds$Days", "force", "I", false)
  | _ => ("OwedToWinds$Days", "took", "I", false)
def tyX1 : Nat → FieldType := fun k => match k with
  | 0 => .object "OwedToWinds$World"
  | 1 => .object "OwedToWinds$Laws"
  | 2 => .int
  | 3 => .int
  | _ => .int
abbrev wsX10 : List Cond := u_ws RX1 TX1 5
theorem nmX1 : ∀ a, a < 5 → ∀ b, b < 5 → a ≠ b → (TX1 a).2.1 ≠ (TX1 b).2.1 := by decide +kernel
theorem tyX1_ok : ∀ k, k < 5 → parseFieldDescriptor (TX1 k).2.2.1 = some (tyX1 k) := by decide +kernel
def RX2 : String := "OwedToWinds$Foresight"
def TX2 : u_T := fun k => match k with
  | 0 => ("OwedToWinds$Foresight", "world", "LOwedToWinds$World;", true)
  | 1 => ("OwedToWinds$Foresight", "days", "LOwedToWinds$Days;", true)
  | 2 => ("OwedToWinds$Foresight", "asNow", "[I", true)
  | 3 => ("OwedToWinds$Foresight", "leastPence", "I", false)
  | 4 => ("OwedToWinds$Foresight", "leastSet", "I", false)
  | 5 => ("OwedToWinds$Foresight", "calmDays", "I", false)
  | 6 => ("OwedToWinds$Foresight", "longestCalm", "I", false)
  | 7 => ("OwedToWinds$Foresight", "speeds", "[I", true)
  | 8 => ("OwedToWinds$Foresight", "passed", "I", false)
  | _ => ("OwedToWinds$Foresight", "reached", "[I", true)
def tyX2 : Nat → FieldType := fun k => match k with
  | 0 => .object "OwedToWinds$World"
  | 1 => .object "OwedToWinds$Days"
  | 2 => .array .int
  | 3 => .int
  | 4 => .int
  | 5 => .int
  | 6 => .int
  | 7 => .array .int
  | 8 => .int
  | _ => .array .int
abbrev wsX20 : List Cond := u_ws RX2 TX2 10
theorem nmX2 : ∀ a, a < 10 → ∀ b, b < 10 → a ≠ b → (TX2 a).2.1 ≠ (TX2 b).2.1 := by decide +kernel
theorem tyX2_ok : ∀ k, k < 10 → parseFieldDescriptor (TX2 k).2.2.1 = some (tyX2 k) := by decide +kernel
def RX3 : String := "OwedToWinds$Fraction"
def TX3 : u_T := fun k => match k with
  | 0 => ("OwedToWinds$Fraction", "upper", "J", false)
  | _ => ("OwedToWinds$Fraction", "lower", "J", false)
def tyX3 : Nat → FieldType := fun k => match k with
  | 0 => .long
  | _ => .long
abbrev wsX30 : List Cond := u_ws RX3 TX3 2
theorem nmX3 : ∀ a, a < 2 → ∀ b, b < 2 → a ≠ b → (TX3 a).2.1 ≠ (TX3 b).2.1 := by decide +kernel
theorem tyX3_ok : ∀ k, k < 2 → parseFieldDescriptor (TX3 k).2.2.1 = some (tyX3 k) := by decide +kernel
def RX4 : String := "OwedToWinds$Laws"
def TX4 : u_T := fun k => match k with
  | 0 => ("OwedToWinds$Laws", "world", "LOwedToWinds$World;", true)
  | 1 => ("OwedToWinds$Laws", "texts", "[LOwedToWinds$Text;", true)
  | _ => ("OwedToWinds$Laws", "stack", "[I", true)
def tyX4 : Nat → FieldType := fun k => match k with
  | 0 => .object "OwedToWinds$World"
  | 1 => .array (.object "OwedToWinds$Text")
  | _ => .array .int
abbrev wsX40 : List Cond := u_ws RX4 TX4 3
theorem nmX4 : ∀ a, a < 3 → ∀ b, b < 3 → a ≠ b → (TX4 a).2.1 ≠ (TX4 b).2.1 := by decide +kernel
theorem tyX4_ok : ∀ k, k < 3 → parseFieldDescriptor (TX4 k).2.2.1 = some (tyX4 k) := by decide +kernel
def RX5 : String := "OwedToWinds$Reader"
def TX5 : u_T := fun k => match k with
  | 0 => ("OwedToWinds$Reader", "tape", "[I", true)
  | 1 => ("OwedToWinds$Reader", "length", "I", false)
  | 2 => ("OwedToWinds$Reader", "begin", "I", false)
  | 3 => ("OwedToWinds$Reader", "end", "I", false)
  | 4 => ("OwedToWinds$Reader", "word", "LOwedToWinds$Word;", false)
  | 5 => ("OwedToWinds$Reader", "number", "I", false)
  | 6 => ("OwedToWinds$Reader", "text", "LOwedToWinds$Text;", false)
  | 7 => ("OwedToWinds$Reader", "law", "I", false)
  | 8 => ("OwedToWinds$Reader", "wanting", "Z", false)
  | 9 => ("OwedToWinds$Reader", "whole", "Z", false)
  | 10 => ("OwedToWinds$Reader", "open", "[LOwedToWinds$Word;", true)
  | 11 => ("OwedToWinds$Reader", "opens", "I", false)
  | 12 => ("OwedToWinds$Reader", "depth", "I", false)
  | 13 => ("OwedToWinds$Reader", "fault", "I", false)
  | _ => ("OwedToWinds$Reader", "place", "I", false)
def tyX5 : Nat → FieldType := fun k => match k with
  | 0 => .array .int
  | 1 => .int
  | 2 => .int
  | 3 => .int
  | 4 => .object "OwedToWinds$Word"
  | 5 => .int
  | 6 => .object "OwedToWinds$Text"
  | 7 => .int
  | 8 => .boolean
  | 9 => .boolean
  | 10 => .array (.object "OwedToWinds$Word")
  | 11 => .int
  | 12 => .int
  | 13 => .int
  | _ => .int
abbrev wsX50 : List Cond := u_ws RX5 TX5 15
theorem nmX5 : ∀ a, a < 15 → ∀ b, b < 15 → a ≠ b → (TX5 a).2.1 ≠ (TX5 b).2.1 := by decide +kernel
theorem tyX5_ok : ∀ k, k < 15 → parseFieldDescriptor (TX5 k).2.2.1 = some (tyX5 k) := by decide +kernel
def RX6 : String := "OwedToWinds$Riddles"
def TX6 : u_T := fun k => match k with
  | 0 => ("OwedToWinds$Riddles", "world", "LOwedToWinds$World;", true)
  | 1 => ("OwedToWinds$Riddles", "laws", "LOwedToWinds$Laws;", true)
  | 2 => ("OwedToWinds$Riddles", "takes", "[I", true)
  | 3 => ("OwedToWinds$Riddles", "fitting", "[I", true)
  | 4 => ("OwedToWinds$Riddles", "seen", "[Z", true)
  | _ => ("OwedToWinds$Riddles", "blowsSo", "[Z", true)
def tyX6 : Nat → FieldType := fun k => match k with
  | 0 => .object "OwedToWinds$World"
  | 1 => .object "OwedToWinds$Laws"
  | 2 => .array .int
  | 3 => .array .int
  | 4 => .array .boolean
  | _ => .array .boolean
abbrev wsX60 : List Cond := u_ws RX6 TX6 6
theorem nmX6 : ∀ a, a < 6 → ∀ b, b < 6 → a ≠ b → (TX6 a).2.1 ≠ (TX6 b).2.1 := by decide +kernel
theorem tyX6_ok : ∀ k, k < 6 → parseFieldDescriptor (TX6 k).2.2.1 = some (tyX6 k) := by decide +kernel
def RX7 : String := "OwedToWinds$Text"
def TX7 : u_T := fun k => match k with
  | 0 => ("OwedToWinds$Text", "code", "[I", true)
  | 1 => ("OwedToWinds$Text", "size", "I", false)
  | 2 => ("OwedToWinds$Text", "from", "[I", true)
  | 3 => ("OwedToWinds$Text", "to", "[I", true)
  | 4 => ("OwedToWinds$Text", "clauses", "[I", true)
  | _ => ("OwedToWinds$Text", "count", "I", false)
def tyX7 : Nat → FieldType := fun k => match k with
  | 0 => .array .int
  | 1 => .int
  | 2 => .array .int
  | 3 => .array .int
  | 4 => .array .int
  | _ => .int
abbrev wsX70 : List Cond := u_ws RX7 TX7 6
theorem nmX7 : ∀ a, a < 6 → ∀ b, b < 6 → a ≠ b → (TX7 a).2.1 ≠ (TX7 b).2.1 := by decide +kernel
theorem tyX7_ok : ∀ k, k < 6 → parseFieldDescriptor (TX7 k).2.2.1 = some (tyX7 k) := by decide +kernel
def RX8 : String := "OwedToWinds$Word"
def TX8 : u_T := fun k => match k with
  | _ => ("", "", "", false)
def tyX8 : Nat → FieldType := fun k => match k with
  | _ => .int
abbrev wsX80 : List Cond := u_ws RX8 TX8 0
theorem nmX8 : ∀ a, a < 0 → ∀ b, b < 0 → a ≠ b → (TX8 a).2.1 ≠ (TX8 b).2.1 := by decide +kernel
theorem tyX8_ok : ∀ k, k < 0 → parseFieldDescriptor (TX8 k).2.2.1 = some (tyX8 k) := by decide +kernel
def RX9 : String := "OwedToWinds$World"
def TX9 : u_T := fun k => match k with
  | 0 => ("OwedToWinds$World", "row", "[I", true)
  | 1 => ("OwedToWinds$World", "kept", "[[I", true)
  | 2 => ("OwedToWinds$World", "nextKept", "I", false)
  | 3 => ("OwedToWinds$World", "steps", "I", false)
  | 4 => ("OwedToWinds$World", "winds", "I", false)
  | 5 => ("OwedToWinds$World", "quarter", "[I", true)
  | 6 => ("OwedToWinds$World", "villages", "I", false)
  | 7 => ("OwedToWinds$World", "roof", "[I", true)
  | 8 => ("OwedToWinds$World", "ways", "[I", true)
  | 9 => ("OwedToWinds$World", "texts", "I", false)
  | 10 => ("OwedToWinds$World", "ruling", "I", false)
  | 11 => ("OwedToWinds$World", "tooks", "I", false)
  | 12 => ("OwedToWinds$World", "tookFrom", "[I", true)
  | 13 => ("OwedToWinds$World", "tookWhat", "[I", true)
  | 14 => ("OwedToWinds$World", "sails", "I", false)
  | 15 => ("OwedToWinds$World", "sail", "[I", true)
  | 16 => ("OwedToWinds$World", "kinds", "I", false)
  | _ => ("OwedToWinds$World", "kind", "[I", true)
def tyX9 : Nat → FieldType := fun k => match k with
  | 0 => .array .int
  | 1 => .array (.array .int)
  | 2 => .int
  | 3 => .int
  | 4 => .int
  | 5 => .array .int
  | 6 => .int
  | 7 => .array .int
  | 8 => .array .int
  | 9 => .int
  | 10 => .int
  | 11 => .int
  | 12 => .array .int
  | 13 => .array .int
  | 14 => .int
  | 15 => .array .int
  | 16 => .int
  | _ => .array .int
abbrev wsX90 : List Cond := u_ws RX9 TX9 18
theorem nmX9 : ∀ a, a < 18 → ∀ b, b < 18 → a ≠ b → (TX9 a).2.1 ≠ (TX9 b).2.1 := by decide +kernel
theorem tyX9_ok : ∀ k, k < 18 → parseFieldDescriptor (TX9 k).2.2.1 = some (tyX9 k) := by decide +kernel
def RX10 : String := "OwedToWinds"
def TX10 : u_T := fun k => match k with
  | 0 => ("OwedToWinds", "world", "LOwedToWinds$World;", true)
  | 1 => ("OwedToWinds", "image", "LOwedToWinds$World;", true)
  | 2 => ("OwedToWinds", "texts", "[LOwedToWinds$Text;", true)
  | 3 => ("OwedToWinds", "tape", "[I", true)
  | 4 => ("OwedToWinds", "bytes", "I", false)
  | 5 => ("OwedToWinds", "reader", "LOwedToWinds$Reader;", true)
  | 6 => ("OwedToWinds", "days", "LOwedToWinds$Days;", true)
  | 7 => ("OwedToWinds", "foresight", "LOwedToWinds$Foresight;", true)
  | 8 => ("OwedToWinds", "riddles", "LOwedToWinds$Riddles;", true)
  | 9 => ("OwedToWinds", "laws", "LOwedToWinds$Laws;", true)
  | 10 => ("OwedToWinds", "fraction", "LOwedToWinds$Fraction;", true)
  | _ => ("OwedToWinds", "coins", "LOwedToWinds$Coins;", true)
def tyX10 : Nat → FieldType := fun k => match k with
  | 0 => .object "OwedToWinds$World"
  | 1 => .object "OwedToWinds$World"
  | 2 => .array (.object "OwedToWinds$Text")
  | 3 => .array .int
  | 4 => .int
  | 5 => .object "OwedToWinds$Reader"
  | 6 => .object "OwedToWinds$Days"
  | 7 => .object "OwedToWinds$Foresight"
  | 8 => .object "OwedToWinds$Riddles"
  | 9 => .object "OwedToWinds$Laws"
  | 10 => .object "OwedToWinds$Fraction"
  | _ => .object "OwedToWinds$Coins"
abbrev wsX100 : List Cond := u_ws RX10 TX10 12
theorem nmX10 : ∀ a, a < 12 → ∀ b, b < 12 → a ≠ b → (TX10 a).2.1 ≠ (TX10 b).2.1 := by decide +kernel
theorem tyX10_ok : ∀ k, k < 12 → parseFieldDescriptor (TX10 k).2.2.1 = some (tyX10 k) := by decide +kernel
def RX11 : String := "OwedToWindsModel"
def TX11 : u_T := fun k => match k with
  | 0 => ("OwedToWindsModel", "a", "[I", true)
  | 1 => ("OwedToWindsModel", "image", "[I", true)
  | 2 => ("OwedToWindsModel", "texts", "[I", true)
  | 3 => ("OwedToWindsModel", "tape", "[I", true)
  | 4 => ("OwedToWindsModel", "taped", "I", false)
  | 5 => ("OwedToWindsModel", "fault", "I", false)
  | 6 => ("OwedToWindsModel", "faultPlace", "I", false)
  | 7 => ("OwedToWindsModel", "at", "I", false)
  | 8 => ("OwedToWindsModel", "place", "I", false)
  | 9 => ("OwedToWindsModel", "token", "I", false)
  | 10 => ("OwedToWindsModel", "number", "I", false)
  | 11 => ("OwedToWindsModel", "word", "J", false)
  | 12 => ("OwedToWindsModel", "text0", "I", false)
  | 13 => ("OwedToWindsModel", "written", "I", false)
  | 14 => ("OwedToWindsModel", "sort0", "I", false)
  | 15 => ("OwedToWindsModel", "pile", "[I", true)
  | 16 => ("OwedToWindsModel", "piled", "I", false)
  | 17 => ("OwedToWindsModel", "opens", "I", false)
  | 18 => ("OwedToWindsModel", "isWhole", "Z", false)
  | 19 => ("OwedToWindsModel", "isEither", "Z", false)
  | 20 => ("OwedToWindsModel", "once", "I", false)
  | 21 => ("OwedToWindsModel", "named", "[I", true)
  | 22 => ("OwedToWindsModel", "values", "[J", true)
  | 23 => ("OwedToWindsModel", "truth", "[Z", true)
  | 24 => ("OwedToWindsModel", "isWritten", "Z", false)
  | 25 => ("OwedToWindsModel", "windNow", "I", false)
  | 26 => ("OwedToWindsModel", "forceNow", "I", false)
  | 27 => ("OwedToWindsModel", "tookNow", "I", false)
  | 28 => ("OwedToWindsModel", "taken", "I", false)
  | 29 => ("OwedToWindsModel", "aside", "[I", true)
  | 30 => ("OwedToWindsModel", "cost", "[I", true)
  | 31 => ("OwedToWindsModel", "member", "[I", true)
  | 32 => ("OwedToWindsModel", "row", "[I", true)
  | 33 => ("OwedToWindsModel", "speeds", "[I", true)
  | 34 => ("OwedToWindsModel", "soonest", "[I", true)
  | 35 => ("OwedToWindsModel", "days", "I", false)
  | 36 => ("OwedToWindsModel", "answered", "[Z", true)
  | _ => ("OwedToWindsModel", "pieces", "[I", true)
def tyX11 : Nat → FieldType := fun k => match k with
  | 0 => .array .int
  | 1 => .array .int
  | 2 => .array .int
  | 3 => .array .int
  | 4 => .int
  | 5 => .int
  | 6 => .int
  | 7 => .int
  | 8 => .int
  | 9 => .int
  | 10 => .int
  | 11 => .long
  | 12 => .int
  | 13 => .int
  | 14 => .int
  | 15 => .array .int
  | 16 => .int
  | 17 => .int
  | 18 => .boolean
  | 19 => .boolean
  | 20 => .int
  | 21 => .array .int
  | 22 => .array .long
  | 23 => .array .boolean
  | 24 => .boolean
  | 25 => .int
  | 26 => .int
  | 27 => .int
  | 28 => .int
  | 29 => .array .int
  | 30 => .array .int
  | 31 => .array .int
  | 32 => .array .int
  | 33 => .array .int
  | 34 => .array .int
  | 35 => .int
  | 36 => .array .boolean
  | _ => .array .int
abbrev wsX110 : List Cond := u_ws RX11 TX11 38
theorem nmX11 : ∀ a, a < 38 → ∀ b, b < 38 → a ≠ b → (TX11 a).2.1 ≠ (TX11 b).2.1 := by decide +kernel
theorem tyX11_ok : ∀ k, k < 38 → parseFieldDescriptor (TX11 k).2.2.1 = some (tyX11 k) := by decide +kernel
/-- the words that hold on, whatever the machine warms up -/
def gtb : List Cond := lw_tbl.filter goodWord
theorem tb0 {w : Cond} (i : Nat) (h : tables_1_1[i]? = some w) (hg : goodWord w = true := by rfl) : w ∈ gtb := List.mem_filter.mpr ⟨List.mem_append_right _ (show w ∈ tables_1 from List.mem_append_left _ (List.mem_of_getElem? h)), hg⟩
theorem tb1 {w : Cond} (i : Nat) (h : tables_1_2[i]? = some w) (hg : goodWord w = true := by rfl) : w ∈ gtb := List.mem_filter.mpr ⟨List.mem_append_right _ (show w ∈ tables_1 from List.mem_append_right _ (List.mem_append_left _ (List.mem_of_getElem? h))), hg⟩
theorem tb2 {w : Cond} (i : Nat) (h : tables_1_3[i]? = some w) (hg : goodWord w = true := by rfl) : w ∈ gtb := List.mem_filter.mpr ⟨List.mem_append_right _ (show w ∈ tables_1 from List.mem_append_right _ (List.mem_append_right _ (List.mem_append_left _ (List.mem_of_getElem? h)))), hg⟩
theorem tb3 {w : Cond} (i : Nat) (h : tables_1_4[i]? = some w) (hg : goodWord w = true := by rfl) : w ∈ gtb := List.mem_filter.mpr ⟨List.mem_append_right _ (show w ∈ tables_1 from List.mem_append_right _ (List.mem_append_right _ (List.mem_append_right _ (List.mem_append_left _ (List.mem_of_getElem? h))))), hg⟩
theorem tb4 {w : Cond} (i : Nat) (h : tables_1_5[i]? = some w) (hg : goodWord w = true := by rfl) : w ∈ gtb := List.mem_filter.mpr ⟨List.mem_append_right _ (show w ∈ tables_1 from List.mem_append_right _ (List.mem_append_right _ (List.mem_append_right _ (List.mem_append_right _ (List.mem_append_left _ (List.mem_of_getElem? h)))))), hg⟩
theorem tb5 {w : Cond} (i : Nat) (h : tables_1_6[i]? = some w) (hg : goodWord w = true := by rfl) : w ∈ gtb := List.mem_filter.mpr ⟨List.mem_append_right _ (show w ∈ tables_1 from List.mem_append_right _ (List.mem_append_right _ (List.mem_append_right _ (List.mem_append_right _ (List.mem_append_right _ (List.mem_append_left _ (List.mem_of_getElem? h))))))), hg⟩
theorem tb6 {w : Cond} (i : Nat) (h : tables_1_7[i]? = some w) (hg : goodWord w = true := by rfl) : w ∈ gtb := List.mem_filter.mpr ⟨List.mem_append_right _ (show w ∈ tables_1 from List.mem_append_right _ (List.mem_append_right _ (List.mem_append_right _ (List.mem_append_right _ (List.mem_append_right _ (List.mem_append_right _ (List.mem_append_left _ (List.mem_of_getElem? h)))))))), hg⟩
theorem tb7 {w : Cond} (i : Nat) (h : tables_1_8[i]? = some w) (hg : goodWord w = true := by rfl) : w ∈ gtb := List.mem_filter.mpr ⟨List.mem_append_right _ (show w ∈ tables_1 from List.mem_append_right _ (List.mem_append_right _ (List.mem_append_right _ (List.mem_append_right _ (List.mem_append_right _ (List.mem_append_right _ (List.mem_append_right _ (List.mem_append_left _ (List.mem_of_getElem? h))))))))), hg⟩
theorem tb8 {w : Cond} (i : Nat) (h : tables_1_9[i]? = some w) (hg : goodWord w = true := by rfl) : w ∈ gtb := List.mem_filter.mpr ⟨List.mem_append_right _ (show w ∈ tables_1 from List.mem_append_right _ (List.mem_append_right _ (List.mem_append_right _ (List.mem_append_right _ (List.mem_append_right _ (List.mem_append_right _ (List.mem_append_right _ (List.mem_append_right _ (List.mem_of_getElem? h))))))))), hg⟩
theorem layTX0_0 : u_lay RX0 TX0 0 ∈ gtb := tb0 212 (by decide +kernel)
theorem inTX0 : ∀ w ∈ u_ws RX0 TX0 1, w ∈ gtb := fun w hw => by
  obtain ⟨k, hk, rfl⟩ := List.mem_map.mp hw
  have hk := List.mem_range.mp hk
  match k, hk with
  | 0, _ => exact layTX0_0
  | n + 1, h => omega
theorem layTX1_0 : u_lay RX1 TX1 0 ∈ gtb := tb1 34 (by decide +kernel)
theorem layTX1_1 : u_lay RX1 TX1 1 ∈ gtb := tb1 36 (by decide +kernel)
theorem layTX1_2 : u_lay RX1 TX1 2 ∈ gtb := tb1 38 (by decide +kernel)
theorem layTX1_3 : u_lay RX1 TX1 3 ∈ gtb := tb1 40 (by decide +kernel)
theorem layTX1_4 : u_lay RX1 TX1 4 ∈ gtb := tb1 42 (by decide +kernel)
theorem inTX1 : ∀ w ∈ u_ws RX1 TX1 5, w ∈ gtb := fun w hw => by
  obtain ⟨k, hk, rfl⟩ := List.mem_map.mp hw
  have hk := List.mem_range.mp hk
  match k, hk with
  | 0, _ => exact layTX1_0
  | 1, _ => exact layTX1_1
  | 2, _ => exact layTX1_2
  | 3, _ => exact layTX1_3
  | 4, _ => exact layTX1_4
  | n + 5, h => omega
theorem layTX2_0 : u_lay RX2 TX2 0 ∈ gtb := tb1 66 (by decide +kernel)
theorem layTX2_1 : u_lay RX2 TX2 1 ∈ gtb := tb1 68 (by decide +kernel)
theorem layTX2_2 : u_lay RX2 TX2 2 ∈ gtb := tb1 70 (by decide +kernel)
theorem layTX2_3 : u_lay RX2 TX2 3 ∈ gtb := tb1 72 (by decide +kernel)
theorem layTX2_4 : u_lay RX2 TX2 4 ∈ gtb := tb1 74 (by decide +kernel)
theorem layTX2_5 : u_lay RX2 TX2 5 ∈ gtb := tb1 76 (by decide +kernel)
theorem layTX2_6 : u_lay RX2 TX2 6 ∈ gtb := tb1 78 (by decide +kernel)
theorem layTX2_7 : u_lay RX2 TX2 7 ∈ gtb := tb1 80 (by decide +kernel)
theorem layTX2_8 : u_lay RX2 TX2 8 ∈ gtb := tb1 82 (by decide +kernel)
theorem layTX2_9 : u_lay RX2 TX2 9 ∈ gtb := tb1 84 (by decide +kernel)
theorem inTX2 : ∀ w ∈ u_ws RX2 TX2 10, w ∈ gtb := fun w hw => by
  obtain ⟨k, hk, rfl⟩ := List.mem_map.mp hw
  have hk := List.mem_range.mp hk
  match k, hk with
  | 0, _ => exact layTX2_0
  | 1, _ => exact layTX2_1
  | 2, _ => exact layTX2_2
  | 3, _ => exact layTX2_3
  | 4, _ => exact layTX2_4
  | 5, _ => exact layTX2_5
  | 6, _ => exact layTX2_6
  | 7, _ => exact layTX2_7
  | 8, _ => exact layTX2_8
  | 9, _ => exact layTX2_9
  | n + 10, h => omega
theorem layTX3_0 : u_lay RX3 TX3 0 ∈ gtb := tb0 199 (by decide +kernel)
theorem layTX3_1 : u_lay RX3 TX3 1 ∈ gtb := tb0 201 (by decide +kernel)
theorem inTX3 : ∀ w ∈ u_ws RX3 TX3 2, w ∈ gtb := fun w hw => by
  obtain ⟨k, hk, rfl⟩ := List.mem_map.mp hw
  have hk := List.mem_range.mp hk
  match k, hk with
  | 0, _ => exact layTX3_0
  | 1, _ => exact layTX3_1
  | n + 2, h => omega
theorem layTX4_0 : u_lay RX4 TX4 0 ∈ gtb := tb1 14 (by decide +kernel)
theorem layTX4_1 : u_lay RX4 TX4 1 ∈ gtb := tb1 16 (by decide +kernel)
theorem layTX4_2 : u_lay RX4 TX4 2 ∈ gtb := tb1 18 (by decide +kernel)
theorem inTX4 : ∀ w ∈ u_ws RX4 TX4 3, w ∈ gtb := fun w hw => by
  obtain ⟨k, hk, rfl⟩ := List.mem_map.mp hw
  have hk := List.mem_range.mp hk
  match k, hk with
  | 0, _ => exact layTX4_0
  | 1, _ => exact layTX4_1
  | 2, _ => exact layTX4_2
  | n + 3, h => omega
theorem layTX5_0 : u_lay RX5 TX5 0 ∈ gtb := tb0 158 (by decide +kernel)
theorem layTX5_1 : u_lay RX5 TX5 1 ∈ gtb := tb0 160 (by decide +kernel)
theorem layTX5_2 : u_lay RX5 TX5 2 ∈ gtb := tb0 162 (by decide +kernel)
theorem layTX5_3 : u_lay RX5 TX5 3 ∈ gtb := tb0 164 (by decide +kernel)
theorem layTX5_4 : u_lay RX5 TX5 4 ∈ gtb := tb0 166 (by decide +kernel)
theorem layTX5_5 : u_lay RX5 TX5 5 ∈ gtb := tb0 168 (by decide +kernel)
theorem layTX5_6 : u_lay RX5 TX5 6 ∈ gtb := tb0 170 (by decide +kernel)
theorem layTX5_7 : u_lay RX5 TX5 7 ∈ gtb := tb0 172 (by decide +kernel)
theorem layTX5_8 : u_lay RX5 TX5 8 ∈ gtb := tb0 174 (by decide +kernel)
theorem layTX5_9 : u_lay RX5 TX5 9 ∈ gtb := tb0 176 (by decide +kernel)
theorem layTX5_10 : u_lay RX5 TX5 10 ∈ gtb := tb0 178 (by decide +kernel)
theorem layTX5_11 : u_lay RX5 TX5 11 ∈ gtb := tb0 180 (by decide +kernel)
theorem layTX5_12 : u_lay RX5 TX5 12 ∈ gtb := tb0 182 (by decide +kernel)
theorem layTX5_13 : u_lay RX5 TX5 13 ∈ gtb := tb0 184 (by decide +kernel)
theorem layTX5_14 : u_lay RX5 TX5 14 ∈ gtb := tb0 186 (by decide +kernel)
theorem inTX5 : ∀ w ∈ u_ws RX5 TX5 15, w ∈ gtb := fun w hw => by
  obtain ⟨k, hk, rfl⟩ := List.mem_map.mp hw
  have hk := List.mem_range.mp hk
  match k, hk with
  | 0, _ => exact layTX5_0
  | 1, _ => exact layTX5_1
  | 2, _ => exact layTX5_2
  | 3, _ => exact layTX5_3
  | 4, _ => exact layTX5_4
  | 5, _ => exact layTX5_5
  | 6, _ => exact layTX5_6
  | 7, _ => exact layTX5_7
  | 8, _ => exact layTX5_8
  | 9, _ => exact layTX5_9
  | 10, _ => exact layTX5_10
  | 11, _ => exact layTX5_11
  | 12, _ => exact layTX5_12
  | 13, _ => exact layTX5_13
  | 14, _ => exact layTX5_14
  | n + 15, h => omega
theorem layTX6_0 : u_lay RX6 TX6 0 ∈ gtb := tb1 100 (by decide +kernel)
theorem layTX6_1 : u_lay RX6 TX6 1 ∈ gtb := tb1 102 (by decide +kernel)
theorem layTX6_2 : u_lay RX6 TX6 2 ∈ gtb := tb1 104 (by decide +kernel)
theorem layTX6_3 : u_lay RX6 TX6 3 ∈ gtb := tb1 106 (by decide +kernel)
theorem layTX6_4 : u_lay RX6 TX6 4 ∈ gtb := tb1 108 (by decide +kernel)
theorem layTX6_5 : u_lay RX6 TX6 5 ∈ gtb := tb1 110 (by decide +kernel)
theorem inTX6 : ∀ w ∈ u_ws RX6 TX6 6, w ∈ gtb := fun w hw => by
  obtain ⟨k, hk, rfl⟩ := List.mem_map.mp hw
  have hk := List.mem_range.mp hk
  match k, hk with
  | 0, _ => exact layTX6_0
  | 1, _ => exact layTX6_1
  | 2, _ => exact layTX6_2
  | 3, _ => exact layTX6_3
  | 4, _ => exact layTX6_4
  | 5, _ => exact layTX6_5
  | n + 6, h => omega
theorem layTX7_0 : u_lay RX7 TX7 0 ∈ gtb := tb0 232 (by decide +kernel)
theorem layTX7_1 : u_lay RX7 TX7 1 ∈ gtb := tb0 234 (by decide +kernel)
theorem layTX7_2 : u_lay RX7 TX7 2 ∈ gtb := tb0 236 (by decide +kernel)
theorem layTX7_3 : u_lay RX7 TX7 3 ∈ gtb := tb0 238 (by decide +kernel)
theorem layTX7_4 : u_lay RX7 TX7 4 ∈ gtb := tb1 0 (by decide +kernel)
theorem layTX7_5 : u_lay RX7 TX7 5 ∈ gtb := tb1 2 (by decide +kernel)
theorem inTX7 : ∀ w ∈ u_ws RX7 TX7 6, w ∈ gtb := fun w hw => by
  obtain ⟨k, hk, rfl⟩ := List.mem_map.mp hw
  have hk := List.mem_range.mp hk
  match k, hk with
  | 0, _ => exact layTX7_0
  | 1, _ => exact layTX7_1
  | 2, _ => exact layTX7_2
  | 3, _ => exact layTX7_3
  | 4, _ => exact layTX7_4
  | 5, _ => exact layTX7_5
  | n + 6, h => omega
theorem layTX9_0 : u_lay RX9 TX9 0 ∈ gtb := tb0 91 (by decide +kernel)
theorem layTX9_1 : u_lay RX9 TX9 1 ∈ gtb := tb0 93 (by decide +kernel)
theorem layTX9_2 : u_lay RX9 TX9 2 ∈ gtb := tb0 95 (by decide +kernel)
theorem layTX9_3 : u_lay RX9 TX9 3 ∈ gtb := tb0 97 (by decide +kernel)
theorem layTX9_4 : u_lay RX9 TX9 4 ∈ gtb := tb0 99 (by decide +kernel)
theorem layTX9_5 : u_lay RX9 TX9 5 ∈ gtb := tb0 101 (by decide +kernel)
theorem layTX9_6 : u_lay RX9 TX9 6 ∈ gtb := tb0 103 (by decide +kernel)
theorem layTX9_7 : u_lay RX9 TX9 7 ∈ gtb := tb0 105 (by decide +kernel)
theorem layTX9_8 : u_lay RX9 TX9 8 ∈ gtb := tb0 107 (by decide +kernel)
theorem layTX9_9 : u_lay RX9 TX9 9 ∈ gtb := tb0 109 (by decide +kernel)
theorem layTX9_10 : u_lay RX9 TX9 10 ∈ gtb := tb0 111 (by decide +kernel)
theorem layTX9_11 : u_lay RX9 TX9 11 ∈ gtb := tb0 113 (by decide +kernel)
theorem layTX9_12 : u_lay RX9 TX9 12 ∈ gtb := tb0 115 (by decide +kernel)
theorem layTX9_13 : u_lay RX9 TX9 13 ∈ gtb := tb0 117 (by decide +kernel)
theorem layTX9_14 : u_lay RX9 TX9 14 ∈ gtb := tb0 119 (by decide +kernel)
theorem layTX9_15 : u_lay RX9 TX9 15 ∈ gtb := tb0 121 (by decide +kernel)
theorem layTX9_16 : u_lay RX9 TX9 16 ∈ gtb := tb0 123 (by decide +kernel)
theorem layTX9_17 : u_lay RX9 TX9 17 ∈ gtb := tb0 125 (by decide +kernel)
theorem inTX9 : ∀ w ∈ u_ws RX9 TX9 18, w ∈ gtb := fun w hw => by
  obtain ⟨k, hk, rfl⟩ := List.mem_map.mp hw
  have hk := List.mem_range.mp hk
  match k, hk with
  | 0, _ => exact layTX9_0
  | 1, _ => exact layTX9_1
  | 2, _ => exact layTX9_2
  | 3, _ => exact layTX9_3
  | 4, _ => exact layTX9_4
  | 5, _ => exact layTX9_5
  | 6, _ => exact layTX9_6
  | 7, _ => exact layTX9_7
  | 8, _ => exact layTX9_8
  | 9, _ => exact layTX9_9
  | 10, _ => exact layTX9_10
  | 11, _ => exact layTX9_11
  | 12, _ => exact layTX9_12
  | 13, _ => exact layTX9_13
  | 14, _ => exact layTX9_14
  | 15, _ => exact layTX9_15
  | 16, _ => exact layTX9_16
  | 17, _ => exact layTX9_17
  | n + 18, h => omega
theorem layTX10_0 : u_lay RX10 TX10 0 ∈ gtb := tb1 126 (by decide +kernel)
theorem layTX10_1 : u_lay RX10 TX10 1 ∈ gtb := tb1 128 (by decide +kernel)
theorem layTX10_2 : u_lay RX10 TX10 2 ∈ gtb := tb1 130 (by decide +kernel)
theorem layTX10_3 : u_lay RX10 TX10 3 ∈ gtb := tb1 132 (by decide +kernel)
theorem layTX10_4 : u_lay RX10 TX10 4 ∈ gtb := tb1 134 (by decide +kernel)
theorem layTX10_5 : u_lay RX10 TX10 5 ∈ gtb := tb1 136 (by decide +kernel)
theorem layTX10_6 : u_lay RX10 TX10 6 ∈ gtb := tb1 138 (by decide +kernel)
theorem layTX10_7 : u_lay RX10 TX10 7 ∈ gtb := tb1 140 (by decide +kernel)
theorem layTX10_8 : u_lay RX10 TX10 8 ∈ gtb := tb1 142 (by decide +kernel)
theorem layTX10_9 : u_lay RX10 TX10 9 ∈ gtb := tb1 144 (by decide +kernel)
theorem layTX10_10 : u_lay RX10 TX10 10 ∈ gtb := tb1 146 (by decide +kernel)
theorem layTX10_11 : u_lay RX10 TX10 11 ∈ gtb := tb1 148 (by decide +kernel)
theorem inTX10 : ∀ w ∈ u_ws RX10 TX10 12, w ∈ gtb := fun w hw => by
  obtain ⟨k, hk, rfl⟩ := List.mem_map.mp hw
  have hk := List.mem_range.mp hk
  match k, hk with
  | 0, _ => exact layTX10_0
  | 1, _ => exact layTX10_1
  | 2, _ => exact layTX10_2
  | 3, _ => exact layTX10_3
  | 4, _ => exact layTX10_4
  | 5, _ => exact layTX10_5
  | 6, _ => exact layTX10_6
  | 7, _ => exact layTX10_7
  | 8, _ => exact layTX10_8
  | 9, _ => exact layTX10_9
  | 10, _ => exact layTX10_10
  | 11, _ => exact layTX10_11
  | n + 12, h => omega
theorem layTX11_0 : u_lay RX11 TX11 0 ∈ gtb := tb5 61 (by decide +kernel)
theorem layTX11_1 : u_lay RX11 TX11 1 ∈ gtb := tb5 63 (by decide +kernel)
theorem layTX11_2 : u_lay RX11 TX11 2 ∈ gtb := tb5 65 (by decide +kernel)
theorem layTX11_3 : u_lay RX11 TX11 3 ∈ gtb := tb5 67 (by decide +kernel)
theorem layTX11_4 : u_lay RX11 TX11 4 ∈ gtb := tb5 69 (by decide +kernel)
theorem layTX11_5 : u_lay RX11 TX11 5 ∈ gtb := tb5 71 (by decide +kernel)
theorem layTX11_6 : u_lay RX11 TX11 6 ∈ gtb := tb5 73 (by decide +kernel)
theorem layTX11_7 : u_lay RX11 TX11 7 ∈ gtb := tb5 75 (by decide +kernel)
theorem layTX11_8 : u_lay RX11 TX11 8 ∈ gtb := tb5 77 (by decide +kernel)
theorem layTX11_9 : u_lay RX11 TX11 9 ∈ gtb := tb5 79 (by decide +kernel)
theorem layTX11_10 : u_lay RX11 TX11 10 ∈ gtb := tb5 81 (by decide +kernel)
theorem layTX11_11 : u_lay RX11 TX11 11 ∈ gtb := tb5 83 (by decide +kernel)
theorem layTX11_12 : u_lay RX11 TX11 12 ∈ gtb := tb5 85 (by decide +kernel)
theorem layTX11_13 : u_lay RX11 TX11 13 ∈ gtb := tb5 87 (by decide +kernel)
theorem layTX11_14 : u_lay RX11 TX11 14 ∈ gtb := tb5 89 (by decide +kernel)
theorem layTX11_15 : u_lay RX11 TX11 15 ∈ gtb := tb5 91 (by decide +kernel)
theorem layTX11_16 : u_lay RX11 TX11 16 ∈ gtb := tb5 93 (by decide +kernel)
theorem layTX11_17 : u_lay RX11 TX11 17 ∈ gtb := tb5 95 (by decide +kernel)
theorem layTX11_18 : u_lay RX11 TX11 18 ∈ gtb := tb5 97 (by decide +kernel)
theorem layTX11_19 : u_lay RX11 TX11 19 ∈ gtb := tb5 99 (by decide +kernel)
theorem layTX11_20 : u_lay RX11 TX11 20 ∈ gtb := tb5 101 (by decide +kernel)
theorem layTX11_21 : u_lay RX11 TX11 21 ∈ gtb := tb5 103 (by decide +kernel)
theorem layTX11_22 : u_lay RX11 TX11 22 ∈ gtb := tb5 105 (by decide +kernel)
theorem layTX11_23 : u_lay RX11 TX11 23 ∈ gtb := tb5 107 (by decide +kernel)
theorem layTX11_24 : u_lay RX11 TX11 24 ∈ gtb := tb5 109 (by decide +kernel)
theorem layTX11_25 : u_lay RX11 TX11 25 ∈ gtb := tb5 111 (by decide +kernel)
theorem layTX11_26 : u_lay RX11 TX11 26 ∈ gtb := tb5 113 (by decide +kernel)
theorem layTX11_27 : u_lay RX11 TX11 27 ∈ gtb := tb5 115 (by decide +kernel)
theorem layTX11_28 : u_lay RX11 TX11 28 ∈ gtb := tb5 117 (by decide +kernel)
theorem layTX11_29 : u_lay RX11 TX11 29 ∈ gtb := tb5 119 (by decide +kernel)
theorem layTX11_30 : u_lay RX11 TX11 30 ∈ gtb := tb5 121 (by decide +kernel)
theorem layTX11_31 : u_lay RX11 TX11 31 ∈ gtb := tb5 123 (by decide +kernel)
theorem layTX11_32 : u_lay RX11 TX11 32 ∈ gtb := tb5 125 (by decide +kernel)
theorem layTX11_33 : u_lay RX11 TX11 33 ∈ gtb := tb5 127 (by decide +kernel)
theorem layTX11_34 : u_lay RX11 TX11 34 ∈ gtb := tb5 129 (by decide +kernel)
theorem layTX11_35 : u_lay RX11 TX11 35 ∈ gtb := tb5 131 (by decide +kernel)
theorem layTX11_36 : u_lay RX11 TX11 36 ∈ gtb := tb5 133 (by decide +kernel)
theorem layTX11_37 : u_lay RX11 TX11 37 ∈ gtb := tb5 135 (by decide +kernel)
theorem inTX11 : ∀ w ∈ u_ws RX11 TX11 38, w ∈ gtb := fun w hw => by
  obtain ⟨k, hk, rfl⟩ := List.mem_map.mp hw
  have hk := List.mem_range.mp hk
  match k, hk with
  | 0, _ => exact layTX11_0
  | 1, _ => exact layTX11_1
  | 2, _ => exact layTX11_2
  | 3, _ => exact layTX11_3
  | 4, _ => exact layTX11_4
  | 5, _ => exact layTX11_5
  | 6, _ => exact layTX11_6
  | 7, _ => exact layTX11_7
  | 8, _ => exact layTX11_8
  | 9, _ => exact layTX11_9
  | 10, _ => exact layTX11_10
  | 11, _ => exact layTX11_11
  | 12, _ => exact layTX11_12
  | 13, _ => exact layTX11_13
  | 14, _ => exact layTX11_14
  | 15, _ => exact layTX11_15
  | 16, _ => exact layTX11_16
  | 17, _ => exact layTX11_17
  | 18, _ => exact layTX11_18
  | 19, _ => exact layTX11_19
  | 20, _ => exact layTX11_20
  | 21, _ => exact layTX11_21
  | 22, _ => exact layTX11_22
  | 23, _ => exact layTX11_23
  | 24, _ => exact layTX11_24
  | 25, _ => exact layTX11_25
  | 26, _ => exact layTX11_26
  | 27, _ => exact layTX11_27
  | 28, _ => exact layTX11_28
  | 29, _ => exact layTX11_29
  | 30, _ => exact layTX11_30
  | 31, _ => exact layTX11_31
  | 32, _ => exact layTX11_32
  | 33, _ => exact layTX11_33
  | 34, _ => exact layTX11_34
  | 35, _ => exact layTX11_35
  | 36, _ => exact layTX11_36
  | 37, _ => exact layTX11_37
  | n + 38, h => omega
/-- the classes by their numbers (8, the constants, has no objects of ours: another stands there) -/
def cls : List vw_C := [(RX0, TX0, 1), (RX1, TX1, 5), (RX2, TX2, 10), (RX3, TX3, 2), (RX4, TX4, 3), (RX5, TX5, 15), (RX6, TX6, 6), (RX7, TX7, 6), (RX0, TX0, 1), (RX9, TX9, 18), (RX10, TX10, 12), (RX11, TX11, 38)]
def flkL : List (List Nat) := [[2], [2, 2, 0, 0, 0], [2, 2, 2, 0, 0, 0, 0, 2, 0, 2], [1, 1], [2, 2, 2], [2, 0, 0, 0, 2, 0, 2, 0, 3, 3, 2, 0, 0, 0, 0], [2, 2, 2, 2, 2, 2], [2, 0, 2, 2, 2, 0], [2], [2, 2, 0, 0, 0, 2, 0, 2, 2, 0, 0, 0, 2, 2, 0, 2, 0, 2], [2, 2, 2, 2, 0, 2, 2, 2, 2, 2, 2, 2], [2, 2, 2, 2, 0, 0, 0, 0, 0, 0, 0, 1, 0, 0, 0, 2, 0, 0, 3, 3, 0, 2, 2, 2, 3, 0, 0, 0, 0, 2, 2, 2, 2, 2, 2, 0, 2, 2]]
def flk (ci : Nat) : List Nat := flkL.getD ci []
def tyL : List (Nat → FieldType) := [tyX0, tyX1, tyX2, tyX3, tyX4, tyX5, tyX6, tyX7, tyX0, tyX9, tyX10, tyX11]
