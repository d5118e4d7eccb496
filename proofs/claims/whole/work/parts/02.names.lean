def RX0 : String := "OneCable$Bay"
def TX0 : u_T := fun k => match k with
  | 0 => ("OneCable$Bay", "wide", "I", false)
  | 1 => ("OneCable$Bay", "deep", "I", false)
  | 2 => ("OneCable$Bay", "boats", "I", false)
  | 3 => ("OneCable$Bay", "gales", "I", false)
  | 4 => ("OneCable$Bay", "loose", "I", false)
  | 5 => ("OneCable$Bay", "rock", "[I", true)
  | 6 => ("OneCable$Bay", "shoal", "[I", true)
  | 7 => ("OneCable$Bay", "kind", "[I", true)
  | 8 => ("OneCable$Bay", "homeX", "[I", true)
  | 9 => ("OneCable$Bay", "homeY", "[I", true)
  | 10 => ("OneCable$Bay", "hold", "[I", true)
  | 11 => ("OneCable$Bay", "pull", "[I", true)
  | 12 => ("OneCable$Bay", "trust", "[I", true)
  | 13 => ("OneCable$Bay", "lengths", "[I", true)
  | 14 => ("OneCable$Bay", "strong", "[I", true)
  | 15 => ("OneCable$Bay", "swellLaw", "LOneCable$Law;", true)
  | _ => ("OneCable$Bay", "wishLaw", "LOneCable$Law;", true)
def tyX0 : Nat → FieldType := fun k => match k with
  | 0 => .int
  | 1 => .int
  | 2 => .int
  | 3 => .int
  | 4 => .int
  | 5 => .array .int
  | 6 => .array .int
  | 7 => .array .int
  | 8 => .array .int
  | 9 => .array .int
  | 10 => .array .int
  | 11 => .array .int
  | 12 => .array .int
  | 13 => .array .int
  | 14 => .array .int
  | 15 => .object "OneCable$Law"
  | _ => .object "OneCable$Law"
theorem nmX0 : ∀ a, a < 17 → ∀ b, b < 17 → a ≠ b → (TX0 a).2.1 ≠ (TX0 b).2.1 := by decide +kernel
theorem tyX0_ok : ∀ k, k < 17 → parseFieldDescriptor (TX0 k).2.2.1 = some (tyX0 k) := by decide +kernel
def RX1 : String := "OneCable$Cable"
def TX1 : u_T := fun k => match k with
  | 0 => ("OneCable$Cable", "bay", "LOneCable$Bay;", true)
  | 1 => ("OneCable$Cable", "now", "LOneCable$State;", true)
  | 2 => ("OneCable$Cable", "sea", "LOneCable$Sea;", true)
  | _ => ("OneCable$Cable", "before", "[I", true)
def tyX1 : Nat → FieldType := fun k => match k with
  | 0 => .object "OneCable$Bay"
  | 1 => .object "OneCable$State"
  | 2 => .object "OneCable$Sea"
  | _ => .array .int
theorem nmX1 : ∀ a, a < 4 → ∀ b, b < 4 → a ≠ b → (TX1 a).2.1 ≠ (TX1 b).2.1 := by decide +kernel
theorem tyX1_ok : ∀ k, k < 4 → parseFieldDescriptor (TX1 k).2.2.1 = some (tyX1 k) := by decide +kernel
def RX2 : String := "OneCable$Council"
def TX2 : u_T := fun k => match k with
  | 0 => ("OneCable$Council", "bay", "LOneCable$Bay;", true)
  | 1 => ("OneCable$Council", "now", "LOneCable$State;", true)
  | 2 => ("OneCable$Council", "sea", "LOneCable$Sea;", true)
  | 3 => ("OneCable$Council", "cable", "LOneCable$Cable;", true)
  | 4 => ("OneCable$Council", "can", "[Z", true)
  | 5 => ("OneCable$Council", "wishes", "[I", true)
  | _ => ("OneCable$Council", "facts", "[I", true)
def tyX2 : Nat → FieldType := fun k => match k with
  | 0 => .object "OneCable$Bay"
  | 1 => .object "OneCable$State"
  | 2 => .object "OneCable$Sea"
  | 3 => .object "OneCable$Cable"
  | 4 => .array .boolean
  | 5 => .array .int
  | _ => .array .int
theorem nmX2 : ∀ a, a < 7 → ∀ b, b < 7 → a ≠ b → (TX2 a).2.1 ≠ (TX2 b).2.1 := by decide +kernel
theorem tyX2_ok : ∀ k, k < 7 → parseFieldDescriptor (TX2 k).2.2.1 = some (tyX2 k) := by decide +kernel
def RX3 : String := "OneCable$Course"
def TX3 : u_T := fun k => match k with
  | 0 => ("OneCable$Course", "bay", "LOneCable$Bay;", true)
  | 1 => ("OneCable$Course", "now", "LOneCable$State;", true)
  | 2 => ("OneCable$Course", "cable", "LOneCable$Cable;", true)
  | 3 => ("OneCable$Course", "nets", "LOneCable$Nets;", true)
  | 4 => ("OneCable$Course", "moves", "[I", true)
  | 5 => ("OneCable$Course", "sort", "[I", true)
  | 6 => ("OneCable$Course", "seen", "[I", true)
  | 7 => ("OneCable$Course", "stop", "[I", true)
  | 8 => ("OneCable$Course", "cameBy", "[I", true)
  | 9 => ("OneCable$Course", "from", "I", false)
  | 10 => ("OneCable$Course", "to", "I", false)
  | _ => ("OneCable$Course", "stops", "I", false)
def tyX3 : Nat → FieldType := fun k => match k with
  | 0 => .object "OneCable$Bay"
  | 1 => .object "OneCable$State"
  | 2 => .object "OneCable$Cable"
  | 3 => .object "OneCable$Nets"
  | 4 => .array .int
  | 5 => .array .int
  | 6 => .array .int
  | 7 => .array .int
  | 8 => .array .int
  | 9 => .int
  | 10 => .int
  | _ => .int
theorem nmX3 : ∀ a, a < 12 → ∀ b, b < 12 → a ≠ b → (TX3 a).2.1 ≠ (TX3 b).2.1 := by decide +kernel
theorem tyX3_ok : ∀ k, k < 12 → parseFieldDescriptor (TX3 k).2.2.1 = some (tyX3 k) := by decide +kernel
def RX4 : String := "OneCable$Law"
def TX4 : u_T := fun k => match k with
  | 0 => ("OneCable$Law", "codes", "[I", true)
  | 1 => ("OneCable$Law", "stack", "[I", true)
  | _ => ("OneCable$Law", "size", "I", false)
def tyX4 : Nat → FieldType := fun k => match k with
  | 0 => .array .int
  | 1 => .array .int
  | _ => .int
theorem nmX4 : ∀ a, a < 3 → ∀ b, b < 3 → a ≠ b → (TX4 a).2.1 ≠ (TX4 b).2.1 := by decide +kernel
theorem tyX4_ok : ∀ k, k < 3 → parseFieldDescriptor (TX4 k).2.2.1 = some (tyX4 k) := by decide +kernel
def RX5 : String := "OneCable$Nets"
def TX5 : u_T := fun k => match k with
  | 0 => ("OneCable$Nets", "bay", "LOneCable$Bay;", true)
  | 1 => ("OneCable$Nets", "now", "LOneCable$State;", true)
  | 2 => ("OneCable$Nets", "fish", "[I", true)
  | 3 => ("OneCable$Nets", "room", "[I", true)
  | _ => ("OneCable$Nets", "together", "[I", true)
def tyX5 : Nat → FieldType := fun k => match k with
  | 0 => .object "OneCable$Bay"
  | 1 => .object "OneCable$State"
  | 2 => .array .int
  | 3 => .array .int
  | _ => .array .int
theorem nmX5 : ∀ a, a < 5 → ∀ b, b < 5 → a ≠ b → (TX5 a).2.1 ≠ (TX5 b).2.1 := by decide +kernel
theorem tyX5_ok : ∀ k, k < 5 → parseFieldDescriptor (TX5 k).2.2.1 = some (tyX5 k) := by decide +kernel
def RX6 : String := "OneCable$Sea"
def TX6 : u_T := fun k => match k with
  | 0 => ("OneCable$Sea", "bay", "LOneCable$Bay;", true)
  | 1 => ("OneCable$Sea", "known", "[I", true)
  | _ => ("OneCable$Sea", "facts", "[I", true)
def tyX6 : Nat → FieldType := fun k => match k with
  | 0 => .object "OneCable$Bay"
  | 1 => .array .int
  | _ => .array .int
theorem nmX6 : ∀ a, a < 3 → ∀ b, b < 3 → a ≠ b → (TX6 a).2.1 ≠ (TX6 b).2.1 := by decide +kernel
theorem tyX6_ok : ∀ k, k < 3 → parseFieldDescriptor (TX6 k).2.2.1 = some (tyX6 k) := by decide +kernel
def RX7 : String := "OneCable$State"
def TX7 : u_T := fun k => match k with
  | 0 => ("OneCable$State", "laid", "Z", false)
  | 1 => ("OneCable$State", "hour", "I", false)
  | 2 => ("OneCable$State", "fish", "[I", true)
  | 3 => ("OneCable$State", "x", "[I", true)
  | 4 => ("OneCable$State", "y", "[I", true)
  | 5 => ("OneCable$State", "caught", "[I", true)
  | 6 => ("OneCable$State", "ways", "[I", true)
  | 7 => ("OneCable$State", "shares", "[I", true)
  | _ => ("OneCable$State", "torn", "[I", true)
def tyX7 : Nat → FieldType := fun k => match k with
  | 0 => .boolean
  | 1 => .int
  | 2 => .array .int
  | 3 => .array .int
  | 4 => .array .int
  | 5 => .array .int
  | 6 => .array .int
  | 7 => .array .int
  | _ => .array .int
theorem nmX7 : ∀ a, a < 9 → ∀ b, b < 9 → a ≠ b → (TX7 a).2.1 ≠ (TX7 b).2.1 := by decide +kernel
theorem tyX7_ok : ∀ k, k < 9 → parseFieldDescriptor (TX7 k).2.2.1 = some (tyX7 k) := by decide +kernel
def RX8 : String := "OneCable$Storm"
def TX8 : u_T := fun k => match k with
  | 0 => ("OneCable$Storm", "bay", "LOneCable$Bay;", true)
  | 1 => ("OneCable$Storm", "now", "LOneCable$State;", true)
  | 2 => ("OneCable$Storm", "sea", "LOneCable$Sea;", true)
  | 3 => ("OneCable$Storm", "cable", "LOneCable$Cable;", true)
  | 4 => ("OneCable$Storm", "forces", "[I", true)
  | 5 => ("OneCable$Storm", "row", "[I", true)
  | 6 => ("OneCable$Storm", "best", "[I", true)
  | _ => ("OneCable$Storm", "least", "I", false)
def tyX8 : Nat → FieldType := fun k => match k with
  | 0 => .object "OneCable$Bay"
  | 1 => .object "OneCable$State"
  | 2 => .object "OneCable$Sea"
  | 3 => .object "OneCable$Cable"
  | 4 => .array .int
  | 5 => .array .int
  | 6 => .array .int
  | _ => .int
theorem nmX8 : ∀ a, a < 8 → ∀ b, b < 8 → a ≠ b → (TX8 a).2.1 ≠ (TX8 b).2.1 := by decide +kernel
theorem tyX8_ok : ∀ k, k < 8 → parseFieldDescriptor (TX8 k).2.2.1 = some (tyX8 k) := by decide +kernel
def RX9 : String := "OneCable$Tape"
def TX9 : u_T := fun k => match k with
  | 0 => ("OneCable$Tape", "signs", "[B", true)
  | 1 => ("OneCable$Tape", "length", "I", false)
  | 2 => ("OneCable$Tape", "place", "I", false)
  | 3 => ("OneCable$Tape", "after", "I", false)
  | 4 => ("OneCable$Tape", "token", "I", false)
  | _ => ("OneCable$Tape", "value", "I", false)
def tyX9 : Nat → FieldType := fun k => match k with
  | 0 => .array .byte
  | 1 => .int
  | 2 => .int
  | 3 => .int
  | 4 => .int
  | _ => .int
theorem nmX9 : ∀ a, a < 6 → ∀ b, b < 6 → a ≠ b → (TX9 a).2.1 ≠ (TX9 b).2.1 := by decide +kernel
theorem tyX9_ok : ∀ k, k < 6 → parseFieldDescriptor (TX9 k).2.2.1 = some (tyX9 k) := by decide +kernel
def RX10 : String := "OneCable$Telling"
def TX10 : u_T := fun k => match k with
  | 0 => ("OneCable$Telling", "tape", "LOneCable$Tape;", true)
  | 1 => ("OneCable$Telling", "draft", "LOneCable$Bay;", true)
  | 2 => ("OneCable$Telling", "nameFrom", "[I", true)
  | 3 => ("OneCable$Telling", "nameTo", "[I", true)
  | 4 => ("OneCable$Telling", "linksTold", "I", false)
  | 5 => ("OneCable$Telling", "onceTold", "I", false)
  | 6 => ("OneCable$Telling", "fault", "I", false)
  | 7 => ("OneCable$Telling", "number", "I", false)
  | 8 => ("OneCable$Telling", "cellX", "I", false)
  | _ => ("OneCable$Telling", "cellY", "I", false)
def tyX10 : Nat → FieldType := fun k => match k with
  | 0 => .object "OneCable$Tape"
  | 1 => .object "OneCable$Bay"
  | 2 => .array .int
  | 3 => .array .int
  | 4 => .int
  | 5 => .int
  | 6 => .int
  | 7 => .int
  | 8 => .int
  | _ => .int
theorem nmX10 : ∀ a, a < 10 → ∀ b, b < 10 → a ≠ b → (TX10 a).2.1 ≠ (TX10 b).2.1 := by decide +kernel
theorem tyX10_ok : ∀ k, k < 10 → parseFieldDescriptor (TX10 k).2.2.1 = some (tyX10 k) := by decide +kernel
def RX11 : String := "OneCable"
def TX11 : u_T := fun k => match k with
  | 0 => ("OneCable", "tape", "LOneCable$Tape;", true)
  | 1 => ("OneCable", "telling", "LOneCable$Telling;", true)
  | 2 => ("OneCable", "told", "LOneCable$Bay;", true)
  | 3 => ("OneCable", "now", "LOneCable$State;", true)
  | 4 => ("OneCable", "marks", "[LOneCable$State;", true)
  | 5 => ("OneCable", "sea", "LOneCable$Sea;", true)
  | 6 => ("OneCable", "cable", "LOneCable$Cable;", true)
  | 7 => ("OneCable", "nets", "LOneCable$Nets;", true)
  | 8 => ("OneCable", "course", "LOneCable$Course;", true)
  | 9 => ("OneCable", "council", "LOneCable$Council;", true)
  | _ => ("OneCable", "storms", "LOneCable$Storm;", true)
def tyX11 : Nat → FieldType := fun k => match k with
  | 0 => .object "OneCable$Tape"
  | 1 => .object "OneCable$Telling"
  | 2 => .object "OneCable$Bay"
  | 3 => .object "OneCable$State"
  | 4 => .array (.object "OneCable$State")
  | 5 => .object "OneCable$Sea"
  | 6 => .object "OneCable$Cable"
  | 7 => .object "OneCable$Nets"
  | 8 => .object "OneCable$Course"
  | 9 => .object "OneCable$Council"
  | _ => .object "OneCable$Storm"
theorem nmX11 : ∀ a, a < 11 → ∀ b, b < 11 → a ≠ b → (TX11 a).2.1 ≠ (TX11 b).2.1 := by decide +kernel
theorem tyX11_ok : ∀ k, k < 11 → parseFieldDescriptor (TX11 k).2.2.1 = some (tyX11 k) := by decide +kernel
def RX12 : String := "OneCableModel"
def TX12 : u_T := fun k => match k with
  | 0 => ("OneCableModel", "thrown", "I", false)
  | 1 => ("OneCableModel", "tape", "[I", true)
  | 2 => ("OneCableModel", "taped", "I", false)
  | 3 => ("OneCableModel", "size", "I", false)
  | 4 => ("OneCableModel", "sort", "[I", true)
  | 5 => ("OneCableModel", "place", "[I", true)
  | 6 => ("OneCableModel", "value", "[J", true)
  | 7 => ("OneCableModel", "at", "I", false)
  | 8 => ("OneCableModel", "fault", "I", false)
  | 9 => ("OneCableModel", "words", "[J", true)
  | 10 => ("OneCableModel", "rows", "[I", true)
  | 11 => ("OneCableModel", "op", "[I", true)
  | 12 => ("OneCableModel", "arg", "[I", true)
  | 13 => ("OneCableModel", "codes", "I", false)
  | 14 => ("OneCableModel", "names", "[J", true)
  | 15 => ("OneCableModel", "cables", "I", false)
  | 16 => ("OneCableModel", "told", "I", false)
  | 17 => ("OneCableModel", "ofWish", "Z", false)
  | 18 => ("OneCableModel", "factWords", "[I", true)
  | 19 => ("OneCableModel", "facts", "[I", true)
  | 20 => ("OneCableModel", "pile", "[I", true)
  | 21 => ("OneCableModel", "isMarked", "[Z", true)
  | 22 => ("OneCableModel", "force", "[I", true)
  | 23 => ("OneCableModel", "tears", "[Z", true)
  | 24 => ("OneCableModel", "fish", "[I", true)
  | 25 => ("OneCableModel", "has", "[I", true)
  | 26 => ("OneCableModel", "reached", "[Z", true)
  | 27 => ("OneCableModel", "leads", "[Z", true)
  | 28 => ("OneCableModel", "least", "[I", true)
  | 29 => ("OneCableModel", "row", "[I", true)
  | 30 => ("OneCableModel", "bestRow", "[I", true)
  | 31 => ("OneCableModel", "bestOver", "I", false)
  | 32 => ("OneCableModel", "hasRow", "Z", false)
  | _ => ("OneCableModel", "g", "J", false)
def tyX12 : Nat → FieldType := fun k => match k with
  | 0 => .int
  | 1 => .array .int
  | 2 => .int
  | 3 => .int
  | 4 => .array .int
  | 5 => .array .int
  | 6 => .array .long
  | 7 => .int
  | 8 => .int
  | 9 => .array .long
  | 10 => .array .int
  | 11 => .array .int
  | 12 => .array .int
  | 13 => .int
  | 14 => .array .long
  | 15 => .int
  | 16 => .int
  | 17 => .boolean
  | 18 => .array .int
  | 19 => .array .int
  | 20 => .array .int
  | 21 => .array .boolean
  | 22 => .array .int
  | 23 => .array .boolean
  | 24 => .array .int
  | 25 => .array .int
  | 26 => .array .boolean
  | 27 => .array .boolean
  | 28 => .array .int
  | 29 => .array .int
  | 30 => .array .int
  | 31 => .int
  | 32 => .boolean
  | _ => .long
theorem nmX12 : ∀ a, a < 34 → ∀ b, b < 34 → a ≠ b → (TX12 a).2.1 ≠ (TX12 b).2.1 := by decide +kernel
theorem tyX12_ok : ∀ k, k < 34 → parseFieldDescriptor (TX12 k).2.2.1 = some (tyX12 k) := by decide +kernel
def R_law : String := "OneCableLaw"
abbrev mCls : List vw_C := [(RX0, TX0, 17), (RX1, TX1, 4), (RX2, TX2, 7), (RX3, TX3, 12), (RX4, TX4, 3), (RX5, TX5, 5), (RX6, TX6, 3), (RX7, TX7, 9), (RX8, TX8, 8), (RX9, TX9, 6), (RX10, TX10, 10), (RX11, TX11, 11), (RX12, TX12, 34)]
