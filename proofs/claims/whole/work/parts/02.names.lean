def RX0 : String := "FourInks$Board"
def TX0 : u_T := fun k => match k with
  | _ => ("FourInks$Board", "words", "[J", true)
def tyX0 : Nat → FieldType := fun k => match k with
  | _ => .array .long
abbrev wsX00 : List Cond := u_ws RX0 TX0 1
theorem nmX0 : ∀ a, a < 1 → ∀ b, b < 1 → a ≠ b → (TX0 a).2.1 ≠ (TX0 b).2.1 := by decide +kernel
theorem tyX0_ok : ∀ k, k < 1 → parseFieldDescriptor (TX0 k).2.2.1 = some (tyX0 k) := by decide +kernel
def RX1 : String := "FourInks$Fit"
def TX1 : u_T := fun k => match k with
  | 0 => ("FourInks$Fit", "size", "I", false)
  | 1 => ("FourInks$Fit", "x", "[I", true)
  | 2 => ("FourInks$Fit", "y", "[I", true)
  | 3 => ("FourInks$Fit", "across", "[I", true)
  | 4 => ("FourInks$Fit", "up", "[I", true)
  | 5 => ("FourInks$Fit", "leastA", "I", false)
  | 6 => ("FourInks$Fit", "greatestA", "I", false)
  | 7 => ("FourInks$Fit", "leastB", "I", false)
  | 8 => ("FourInks$Fit", "greatestB", "I", false)
  | 9 => ("FourInks$Fit", "slips", "I", false)
  | 10 => ("FourInks$Fit", "least", "[I", true)
  | _ => ("FourInks$Fit", "greatest", "[I", true)
def tyX1 : Nat → FieldType := fun k => match k with
  | 0 => .int
  | 1 => .array .int
  | 2 => .array .int
  | 3 => .array .int
  | 4 => .array .int
  | 5 => .int
  | 6 => .int
  | 7 => .int
  | 8 => .int
  | 9 => .int
  | 10 => .array .int
  | _ => .array .int
abbrev wsX10 : List Cond := u_ws RX1 TX1 12
theorem nmX1 : ∀ a, a < 12 → ∀ b, b < 12 → a ≠ b → (TX1 a).2.1 ≠ (TX1 b).2.1 := by decide +kernel
theorem tyX1_ok : ∀ k, k < 12 → parseFieldDescriptor (TX1 k).2.2.1 = some (tyX1 k) := by decide +kernel
def RX2 : String := "FourInks$Halts"
def TX2 : u_T := fun k => match k with
  | 0 => ("FourInks$Halts", "behind", "[J", true)
  | 1 => ("FourInks$Halts", "least", "[J", true)
  | 2 => ("FourInks$Halts", "going", "J", false)
  | _ => ("FourInks$Halts", "halting", "J", false)
def tyX2 : Nat → FieldType := fun k => match k with
  | 0 => .array .long
  | 1 => .array .long
  | 2 => .long
  | _ => .long
abbrev wsX20 : List Cond := u_ws RX2 TX2 4
theorem nmX2 : ∀ a, a < 4 → ∀ b, b < 4 → a ≠ b → (TX2 a).2.1 ≠ (TX2 b).2.1 := by decide +kernel
theorem tyX2_ok : ∀ k, k < 4 → parseFieldDescriptor (TX2 k).2.2.1 = some (tyX2 k) := by decide +kernel
def RX3 : String := "FourInks$Job"
def TX3 : u_T := fun k => match k with
  | 0 => ("FourInks$Job", "clauses", "I", false)
  | 1 => ("FourInks$Job", "width", "I", false)
  | 2 => ("FourInks$Job", "height", "I", false)
  | 3 => ("FourInks$Job", "marks", "I", false)
  | 4 => ("FourInks$Job", "markX", "[I", true)
  | 5 => ("FourInks$Job", "markY", "[I", true)
  | 6 => ("FourInks$Job", "slack", "I", false)
  | 7 => ("FourInks$Job", "screws", "[I", true)
  | 8 => ("FourInks$Job", "screwNumbers", "[I", true)
  | 9 => ("FourInks$Job", "turns", "I", false)
  | 10 => ("FourInks$Job", "boxes", "I", false)
  | 11 => ("FourInks$Job", "shapes", "[LFourInks$Board;", true)
  | 12 => ("FourInks$Job", "white", "I", false)
  | 13 => ("FourInks$Job", "ove\x72", "I", false)
  | 14 => ("FourInks$Job", "screens", "LFourInks$Screens;", true)
  | _ => ("FourInks$Job", "lies", "[I", true)
def tyX3 : Nat → FieldType := fun k => match k with
  | 0 => .int
  | 1 => .int
  | 2 => .int
  | 3 => .int
  | 4 => .array .int
  | 5 => .array .int
  | 6 => .int
  | 7 => .array .int
  | 8 => .array .int
  | 9 => .int
  | 10 => .int
  | 11 => .array (.object "FourInks$Board")
  | 12 => .int
  | 13 => .int
  | 14 => .object "FourInks$Screens"
  | _ => .array .int
abbrev wsX30 : List Cond := u_ws RX3 TX3 16
theorem nmX3 : ∀ a, a < 16 → ∀ b, b < 16 → a ≠ b → (TX3 a).2.1 ≠ (TX3 b).2.1 := by decide +kernel
theorem tyX3_ok : ∀ k, k < 16 → parseFieldDescriptor (TX3 k).2.2.1 = some (tyX3 k) := by decide +kernel
def RX4 : String := "FourInks$JobText"
def TX4 : u_T := fun k => match k with
  | 0 => ("FourInks$JobText", "tape", "LFourInks$Tape;", true)
  | 1 => ("FourInks$JobText", "clausesTold", "I", false)
  | 2 => ("FourInks$JobText", "pairsTold", "I", false)
  | 3 => ("FourInks$JobText", "draft", "LFourInks$Job;", false)
  | 4 => ("FourInks$JobText", "fault", "I", false)
  | _ => ("FourInks$JobText", "place", "I", false)
def tyX4 : Nat → FieldType := fun k => match k with
  | 0 => .object "FourInks$Tape"
  | 1 => .int
  | 2 => .int
  | 3 => .object "FourInks$Job"
  | 4 => .int
  | _ => .int
abbrev wsX40 : List Cond := u_ws RX4 TX4 6
theorem nmX4 : ∀ a, a < 6 → ∀ b, b < 6 → a ≠ b → (TX4 a).2.1 ≠ (TX4 b).2.1 := by decide +kernel
theorem tyX4_ok : ∀ k, k < 6 → parseFieldDescriptor (TX4 k).2.2.1 = some (tyX4 k) := by decide +kernel
def RX5 : String := "FourInks$Meeting"
def TX5 : u_T := fun k => match k with
  | 0 => ("FourInks$Meeting", "whitePrice", "I", false)
  | 1 => ("FourInks$Meeting", "overPrice", "I", false)
  | 2 => ("FourInks$Meeting", "wanted", "[J", true)
  | 3 => ("FourInks$Meeting", "common", "[J", true)
  | 4 => ("FourInks$Meeting", "first", "LFourInks$Board;", true)
  | 5 => ("FourInks$Meeting", "second", "LFourInks$Board;", true)
  | 6 => ("FourInks$Meeting", "slipped", "LFourInks$Board;", true)
  | 7 => ("FourInks$Meeting", "whiteCells", "I", false)
  | 8 => ("FourInks$Meeting", "overCells", "I", false)
  | 9 => ("FourInks$Meeting", "isFound", "Z", false)
  | 10 => ("FourInks$Meeting", "bestOne", "I", false)
  | _ => ("FourInks$Meeting", "bestTwo", "I", false)
def tyX5 : Nat → FieldType := fun k => match k with
  | 0 => .int
  | 1 => .int
  | 2 => .array .long
  | 3 => .array .long
  | 4 => .object "FourInks$Board"
  | 5 => .object "FourInks$Board"
  | 6 => .object "FourInks$Board"
  | 7 => .int
  | 8 => .int
  | 9 => .boolean
  | 10 => .int
  | _ => .int
abbrev wsX50 : List Cond := u_ws RX5 TX5 12
theorem nmX5 : ∀ a, a < 12 → ∀ b, b < 12 → a ≠ b → (TX5 a).2.1 ≠ (TX5 b).2.1 := by decide +kernel
theorem tyX5_ok : ∀ k, k < 12 → parseFieldDescriptor (TX5 k).2.2.1 = some (tyX5 k) := by decide +kernel
def RX6 : String := "FourInks$Mending"
def TX6 : u_T := fun k => match k with
  | 0 => ("FourInks$Mending", "a", "I", false)
  | 1 => ("FourInks$Mending", "b", "I", false)
  | 2 => ("FourInks$Mending", "\x72", "I", false)
  | 3 => ("FourInks$Mending", "s", "I", false)
  | 4 => ("FourInks$Mending", "row", "[I", true)
  | 5 => ("FourInks$Mending", "screws", "I", false)
  | _ => ("FourInks$Mending", "bestRow", "[I", true)
def tyX6 : Nat → FieldType := fun k => match k with
  | 0 => .int
  | 1 => .int
  | 2 => .int
  | 3 => .int
  | 4 => .array .int
  | 5 => .int
  | _ => .array .int
abbrev wsX60 : List Cond := u_ws RX6 TX6 7
theorem nmX6 : ∀ a, a < 7 → ∀ b, b < 7 → a ≠ b → (TX6 a).2.1 ≠ (TX6 b).2.1 := by decide +kernel
theorem tyX6_ok : ∀ k, k < 7 → parseFieldDescriptor (TX6 k).2.2.1 = some (tyX6 k) := by decide +kernel
def RX7 : String := "FourInks$Readings"
def TX7 : u_T := fun k => match k with
  | 0 => ("FourInks$Readings", "size", "I", false)
  | 1 => ("FourInks$Readings", "rights", "I", false)
  | 2 => ("FourInks$Readings", "latest", "I", false)
  | 3 => ("FourInks$Readings", "step", "[I", true)
  | 4 => ("FourInks$Readings", "ink", "[I", true)
  | 5 => ("FourInks$Readings", "mark", "[I", true)
  | 6 => ("FourInks$Readings", "across", "[I", true)
  | 7 => ("FourInks$Readings", "up", "[I", true)
  | 8 => ("FourInks$Readings", "rightOf", "[I", true)
  | 9 => ("FourInks$Readings", "rightStep", "[I", true)
  | 10 => ("FourInks$Readings", "rightAcross", "[I", true)
  | _ => ("FourInks$Readings", "rightUp", "[I", true)
def tyX7 : Nat → FieldType := fun k => match k with
  | 0 => .int
  | 1 => .int
  | 2 => .int
  | 3 => .array .int
  | 4 => .array .int
  | 5 => .array .int
  | 6 => .array .int
  | 7 => .array .int
  | 8 => .array .int
  | 9 => .array .int
  | 10 => .array .int
  | _ => .array .int
abbrev wsX70 : List Cond := u_ws RX7 TX7 12
theorem nmX7 : ∀ a, a < 12 → ∀ b, b < 12 → a ≠ b → (TX7 a).2.1 ≠ (TX7 b).2.1 := by decide +kernel
theorem tyX7_ok : ∀ k, k < 12 → parseFieldDescriptor (TX7 k).2.2.1 = some (tyX7 k) := by decide +kernel
def RX8 : String := "FourInks$Screens"
def TX8 : u_T := fun k => match k with
  | 0 => ("FourInks$Screens", "size", "I", false)
  | 1 => ("FourInks$Screens", "p", "[I", true)
  | 2 => ("FourInks$Screens", "q", "[I", true)
  | _ => ("FourInks$Screens", "setting", "[I", true)
def tyX8 : Nat → FieldType := fun k => match k with
  | 0 => .int
  | 1 => .array .int
  | 2 => .array .int
  | _ => .array .int
abbrev wsX80 : List Cond := u_ws RX8 TX8 4
theorem nmX8 : ∀ a, a < 4 → ∀ b, b < 4 → a ≠ b → (TX8 a).2.1 ≠ (TX8 b).2.1 := by decide +kernel
theorem tyX8_ok : ∀ k, k < 4 → parseFieldDescriptor (TX8 k).2.2.1 = some (tyX8 k) := by decide +kernel
def RX9 : String := "FourInks$Tape"
def TX9 : u_T := fun k => match k with
  | 0 => ("FourInks$Tape", "bytes", "[B", true)
  | 1 => ("FourInks$Tape", "at", "I", false)
  | 2 => ("FourInks$Tape", "length", "I", false)
  | 3 => ("FourInks$Tape", "kind", "I", false)
  | 4 => ("FourInks$Tape", "start", "I", false)
  | _ => ("FourInks$Tape", "value", "I", false)
def tyX9 : Nat → FieldType := fun k => match k with
  | 0 => .array .byte
  | 1 => .int
  | 2 => .int
  | 3 => .int
  | 4 => .int
  | _ => .int
abbrev wsX90 : List Cond := u_ws RX9 TX9 6
theorem nmX9 : ∀ a, a < 6 → ∀ b, b < 6 → a ≠ b → (TX9 a).2.1 ≠ (TX9 b).2.1 := by decide +kernel
theorem tyX9_ok : ∀ k, k < 6 → parseFieldDescriptor (TX9 k).2.2.1 = some (tyX9 k) := by decide +kernel
def RX10 : String := "FourInks$Tissue"
def TX10 : u_T := fun k => match k with
  | 0 => ("FourInks$Tissue", "greys", "[I", true)
  | 1 => ("FourInks$Tissue", "fewest", "[I", true)
  | 2 => ("FourInks$Tissue", "most", "[I", true)
  | 3 => ("FourInks$Tissue", "weights", "[[I", true)
  | 4 => ("FourInks$Tissue", "zones", "I", false)
  | 5 => ("FourInks$Tissue", "layers", "[I", true)
  | _ => ("FourInks$Tissue", "layersInAll", "I", false)
def tyX10 : Nat → FieldType := fun k => match k with
  | 0 => .array .int
  | 1 => .array .int
  | 2 => .array .int
  | 3 => .array (.array .int)
  | 4 => .int
  | 5 => .array .int
  | _ => .int
abbrev wsX100 : List Cond := u_ws RX10 TX10 7
theorem nmX10 : ∀ a, a < 7 → ∀ b, b < 7 → a ≠ b → (TX10 a).2.1 ≠ (TX10 b).2.1 := by decide +kernel
theorem tyX10_ok : ∀ k, k < 7 → parseFieldDescriptor (TX10 k).2.2.1 = some (tyX10 k) := by decide +kernel
def RX11 : String := "FourInks"
def TX11 : u_T := fun k => match k with
  | 0 => ("FourInks", "text", "LFourInks$JobText;", true)
  | 1 => ("FourInks", "tape", "LFourInks$Tape;", true)
  | 2 => ("FourInks", "job", "LFourInks$Job;", false)
  | 3 => ("FourInks", "readings", "LFourInks$Readings;", true)
  | 4 => ("FourInks", "fit", "LFourInks$Fit;", true)
  | 5 => ("FourInks", "mending", "LFourInks$Mending;", true)
  | 6 => ("FourInks", "meeting", "LFourInks$Meeting;", true)
  | 7 => ("FourInks", "proof", "[LFourInks$Board;", true)
  | 8 => ("FourInks", "signed", "Z", false)
  | 9 => ("FourInks", "moved", "LFourInks$Board;", true)
  | 10 => ("FourInks", "marked", "LFourInks$Board;", true)
  | 11 => ("FourInks", "run", "[I", true)
  | 12 => ("FourInks", "halts", "LFourInks$Halts;", true)
  | 13 => ("FourInks", "bed", "LFourInks$Tissue;", true)
  | _ => ("FourInks", "bestOrde\x72", "[I", true)
def tyX11 : Nat → FieldType := fun k => match k with
  | 0 => .object "FourInks$JobText"
  | 1 => .object "FourInks$Tape"
  | 2 => .object "FourInks$Job"
  | 3 => .object "FourInks$Readings"
  | 4 => .object "FourInks$Fit"
  | 5 => .object "FourInks$Mending"
  | 6 => .object "FourInks$Meeting"
  | 7 => .array (.object "FourInks$Board")
  | 8 => .boolean
  | 9 => .object "FourInks$Board"
  | 10 => .object "FourInks$Board"
  | 11 => .array .int
  | 12 => .object "FourInks$Halts"
  | 13 => .object "FourInks$Tissue"
  | _ => .array .int
abbrev wsX110 : List Cond := u_ws RX11 TX11 15
theorem nmX11 : ∀ a, a < 15 → ∀ b, b < 15 → a ≠ b → (TX11 a).2.1 ≠ (TX11 b).2.1 := by decide +kernel
theorem tyX11_ok : ∀ k, k < 15 → parseFieldDescriptor (TX11 k).2.2.1 = some (tyX11 k) := by decide +kernel
def RX12 : String := "FourInksModel"
def TX12 : u_T := fun k => match k with
  | 0 => ("FourInksModel", "tape", "[B", true)
  | 1 => ("FourInksModel", "taped", "I", false)
  | 2 => ("FourInksModel", "size", "I", false)
  | 3 => ("FourInksModel", "sort", "I", false)
  | 4 => ("FourInksModel", "key", "I", false)
  | 5 => ("FourInksModel", "at", "I", false)
  | 6 => ("FourInksModel", "end", "I", false)
  | 7 => ("FourInksModel", "numbe\x72", "I", false)
  | 8 => ("FourInksModel", "faultKind", "I", false)
  | 9 => ("FourInksModel", "faultPlace", "I", false)
  | 10 => ("FourInksModel", "got", "I", false)
  | 11 => ("FourInksModel", "num", "[I", true)
  | 12 => ("FourInksModel", "markX", "[I", true)
  | 13 => ("FourInksModel", "markY", "[I", true)
  | 14 => ("FourInksModel", "screwMany", "[I", true)
  | 15 => ("FourInksModel", "screws", "[I", true)
  | 16 => ("FourInksModel", "shapes", "[I", true)
  | 17 => ("FourInksModel", "screenP", "[I", true)
  | 18 => ("FourInksModel", "screenQ", "[I", true)
  | 19 => ("FourInksModel", "lies", "[I", true)
  | 20 => ("FourInksModel", "clauses", "I", false)
  | 21 => ("FourInksModel", "met", "I", false)
  | 22 => ("FourInksModel", "paired", "I", false)
  | 23 => ("FourInksModel", "readMany", "I", false)
  | 24 => ("FourInksModel", "rightMany", "I", false)
  | 25 => ("FourInksModel", "lastTold", "I", false)
  | 26 => ("FourInksModel", "rdTold", "[I", true)
  | 27 => ("FourInksModel", "rdInk", "[I", true)
  | 28 => ("FourInksModel", "rdMark", "[I", true)
  | 29 => ("FourInksModel", "rdAcross", "[I", true)
  | 30 => ("FourInksModel", "rdUp", "[I", true)
  | 31 => ("FourInksModel", "rTold", "[I", true)
  | 32 => ("FourInksModel", "rOf", "[I", true)
  | 33 => ("FourInksModel", "rAcross", "[I", true)
  | 34 => ("FourInksModel", "rUp", "[I", true)
  | 35 => ("FourInksModel", "askedMany", "I", false)
  | 36 => ("FourInksModel", "askedX", "[I", true)
  | 37 => ("FourInksModel", "askedY", "[I", true)
  | 38 => ("FourInksModel", "askedAcross", "[I", true)
  | 39 => ("FourInksModel", "askedUp", "[I", true)
  | 40 => ("FourInksModel", "fitMany", "I", false)
  | 41 => ("FourInksModel", "fitLeast", "[I", true)
  | 42 => ("FourInksModel", "fitMost", "[I", true)
  | 43 => ("FourInksModel", "turnMany", "I", false)
  | 44 => ("FourInksModel", "turned", "[I", true)
  | 45 => ("FourInksModel", "work", "[I", true)
  | 46 => ("FourInksModel", "whiteCells", "I", false)
  | 47 => ("FourInksModel", "overCells", "I", false)
  | 48 => ("FourInksModel", "hasSpread", "Z", false)
  | 49 => ("FourInksModel", "spreadK", "I", false)
  | 50 => ("FourInksModel", "spreadL", "I", false)
  | 51 => ("FourInksModel", "hasProof", "Z", false)
  | 52 => ("FourInksModel", "proof", "[I", true)
  | 53 => ("FourInksModel", "row", "[I", true)
  | 54 => ("FourInksModel", "mean", "[J", true)
  | 55 => ("FourInksModel", "layerMany", "I", false)
  | 56 => ("FourInksModel", "laye\x72", "[I", true)
  | 57 => ("FourInksModel", "behind", "[I", true)
  | _ => ("FourInksModel", "chosen", "[I", true)
def tyX12 : Nat → FieldType := fun k => match k with
  | 0 => .array .byte
  | 1 => .int
  | 2 => .int
  | 3 => .int
  | 4 => .int
  | 5 => .int
  | 6 => .int
  | 7 => .int
  | 8 => .int
  | 9 => .int
  | 10 => .int
  | 11 => .array .int
  | 12 => .array .int
  | 13 => .array .int
  | 14 => .array .int
  | 15 => .array .int
  | 16 => .array .int
  | 17 => .array .int
  | 18 => .array .int
  | 19 => .array .int
  | 20 => .int
  | 21 => .int
  | 22 => .int
  | 23 => .int
  | 24 => .int
  | 25 => .int
  | 26 => .array .int
  | 27 => .array .int
  | 28 => .array .int
  | 29 => .array .int
  | 30 => .array .int
  | 31 => .array .int
  | 32 => .array .int
  | 33 => .array .int
  | 34 => .array .int
  | 35 => .int
  | 36 => .array .int
  | 37 => .array .int
  | 38 => .array .int
  | 39 => .array .int
  | 40 => .int
  | 41 => .array .int
  | 42 => .array .int
  | 43 => .int
  | 44 => .array .int
  | 45 => .array .int
  | 46 => .int
  | 47 => .int
  | 48 => .boolean
  | 49 => .int
  | 50 => .int
  | 51 => .boolean
  | 52 => .array .int
  | 53 => .array .int
  | 54 => .array .long
  | 55 => .int
  | 56 => .array .int
  | 57 => .array .int
  | _ => .array .int
abbrev wsX120 : List Cond := u_ws RX12 TX12 59
theorem nmX12 : ∀ a, a < 59 → ∀ b, b < 59 → a ≠ b → (TX12 a).2.1 ≠ (TX12 b).2.1 := by decide +kernel
theorem tyX12_ok : ∀ k, k < 59 → parseFieldDescriptor (TX12 k).2.2.1 = some (tyX12 k) := by decide +kernel
def RJ13 : String := "java/lang/Long"
def RJ9 : String := "java/lang/Math"
def RJ0 : String := "java/lang/String"
def RJ1 : String := "java/lang/StringLatin1"
def RJ10 : String := "java/lang/System"
def RJ7 : String := "java/util/Arrays"
def RJ3 : String := "jdk/internal/util/Preconditions"
def RLw : String := "FourInksLaw"
def clsL : List vw_C := [(RX0, TX0, 1), (RX1, TX1, 12), (RX2, TX2, 4), (RX3, TX3, 16), (RX4, TX4, 6), (RX5, TX5, 12), (RX6, TX6, 7), (RX7, TX7, 12), (RX8, TX8, 4), (RX9, TX9, 6), (RX10, TX10, 7), (RX11, TX11, 15), (RX12, TX12, 59)]
theorem goodIn_r {big : List Cond} (ws : List Cond) (ps : List Nat) (hp : ws = ps.filterMap (fun i => big[i]?)) (h : ws.all goodWord = true) : GoodIn big ws := by
  intro w hw
  have h1 := List.all_eq_true.mp h w hw
  rw [hp] at hw
  obtain ⟨i, -, hi⟩ := List.mem_filterMap.mp hw
  have hm : w ∈ big := by first | exact List.mem_of_getElem? hi | exact List.getElem?_mem hi
  exact ⟨hm, good_of_word h1⟩
def tgL : List (List Nat) := [[2], [0, 2, 2, 2, 2, 0, 0, 0, 0, 0, 2, 2], [2, 2, 1, 1], [0, 0, 0, 0, 2, 2, 0, 2, 2, 0, 0, 2, 0, 0, 2, 2], [2, 0, 0, 2, 0, 0], [0, 0, 2, 2, 2, 2, 2, 0, 0, 0, 0, 0], [0, 0, 0, 0, 2, 0, 2], [0, 0, 0, 2, 2, 2, 2, 2, 2, 2, 2, 2], [0, 2, 2, 2], [2, 0, 0, 0, 0, 0], [2, 2, 2, 2, 0, 2, 0], [2, 2, 2, 2, 2, 2, 2, 2, 0, 2, 2, 2, 2, 2, 2], [2, 0, 0, 0, 0, 0, 0, 0, 0, 0, 0, 2, 2, 2, 2, 2, 2, 2, 2, 2, 0, 0, 0, 0, 0, 0, 2, 2, 2, 2, 2, 2, 2, 2, 2, 0, 2, 2, 2, 2, 0, 2, 2, 0, 2, 2, 0, 0, 0, 0, 0, 0, 2, 2, 2, 0, 2, 2, 2]]
def SH : List (Nat × Nat) := [(11, 0), (4, 0), (9, 0), (102, 900), (3, 0), (100, 8), (100, 8), (100, 4), (100, 36), (103, 4), (0, 0), (101, 4), (0, 0), (101, 4), (0, 0), (101, 4), (0, 0), (101, 4), (8, 0), (100, 8), (100, 8), (100, 4), (100, 16), (3, 0), (100, 8), (100, 8), (100, 4), (100, 36), (103, 4), (0, 0), (101, 4), (0, 0), (101, 4), (0, 0), (101, 4), (0, 0), (101, 4), (8, 0), (100, 8), (100, 8), (100, 4), (100, 16), (7, 0), (100, 24), (100, 24), (100, 24), (100, 24), (100, 24), (100, 20), (100, 20), (100, 20), (100, 20), (1, 0), (100, 24), (100, 24), (100, 24), (100, 24), (100, 4), (100, 4), (6, 0), (100, 3), (100, 3), (5, 0), (101, 4), (101, 4), (0, 0), (101, 4), (0, 0), (101, 4), (0, 0), (101, 4), (103, 4), (0, 0), (101, 4), (0, 0), (101, 4), (0, 0), (101, 4), (0, 0), (101, 4), (0, 0), (101, 4), (0, 0), (101, 4), (100, 24), (2, 0), (101, 7), (101, 7), (10, 0), (100, 20), (100, 20), (100, 20), (104, 21), (100, 10), (100, 10), (100, 10), (100, 10), (100, 10), (100, 10), (100, 10), (100, 10), (100, 10), (100, 10), (100, 10), (100, 10), (100, 10), (100, 10), (100, 10), (100, 10), (100, 10), (100, 10), (100, 10), (100, 10), (100, 10), (100, 20), (100, 4), (12, 0), (102, 900), (100, 18), (100, 16), (100, 16), (100, 8), (100, 72), (100, 128), (100, 16), (100, 16), (100, 32), (100, 24), (100, 24), (100, 24), (100, 24), (100, 24), (100, 20), (100, 20), (100, 20), (100, 20), (100, 24), (100, 24), (100, 24), (100, 24), (100, 4), (100, 4), (100, 3), (100, 64), (100, 64), (100, 24), (101, 14), (100, 20), (100, 210), (100, 4)]
def TBG : List Cond := lw_tbl.filter goodWord
theorem tbg {w : Cond} (i : Nat) (h : lw_tbl[i]? = some w) (hg : goodWord w = true) : w ∈ TBG := List.mem_filter.mpr ⟨List.mem_of_getElem? h, hg⟩
theorem tbg_good {w : Cond} (h : w ∈ TBG) : goodWord w = true := (List.mem_filter.mp h).2
theorem tbg_tbl {w : Cond} (h : w ∈ TBG) : w ∈ lw_tbl := (List.mem_filter.mp h).1
theorem tbg_all {ws : List Cond} (ps : List Nat) (hp : ws = ps.filterMap (fun i => lw_tbl[i]?)) (h : ws.all goodWord = true) : ∀ w ∈ ws, w ∈ TBG := fun w hw => List.mem_filter.mpr ⟨(goodIn_r ws ps hp h w hw).1, List.all_eq_true.mp h w hw⟩
theorem inT0 : ∀ w ∈ u_ws RX0 TX0 1, w ∈ TBG := tbg_all [167] (by decide +kernel) (by decide +kernel)
theorem inT1 : ∀ w ∈ u_ws RX1 TX1 12, w ∈ TBG := tbg_all [383, 385, 387, 389, 391, 393, 395, 397, 399, 401, 403, 405] (by decide +kernel) (by decide +kernel)
theorem inT2 : ∀ w ∈ u_ws RX2 TX2 4, w ∈ TBG := tbg_all [503, 505, 507, 509] (by decide +kernel) (by decide +kernel)
theorem inT3 : ∀ w ∈ u_ws RX3 TX3 16, w ∈ TBG := tbg_all [258, 260, 262, 264, 266, 268, 270, 272, 274, 276, 278, 280, 282, 284, 286, 288] (by decide +kernel) (by decide +kernel)
theorem inT4 : ∀ w ∈ u_ws RX4 TX4 6, w ∈ TBG := tbg_all [301, 303, 305, 307, 309, 311] (by decide +kernel) (by decide +kernel)
theorem inT5 : ∀ w ∈ u_ws RX5 TX5 12, w ∈ TBG := tbg_all [463, 465, 467, 469, 471, 473, 475, 477, 479, 481, 483, 485] (by decide +kernel) (by decide +kernel)
theorem inT6 : ∀ w ∈ u_ws RX6 TX6 7, w ∈ TBG := tbg_all [423, 425, 427, 429, 431, 433, 435] (by decide +kernel) (by decide +kernel)
theorem inT7 : ∀ w ∈ u_ws RX7 TX7 12, w ∈ TBG := tbg_all [337, 339, 341, 343, 345, 347, 349, 351, 353, 355, 357, 359] (by decide +kernel) (by decide +kernel)
theorem inT8 : ∀ w ∈ u_ws RX8 TX8 4, w ∈ TBG := tbg_all [186, 188, 190, 192] (by decide +kernel) (by decide +kernel)
theorem inT9 : ∀ w ∈ u_ws RX9 TX9 6, w ∈ TBG := tbg_all [135, 137, 139, 141, 143, 145] (by decide +kernel) (by decide +kernel)
theorem inT10 : ∀ w ∈ u_ws RX10 TX10 7, w ∈ TBG := tbg_all [531, 533, 535, 537, 539, 541, 543] (by decide +kernel) (by decide +kernel)
theorem inT11 : ∀ w ∈ u_ws RX11 TX11 15, w ∈ TBG := tbg_all [561, 563, 565, 567, 569, 571, 573, 575, 577, 579, 581, 583, 585, 587, 589] (by decide +kernel) (by decide +kernel)
theorem inT12 : ∀ w ∈ u_ws RX12 TX12 59, w ∈ TBG := tbg_all [1349, 1351, 1353, 1355, 1357, 1359, 1361, 1363, 1365, 1367, 1369, 1371, 1373, 1375, 1377, 1379, 1381, 1383, 1385, 1387, 1389, 1391, 1393, 1395, 1397, 1399, 1401, 1403, 1405, 1407, 1409, 1411, 1413, 1415, 1417, 1419, 1421, 1423, 1425, 1427, 1429, 1431, 1433, 1435, 1437, 1439, 1441, 1443, 1445, 1447, 1449, 1451, 1453, 1455, 1457, 1459, 1461, 1463, 1465] (by decide +kernel) (by decide +kernel)
