def RX0 : String := "InTwosInSpanish$Parting"
def TX0 : u_T := fun k => match k with
  | 0 => ("InTwosInSpanish$Parting", "mates", "[I", true)
  | 1 => ("InTwosInSpanish$Parting", "together", "[[I", true)
  | 2 => ("InTwosInSpanish$Parting", "most", "[I", true)
  | _ => ("InTwosInSpanish$Parting", "count", "I", false)
def tyX0 : Nat → FieldType := fun k => match k with
  | 0 => .array .int
  | 1 => .array (.array .int)
  | 2 => .array .int
  | _ => .int
abbrev wsX00 : List Cond := u_ws RX0 TX0 4
theorem nmX0 : ∀ a, a < 4 → ∀ b, b < 4 → a ≠ b → (TX0 a).2.1 ≠ (TX0 b).2.1 := by decide +kernel
theorem tyX0_ok : ∀ k, k < 4 → parseFieldDescriptor (TX0 k).2.2.1 = some (tyX0 k) := by decide +kernel
def RX1 : String := "InTwosInSpanish$People"
def TX1 : u_T := fun k => match k with
  | 0 => ("InTwosInSpanish$People", "kind", "[I", true)
  | 1 => ("InTwosInSpanish$People", "a", "[I", true)
  | 2 => ("InTwosInSpanish$People", "words", "[I", true)
  | 3 => ("InTwosInSpanish$People", "metBits", "[I", true)
  | 4 => ("InTwosInSpanish$People", "wrongBits", "I", false)
  | 5 => ("InTwosInSpanish$People", "count", "I", false)
  | 6 => ("InTwosInSpanish$People", "minutes", "I", false)
  | 7 => ("InTwosInSpanish$People", "absent", "I", false)
  | 8 => ("InTwosInSpanish$People", "evenings", "I", false)
  | _ => ("InTwosInSpanish$People", "lot", "I", false)
def tyX1 : Nat → FieldType := fun k => match k with
  | 0 => .array .int
  | 1 => .array .int
  | 2 => .array .int
  | 3 => .array .int
  | 4 => .int
  | 5 => .int
  | 6 => .int
  | 7 => .int
  | 8 => .int
  | _ => .int
abbrev wsX10 : List Cond := u_ws RX1 TX1 10
theorem nmX1 : ∀ a, a < 10 → ∀ b, b < 10 → a ≠ b → (TX1 a).2.1 ≠ (TX1 b).2.1 := by decide +kernel
theorem tyX1_ok : ∀ k, k < 10 → parseFieldDescriptor (TX1 k).2.2.1 = some (tyX1 k) := by decide +kernel
def RX2 : String := "InTwosInSpanish$Shelf"
def TX2 : u_T := fun k => match k with
  | 0 => ("InTwosInSpanish$Shelf", "held", "I", false)
  | 1 => ("InTwosInSpanish$Shelf", "length", "I", false)
  | _ => ("InTwosInSpanish$Shelf", "elements", "[J", true)
def tyX2 : Nat → FieldType := fun k => match k with
  | 0 => .int
  | 1 => .int
  | _ => .array .long
abbrev wsX20 : List Cond := u_ws RX2 TX2 3
theorem nmX2 : ∀ a, a < 3 → ∀ b, b < 3 → a ≠ b → (TX2 a).2.1 ≠ (TX2 b).2.1 := by decide +kernel
theorem tyX2_ok : ∀ k, k < 3 → parseFieldDescriptor (TX2 k).2.2.1 = some (tyX2 k) := by decide +kernel
def RX3 : String := "InTwosInSpanish$Tape"
def TX3 : u_T := fun k => match k with
  | 0 => ("InTwosInSpanish$Tape", "bytes", "[I", true)
  | 1 => ("InTwosInSpanish$Tape", "size", "I", false)
  | 2 => ("InTwosInSpanish$Tape", "at", "I", false)
  | 3 => ("InTwosInSpanish$Tape", "end", "I", false)
  | _ => ("InTwosInSpanish$Tape", "token", "I", false)
def tyX3 : Nat → FieldType := fun k => match k with
  | 0 => .array .int
  | 1 => .int
  | 2 => .int
  | 3 => .int
  | _ => .int
abbrev wsX30 : List Cond := u_ws RX3 TX3 5
theorem nmX3 : ∀ a, a < 5 → ∀ b, b < 5 → a ≠ b → (TX3 a).2.1 ≠ (TX3 b).2.1 := by decide +kernel
theorem tyX3_ok : ∀ k, k < 5 → parseFieldDescriptor (TX3 k).2.2.1 = some (tyX3 k) := by decide +kernel
def RX4 : String := "InTwosInSpanish"
def TX4 : u_T := fun k => match k with
  | 0 => ("InTwosInSpanish", "now", "LInTwosInSpanish$People;", true)
  | 1 => ("InTwosInSpanish", "draft", "LInTwosInSpanish$People;", true)
  | 2 => ("InTwosInSpanish", "kept", "LInTwosInSpanish$People;", true)
  | 3 => ("InTwosInSpanish", "parting", "LInTwosInSpanish$Parting;", true)
  | 4 => ("InTwosInSpanish", "tape", "LInTwosInSpanish$Tape;", true)
  | 5 => ("InTwosInSpanish", "shelves", "[LInTwosInSpanish$Shelf;", true)
  | 6 => ("InTwosInSpanish", "refusals", "[I", true)
  | _ => ("InTwosInSpanish", "anyKept", "Z", false)
def tyX4 : Nat → FieldType := fun k => match k with
  | 0 => .object "InTwosInSpanish$People"
  | 1 => .object "InTwosInSpanish$People"
  | 2 => .object "InTwosInSpanish$People"
  | 3 => .object "InTwosInSpanish$Parting"
  | 4 => .object "InTwosInSpanish$Tape"
  | 5 => .array (.object "InTwosInSpanish$Shelf")
  | 6 => .array .int
  | _ => .boolean
abbrev wsX40 : List Cond := u_ws RX4 TX4 8
theorem nmX4 : ∀ a, a < 8 → ∀ b, b < 8 → a ≠ b → (TX4 a).2.1 ≠ (TX4 b).2.1 := by decide +kernel
theorem tyX4_ok : ∀ k, k < 8 → parseFieldDescriptor (TX4 k).2.2.1 = some (tyX4 k) := by decide +kernel
def RX5 : String := "InTwosInSpanishModel"
def TX5 : u_T := fun k => match k with
  | 0 => ("InTwosInSpanishModel", "people", "I", false)
  | 1 => ("InTwosInSpanishModel", "kind", "[I", true)
  | 2 => ("InTwosInSpanishModel", "own", "[I", true)
  | 3 => ("InTwosInSpanishModel", "words", "[I", true)
  | 4 => ("InTwosInSpanishModel", "amiss", "[Z", true)
  | 5 => ("InTwosInSpanishModel", "met", "[I", true)
  | 6 => ("InTwosInSpanishModel", "ways", "[I", true)
  | 7 => ("InTwosInSpanishModel", "evenings", "I", false)
  | 8 => ("InTwosInSpanishModel", "seed", "I", false)
  | 9 => ("InTwosInSpanishModel", "taped", "I", false)
  | 10 => ("InTwosInSpanishModel", "tape", "[I", true)
  | 11 => ("InTwosInSpanishModel", "from", "I", false)
  | 12 => ("InTwosInSpanishModel", "to", "I", false)
  | 13 => ("InTwosInSpanishModel", "token", "I", false)
  | 14 => ("InTwosInSpanishModel", "value", "I", false)
  | 15 => ("InTwosInSpanishModel", "holding", "[I", true)
  | 16 => ("InTwosInSpanishModel", "rowLength", "[I", true)
  | 17 => ("InTwosInSpanishModel", "rowOf", "[J", true)
  | 18 => ("InTwosInSpanishModel", "refusals", "[I", true)
  | 19 => ("InTwosInSpanishModel", "imaged", "Z", false)
  | 20 => ("InTwosInSpanishModel", "old", "[I", true)
  | 21 => ("InTwosInSpanishModel", "before", "[I", true)
  | 22 => ("InTwosInSpanishModel", "with", "[I", true)
  | 23 => ("InTwosInSpanishModel", "best", "[I", true)
  | 24 => ("InTwosInSpanishModel", "most", "I", false)
  | 25 => ("InTwosInSpanishModel", "away", "I", false)
  | _ => ("InTwosInSpanishModel", "barred", "Z", false)
def tyX5 : Nat → FieldType := fun k => match k with
  | 0 => .int
  | 1 => .array .int
  | 2 => .array .int
  | 3 => .array .int
  | 4 => .array .boolean
  | 5 => .array .int
  | 6 => .array .int
  | 7 => .int
  | 8 => .int
  | 9 => .int
  | 10 => .array .int
  | 11 => .int
  | 12 => .int
  | 13 => .int
  | 14 => .int
  | 15 => .array .int
  | 16 => .array .int
  | 17 => .array .long
  | 18 => .array .int
  | 19 => .boolean
  | 20 => .array .int
  | 21 => .array .int
  | 22 => .array .int
  | 23 => .array .int
  | 24 => .int
  | 25 => .int
  | _ => .boolean
abbrev wsX50 : List Cond := u_ws RX5 TX5 27
theorem nmX5 : ∀ a, a < 27 → ∀ b, b < 27 → a ≠ b → (TX5 a).2.1 ≠ (TX5 b).2.1 := by decide +kernel
theorem tyX5_ok : ∀ k, k < 27 → parseFieldDescriptor (TX5 k).2.2.1 = some (tyX5 k) := by decide +kernel
abbrev vwCl : List vw_C := [(RX0, TX0, 4), (RX1, TX1, 10), (RX2, TX2, 3), (RX3, TX3, 5), (RX4, TX4, 8), (RX5, TX5, 27)]
