def RX0 : String := "SewnRoads$Laws"
def TX0 : u_T := fun k => match k with
  | 0 => ("SewnRoads$Laws", "steps", "[I", true)
  | 1 => ("SewnRoads$Laws", "stack", "[I", true)
  | 2 => ("SewnRoads$Laws", "begins", "[I", true)
  | _ => ("SewnRoads$Laws", "size", "I", false)
def tyX0 : Nat → FieldType := fun k => match k with
  | 0 => .array .int
  | 1 => .array .int
  | 2 => .array .int
  | _ => .int
theorem nmX0 : ∀ a, a < 4 → ∀ b, b < 4 → a ≠ b → (TX0 a).2.1 ≠ (TX0 b).2.1 := by decide +kernel
theorem tyX0_ok : ∀ k, k < 4 → parseFieldDescriptor (TX0 k).2.2.1 = some (tyX0 k) := by decide +kernel
def RX1 : String := "SewnRoads$Net"
def TX1 : u_T := fun k => match k with
  | 0 => ("SewnRoads$Net", "plan", "LSewnRoads$Plan;", true)
  | _ => ("SewnRoads$Net", "distance", "[I", true)
def tyX1 : Nat → FieldType := fun k => match k with
  | 0 => .object "SewnRoads$Plan"
  | _ => .array .int
theorem nmX1 : ∀ a, a < 2 → ∀ b, b < 2 → a ≠ b → (TX1 a).2.1 ≠ (TX1 b).2.1 := by decide +kernel
theorem tyX1_ok : ∀ k, k < 2 → parseFieldDescriptor (TX1 k).2.2.1 = some (tyX1 k) := by decide +kernel
def RX2 : String := "SewnRoads$Past"
def TX2 : u_T := fun k => match k with
  | 0 => ("SewnRoads$Past", "states", "[LSewnRoads$State;", true)
  | 1 => ("SewnRoads$Past", "oldest", "I", false)
  | _ => ("SewnRoads$Past", "size", "I", false)
def tyX2 : Nat → FieldType := fun k => match k with
  | 0 => .array (.object "SewnRoads$State")
  | 1 => .int
  | _ => .int
theorem nmX2 : ∀ a, a < 3 → ∀ b, b < 3 → a ≠ b → (TX2 a).2.1 ≠ (TX2 b).2.1 := by decide +kernel
theorem tyX2_ok : ∀ k, k < 3 → parseFieldDescriptor (TX2 k).2.2.1 = some (tyX2 k) := by decide +kernel
def RX3 : String := "SewnRoads$Plan"
def TX3 : u_T := fun k => match k with
  | 0 => ("SewnRoads$Plan", "towns", "I", false)
  | 1 => ("SewnRoads$Plan", "seams", "I", false)
  | 2 => ("SewnRoads$Plan", "women", "I", false)
  | 3 => ("SewnRoads$Plan", "carts", "I", false)
  | 4 => ("SewnRoads$Plan", "stitches", "I", false)
  | 5 => ("SewnRoads$Plan", "thread", "I", false)
  | 6 => ("SewnRoads$Plan", "frost", "I", false)
  | 7 => ("SewnRoads$Plan", "seed", "I", false)
  | 8 => ("SewnRoads$Plan", "first", "[I", true)
  | 9 => ("SewnRoads$Plan", "second", "[I", true)
  | 10 => ("SewnRoads$Plan", "ends", "[I", true)
  | 11 => ("SewnRoads$Plan", "length", "[I", true)
  | 12 => ("SewnRoads$Plan", "sewn", "[I", true)
  | 13 => ("SewnRoads$Plan", "ways", "[I", true)
  | 14 => ("SewnRoads$Plan", "from", "[I", true)
  | 15 => ("SewnRoads$Plan", "to", "[I", true)
  | 16 => ("SewnRoads$Plan", "load", "[I", true)
  | _ => ("SewnRoads$Plan", "laws", "LSewnRoads$Laws;", true)
def tyX3 : Nat → FieldType := fun k => match k with
  | 0 => .int
  | 1 => .int
  | 2 => .int
  | 3 => .int
  | 4 => .int
  | 5 => .int
  | 6 => .int
  | 7 => .int
  | 8 => .array .int
  | 9 => .array .int
  | 10 => .array .int
  | 11 => .array .int
  | 12 => .array .int
  | 13 => .array .int
  | 14 => .array .int
  | 15 => .array .int
  | 16 => .array .int
  | _ => .object "SewnRoads$Laws"
theorem nmX3 : ∀ a, a < 18 → ∀ b, b < 18 → a ≠ b → (TX3 a).2.1 ≠ (TX3 b).2.1 := by decide +kernel
theorem tyX3_ok : ∀ k, k < 18 → parseFieldDescriptor (TX3 k).2.2.1 = some (tyX3 k) := by decide +kernel
def RX4 : String := "SewnRoads$Reader"
def TX4 : u_T := fun k => match k with
  | 0 => ("SewnRoads$Reader", "draft", "LSewnRoads$Plan;", true)
  | 1 => ("SewnRoads$Reader", "faultPlace", "I", false)
  | 2 => ("SewnRoads$Reader", "tokens", "LSewnRoads$Tokens;", true)
  | 3 => ("SewnRoads$Reader", "names", "[J", true)
  | 4 => ("SewnRoads$Reader", "townOfName", "[I", true)
  | 5 => ("SewnRoads$Reader", "nameCount", "I", false)
  | 6 => ("SewnRoads$Reader", "at", "I", false)
  | 7 => ("SewnRoads$Reader", "kind", "I", false)
  | 8 => ("SewnRoads$Reader", "fault", "I", false)
  | 9 => ("SewnRoads$Reader", "softFault", "I", false)
  | _ => ("SewnRoads$Reader", "softPlace", "I", false)
def tyX4 : Nat → FieldType := fun k => match k with
  | 0 => .object "SewnRoads$Plan"
  | 1 => .int
  | 2 => .object "SewnRoads$Tokens"
  | 3 => .array .long
  | 4 => .array .int
  | 5 => .int
  | 6 => .int
  | 7 => .int
  | 8 => .int
  | 9 => .int
  | _ => .int
theorem nmX4 : ∀ a, a < 11 → ∀ b, b < 11 → a ≠ b → (TX4 a).2.1 ≠ (TX4 b).2.1 := by decide +kernel
theorem tyX4_ok : ∀ k, k < 11 → parseFieldDescriptor (TX4 k).2.2.1 = some (tyX4 k) := by decide +kernel
def RX5 : String := "SewnRoads$Rules"
def TX5 : u_T := fun k => match k with
  | 0 => ("SewnRoads$Rules", "plan", "LSewnRoads$Plan;", true)
  | 1 => ("SewnRoads$Rules", "vars", "[I", true)
  | _ => ("SewnRoads$Rules", "setCost", "[I", true)
def tyX5 : Nat → FieldType := fun k => match k with
  | 0 => .object "SewnRoads$Plan"
  | 1 => .array .int
  | _ => .array .int
theorem nmX5 : ∀ a, a < 3 → ∀ b, b < 3 → a ≠ b → (TX5 a).2.1 ≠ (TX5 b).2.1 := by decide +kernel
theorem tyX5_ok : ∀ k, k < 3 → parseFieldDescriptor (TX5 k).2.2.1 = some (tyX5 k) := by decide +kernel
def RX6 : String := "SewnRoads$Search"
def TX6 : u_T := fun k => match k with
  | 0 => ("SewnRoads$Search", "plan", "LSewnRoads$Plan;", true)
  | 1 => ("SewnRoads$Search", "net", "LSewnRoads$Net;", true)
  | 2 => ("SewnRoads$Search", "town", "[I", true)
  | 3 => ("SewnRoads$Search", "other", "[I", true)
  | 4 => ("SewnRoads$Search", "way", "[I", true)
  | 5 => ("SewnRoads$Search", "gap", "[I", true)
  | _ => ("SewnRoads$Search", "told", "I", false)
def tyX6 : Nat → FieldType := fun k => match k with
  | 0 => .object "SewnRoads$Plan"
  | 1 => .object "SewnRoads$Net"
  | 2 => .array .int
  | 3 => .array .int
  | 4 => .array .int
  | 5 => .array .int
  | _ => .int
theorem nmX6 : ∀ a, a < 7 → ∀ b, b < 7 → a ≠ b → (TX6 a).2.1 ≠ (TX6 b).2.1 := by decide +kernel
theorem tyX6_ok : ∀ k, k < 7 → parseFieldDescriptor (TX6 k).2.2.1 = some (tyX6 k) := by decide +kernel
def RX7 : String := "SewnRoads$Season"
def TX7 : u_T := fun k => match k with
  | 0 => ("SewnRoads$Season", "plan", "LSewnRoads$Plan;", true)
  | 1 => ("SewnRoads$Season", "rules", "LSewnRoads$Rules;", true)
  | 2 => ("SewnRoads$Season", "net", "LSewnRoads$Net;", true)
  | 3 => ("SewnRoads$Season", "carted", "[I", true)
  | 4 => ("SewnRoads$Season", "way", "[I", true)
  | _ => ("SewnRoads$Season", "life", "[I", true)
def tyX7 : Nat → FieldType := fun k => match k with
  | 0 => .object "SewnRoads$Plan"
  | 1 => .object "SewnRoads$Rules"
  | 2 => .object "SewnRoads$Net"
  | 3 => .array .int
  | 4 => .array .int
  | _ => .array .int
theorem nmX7 : ∀ a, a < 6 → ∀ b, b < 6 → a ≠ b → (TX7 a).2.1 ≠ (TX7 b).2.1 := by decide +kernel
theorem tyX7_ok : ∀ k, k < 6 → parseFieldDescriptor (TX7 k).2.2.1 = some (tyX7 k) := by decide +kernel
def RX8 : String := "SewnRoads$State"
def TX8 : u_T := fun k => match k with
  | 0 => ("SewnRoads$State", "week", "I", false)
  | 1 => ("SewnRoads$State", "thread", "I", false)
  | 2 => ("SewnRoads$State", "sewn", "[I", true)
  | _ => ("SewnRoads$State", "carts", "[I", true)
def tyX8 : Nat → FieldType := fun k => match k with
  | 0 => .int
  | 1 => .int
  | 2 => .array .int
  | _ => .array .int
theorem nmX8 : ∀ a, a < 4 → ∀ b, b < 4 → a ≠ b → (TX8 a).2.1 ≠ (TX8 b).2.1 := by decide +kernel
theorem tyX8_ok : ∀ k, k < 4 → parseFieldDescriptor (TX8 k).2.2.1 = some (tyX8 k) := by decide +kernel
def RX9 : String := "SewnRoads$Tape"
def TX9 : u_T := fun k => match k with
  | 0 => ("SewnRoads$Tape", "bytes", "[B", true)
  | _ => ("SewnRoads$Tape", "length", "I", false)
def tyX9 : Nat → FieldType := fun k => match k with
  | 0 => .array .byte
  | _ => .int
theorem nmX9 : ∀ a, a < 2 → ∀ b, b < 2 → a ≠ b → (TX9 a).2.1 ≠ (TX9 b).2.1 := by decide +kernel
theorem tyX9_ok : ∀ k, k < 2 → parseFieldDescriptor (TX9 k).2.2.1 = some (tyX9 k) := by decide +kernel
def RX10 : String := "SewnRoads$Tokens"
def TX10 : u_T := fun k => match k with
  | 0 => ("SewnRoads$Tokens", "kind", "[I", true)
  | 1 => ("SewnRoads$Tokens", "start", "[I", true)
  | 2 => ("SewnRoads$Tokens", "value", "[J", true)
  | 3 => ("SewnRoads$Tokens", "words", "[J", true)
  | _ => ("SewnRoads$Tokens", "size", "I", false)
def tyX10 : Nat → FieldType := fun k => match k with
  | 0 => .array .int
  | 1 => .array .int
  | 2 => .array .long
  | 3 => .array .long
  | _ => .int
theorem nmX10 : ∀ a, a < 5 → ∀ b, b < 5 → a ≠ b → (TX10 a).2.1 ≠ (TX10 b).2.1 := by decide +kernel
theorem tyX10_ok : ∀ k, k < 5 → parseFieldDescriptor (TX10 k).2.2.1 = some (tyX10 k) := by decide +kernel
def RX11 : String := "SewnRoads"
def TX11 : u_T := fun k => match k with
  | 0 => ("SewnRoads", "tape", "LSewnRoads$Tape;", true)
  | 1 => ("SewnRoads", "reader", "LSewnRoads$Reader;", true)
  | 2 => ("SewnRoads", "plan", "LSewnRoads$Plan;", true)
  | 3 => ("SewnRoads", "now", "LSewnRoads$State;", true)
  | 4 => ("SewnRoads", "later", "LSewnRoads$State;", true)
  | 5 => ("SewnRoads", "past", "LSewnRoads$Past;", true)
  | 6 => ("SewnRoads", "slots", "[LSewnRoads$State;", true)
  | 7 => ("SewnRoads", "held", "[Z", true)
  | 8 => ("SewnRoads", "rules", "LSewnRoads$Rules;", true)
  | 9 => ("SewnRoads", "net", "LSewnRoads$Net;", true)
  | 10 => ("SewnRoads", "season", "LSewnRoads$Season;", true)
  | 11 => ("SewnRoads", "search", "LSewnRoads$Search;", true)
  | _ => ("SewnRoads", "faultPlace", "I", false)
def tyX11 : Nat → FieldType := fun k => match k with
  | 0 => .object "SewnRoads$Tape"
  | 1 => .object "SewnRoads$Reader"
  | 2 => .object "SewnRoads$Plan"
  | 3 => .object "SewnRoads$State"
  | 4 => .object "SewnRoads$State"
  | 5 => .object "SewnRoads$Past"
  | 6 => .array (.object "SewnRoads$State")
  | 7 => .array .boolean
  | 8 => .object "SewnRoads$Rules"
  | 9 => .object "SewnRoads$Net"
  | 10 => .object "SewnRoads$Season"
  | 11 => .object "SewnRoads$Search"
  | _ => .int
theorem nmX11 : ∀ a, a < 13 → ∀ b, b < 13 → a ≠ b → (TX11 a).2.1 ≠ (TX11 b).2.1 := by decide +kernel
theorem tyX11_ok : ∀ k, k < 13 → parseFieldDescriptor (TX11 k).2.2.1 = some (tyX11 k) := by decide +kernel
def RX12 : String := "SewnRoadsModel"
def TX12 : u_T := fun k => match k with
  | 0 => ("SewnRoadsModel", "thrown", "I", false)
  | 1 => ("SewnRoadsModel", "tape", "[B", true)
  | 2 => ("SewnRoadsModel", "taped", "I", false)
  | 3 => ("SewnRoadsModel", "text", "[B", true)
  | 4 => ("SewnRoadsModel", "size", "I", false)
  | 5 => ("SewnRoadsModel", "tKind", "[I", true)
  | 6 => ("SewnRoadsModel", "tPlace", "[I", true)
  | 7 => ("SewnRoadsModel", "tValue", "[I", true)
  | 8 => ("SewnRoadsModel", "tName", "[J", true)
  | 9 => ("SewnRoadsModel", "keys", "[J", true)
  | 10 => ("SewnRoadsModel", "tokens", "I", false)
  | 11 => ("SewnRoadsModel", "t", "I", false)
  | 12 => ("SewnRoadsModel", "open", "I", false)
  | 13 => ("SewnRoadsModel", "fault", "I", false)
  | 14 => ("SewnRoadsModel", "faultPlace", "I", false)
  | 15 => ("SewnRoadsModel", "worst", "I", false)
  | 16 => ("SewnRoadsModel", "worstPlace", "I", false)
  | 17 => ("SewnRoadsModel", "place", "I", false)
  | 18 => ("SewnRoadsModel", "live", "I", false)
  | 19 => ("SewnRoadsModel", "side", "I", false)
  | 20 => ("SewnRoadsModel", "names", "I", false)
  | 21 => ("SewnRoadsModel", "nameOf", "[J", true)
  | 22 => ("SewnRoadsModel", "nameAt", "[I", true)
  | 23 => ("SewnRoadsModel", "towns", "[I", true)
  | 24 => ("SewnRoadsModel", "seams", "[I", true)
  | 25 => ("SewnRoadsModel", "fromOf", "[I", true)
  | 26 => ("SewnRoadsModel", "toOf", "[I", true)
  | 27 => ("SewnRoadsModel", "lengthOf", "[I", true)
  | 28 => ("SewnRoadsModel", "sewnTold", "[I", true)
  | 29 => ("SewnRoadsModel", "women", "[I", true)
  | 30 => ("SewnRoadsModel", "stitches", "[I", true)
  | 31 => ("SewnRoadsModel", "carts", "[I", true)
  | 32 => ("SewnRoadsModel", "startOf", "[I", true)
  | 33 => ("SewnRoadsModel", "endOf", "[I", true)
  | 34 => ("SewnRoadsModel", "loadOf", "[I", true)
  | 35 => ("SewnRoadsModel", "threadTold", "[I", true)
  | 36 => ("SewnRoadsModel", "frost", "[I", true)
  | 37 => ("SewnRoadsModel", "seed", "[I", true)
  | 38 => ("SewnRoadsModel", "lawFirst", "[I", true)
  | 39 => ("SewnRoadsModel", "lawLast", "[I", true)
  | 40 => ("SewnRoadsModel", "branches", "I", false)
  | 41 => ("SewnRoadsModel", "hasTest", "[Z", true)
  | 42 => ("SewnRoadsModel", "testFrom", "[I", true)
  | 43 => ("SewnRoadsModel", "testMid", "[I", true)
  | 44 => ("SewnRoadsModel", "testTo", "[I", true)
  | 45 => ("SewnRoadsModel", "termTo", "[I", true)
  | 46 => ("SewnRoadsModel", "codes", "I", false)
  | 47 => ("SewnRoadsModel", "code", "[I", true)
  | 48 => ("SewnRoadsModel", "codeInt", "[I", true)
  | 49 => ("SewnRoadsModel", "waits", "[I", true)
  | 50 => ("SewnRoadsModel", "waiting", "I", false)
  | 51 => ("SewnRoadsModel", "variables", "[I", true)
  | 52 => ("SewnRoadsModel", "pile", "[I", true)
  | 53 => ("SewnRoadsModel", "isBroken", "Z", false)
  | 54 => ("SewnRoadsModel", "now", "[I", true)
  | 55 => ("SewnRoadsModel", "row", "[I", true)
  | 56 => ("SewnRoadsModel", "lots", "I", false)
  | 57 => ("SewnRoadsModel", "isStill", "Z", false)
  | 58 => ("SewnRoadsModel", "farOf", "[I", true)
  | 59 => ("SewnRoadsModel", "waysNow", "[I", true)
  | 60 => ("SewnRoadsModel", "cartedOn", "[I", true)
  | 61 => ("SewnRoadsModel", "sewnThen", "[I", true)
  | 62 => ("SewnRoadsModel", "undos", "I", false)
  | 63 => ("SewnRoadsModel", "history", "[I", true)
  | 64 => ("SewnRoadsModel", "takesBy", "[I", true)
  | 65 => ("SewnRoadsModel", "tolds", "I", false)
  | 66 => ("SewnRoadsModel", "toldFrom", "[I", true)
  | 67 => ("SewnRoadsModel", "toldTo", "[I", true)
  | 68 => ("SewnRoadsModel", "toldWay", "[I", true)
  | 69 => ("SewnRoadsModel", "wayBy", "[I", true)
  | 70 => ("SewnRoadsModel", "isHeld", "[Z", true)
  | _ => ("SewnRoadsModel", "heldRows", "[I", true)
def tyX12 : Nat → FieldType := fun k => match k with
  | 0 => .int
  | 1 => .array .byte
  | 2 => .int
  | 3 => .array .byte
  | 4 => .int
  | 5 => .array .int
  | 6 => .array .int
  | 7 => .array .int
  | 8 => .array .long
  | 9 => .array .long
  | 10 => .int
  | 11 => .int
  | 12 => .int
  | 13 => .int
  | 14 => .int
  | 15 => .int
  | 16 => .int
  | 17 => .int
  | 18 => .int
  | 19 => .int
  | 20 => .int
  | 21 => .array .long
  | 22 => .array .int
  | 23 => .array .int
  | 24 => .array .int
  | 25 => .array .int
  | 26 => .array .int
  | 27 => .array .int
  | 28 => .array .int
  | 29 => .array .int
  | 30 => .array .int
  | 31 => .array .int
  | 32 => .array .int
  | 33 => .array .int
  | 34 => .array .int
  | 35 => .array .int
  | 36 => .array .int
  | 37 => .array .int
  | 38 => .array .int
  | 39 => .array .int
  | 40 => .int
  | 41 => .array .boolean
  | 42 => .array .int
  | 43 => .array .int
  | 44 => .array .int
  | 45 => .array .int
  | 46 => .int
  | 47 => .array .int
  | 48 => .array .int
  | 49 => .array .int
  | 50 => .int
  | 51 => .array .int
  | 52 => .array .int
  | 53 => .boolean
  | 54 => .array .int
  | 55 => .array .int
  | 56 => .int
  | 57 => .boolean
  | 58 => .array .int
  | 59 => .array .int
  | 60 => .array .int
  | 61 => .array .int
  | 62 => .int
  | 63 => .array .int
  | 64 => .array .int
  | 65 => .int
  | 66 => .array .int
  | 67 => .array .int
  | 68 => .array .int
  | 69 => .array .int
  | 70 => .array .boolean
  | _ => .array .int
theorem nmX12 : ∀ a, a < 72 → ∀ b, b < 72 → a ≠ b → (TX12 a).2.1 ≠ (TX12 b).2.1 := by decide +kernel
theorem tyX12_ok : ∀ k, k < 72 → parseFieldDescriptor (TX12 k).2.2.1 = some (tyX12 k) := by decide +kernel
abbrev vwCl : List vw_C := [(RX0, TX0, 4), (RX1, TX1, 2), (RX2, TX2, 3), (RX3, TX3, 18), (RX4, TX4, 11), (RX5, TX5, 3), (RX6, TX6, 7), (RX7, TX7, 6), (RX8, TX8, 4), (RX9, TX9, 2), (RX10, TX10, 5), (RX11, TX11, 13), (RX12, TX12, 72)]
/-- the words that a callee may take along -/
def gtb : List Cond := lw_tbl.filter goodWord
/-- of each class's fields: 0 an int, 1 a boolean, 2 a reference -/
def fkt : List (List Nat) := [[2, 2, 2, 0], [2, 2], [2, 0, 0], [0, 0, 0, 0, 0, 0, 0, 0, 2, 2, 2, 2, 2, 2, 2, 2, 2, 2], [2, 0, 2, 2, 2, 0, 0, 0, 0, 0, 0], [2, 2, 2], [2, 2, 2, 2, 2, 2, 0], [2, 2, 2, 2, 2, 2], [0, 0, 2, 2], [2, 0], [2, 2, 2, 2, 0], [2, 2, 2, 2, 2, 2, 2, 2, 2, 2, 2, 2, 0], [0, 2, 0, 2, 0, 2, 2, 2, 2, 2, 0, 0, 0, 0, 0, 0, 0, 0, 0, 0, 0, 2, 2, 2, 2, 2, 2, 2, 2, 2, 2, 2, 2, 2, 2, 2, 2, 2, 2, 2, 0, 2, 2, 2, 2, 2, 0, 2, 2, 2, 0, 2, 2, 1, 2, 2, 0, 1, 2, 2, 2, 2, 0, 2, 2, 0, 2, 2, 2, 2, 2, 2]]
def p_fk (ci j : Nat) : Nat := (fkt.getD ci []).getD j 9
