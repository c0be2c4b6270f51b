def RX0 : String := "BoulderDowry$CrewSearch"
def TX0 : u_T := fun k => match k with
  | 0 => ("BoulderDowry$CrewSearch", "mover", "LBoulderDowry$Mover;", true)
  | 1 => ("BoulderDowry$CrewSearch", "after", "[LBoulderDowry$State;", true)
  | 2 => ("BoulderDowry$CrewSearch", "stones", "[I", true)
  | 3 => ("BoulderDowry$CrewSearch", "men", "[I", true)
  | 4 => ("BoulderDowry$CrewSearch", "order", "[I", true)
  | 5 => ("BoulderDowry$CrewSearch", "bestMen", "[I", true)
  | 6 => ("BoulderDowry$CrewSearch", "bestOrder", "[I", true)
  | 7 => ("BoulderDowry$CrewSearch", "slope", "LBoulderDowry$Slope;", false)
  | 8 => ("BoulderDowry$CrewSearch", "owner", "I", false)
  | 9 => ("BoulderDowry$CrewSearch", "count", "I", false)
  | _ => ("BoulderDowry$CrewSearch", "menTogether", "I", false)
def tyX0 : Nat → FieldType := fun k => match k with
  | 0 => .object "BoulderDowry$Mover"
  | 1 => .array (.object "BoulderDowry$State")
  | 2 => .array .int
  | 3 => .array .int
  | 4 => .array .int
  | 5 => .array .int
  | 6 => .array .int
  | 7 => .object "BoulderDowry$Slope"
  | 8 => .int
  | 9 => .int
  | _ => .int
theorem nmX0 : ∀ a, a < 11 → ∀ b, b < 11 → a ≠ b → (TX0 a).2.1 ≠ (TX0 b).2.1 := by decide +kernel
theorem tyX0_ok : ∀ k, k < 11 → parseFieldDescriptor (TX0 k).2.2.1 = some (tyX0 k) := by decide +kernel
def RX1 : String := "BoulderDowry$History"
def TX1 : u_T := fun k => match k with
  | 0 => ("BoulderDowry$History", "ring", "[LBoulderDowry$State;", true)
  | 1 => ("BoulderDowry$History", "newest", "I", false)
  | _ => ("BoulderDowry$History", "count", "I", false)
def tyX1 : Nat → FieldType := fun k => match k with
  | 0 => .array (.object "BoulderDowry$State")
  | 1 => .int
  | _ => .int
theorem nmX1 : ∀ a, a < 3 → ∀ b, b < 3 → a ≠ b → (TX1 a).2.1 ≠ (TX1 b).2.1 := by decide +kernel
theorem tyX1_ok : ∀ k, k < 3 → parseFieldDescriptor (TX1 k).2.2.1 = some (tyX1 k) := by decide +kernel
def RX2 : String := "BoulderDowry$LawBook"
def TX2 : u_T := fun k => match k with
  | 0 => ("BoulderDowry$LawBook", "code", "[I", true)
  | 1 => ("BoulderDowry$LawBook", "length", "I", false)
  | 2 => ("BoulderDowry$LawBook", "sumAt", "[I", true)
  | 3 => ("BoulderDowry$LawBook", "testAt", "[I", true)
  | 4 => ("BoulderDowry$LawBook", "endAt", "[I", true)
  | 5 => ("BoulderDowry$LawBook", "laws", "I", false)
  | 6 => ("BoulderDowry$LawBook", "facts", "[I", true)
  | 7 => ("BoulderDowry$LawBook", "stack", "[I", true)
  | _ => ("BoulderDowry$LawBook", "depth", "I", false)
def tyX2 : Nat → FieldType := fun k => match k with
  | 0 => .array .int
  | 1 => .int
  | 2 => .array .int
  | 3 => .array .int
  | 4 => .array .int
  | 5 => .int
  | 6 => .array .int
  | 7 => .array .int
  | _ => .int
theorem nmX2 : ∀ a, a < 9 → ∀ b, b < 9 → a ≠ b → (TX2 a).2.1 ≠ (TX2 b).2.1 := by decide +kernel
theorem tyX2_ok : ∀ k, k < 9 → parseFieldDescriptor (TX2 k).2.2.1 = some (tyX2 k) := by decide +kernel
def RX3 : String := "BoulderDowry$LawReader"
def TX3 : u_T := fun k => match k with
  | 0 => ("BoulderDowry$LawReader", "tokens", "LBoulderDowry$Tokens;", false)
  | _ => ("BoulderDowry$LawReader", "book", "LBoulderDowry$LawBook;", false)
def tyX3 : Nat → FieldType := fun k => match k with
  | 0 => .object "BoulderDowry$Tokens"
  | _ => .object "BoulderDowry$LawBook"
theorem nmX3 : ∀ a, a < 2 → ∀ b, b < 2 → a ≠ b → (TX3 a).2.1 ≠ (TX3 b).2.1 := by decide +kernel
theorem tyX3_ok : ∀ k, k < 2 → parseFieldDescriptor (TX3 k).2.2.1 = some (tyX3 k) := by decide +kernel
def RX4 : String := "BoulderDowry$Ledger"
def TX4 : u_T := fun k => match k with
  | _ => ("BoulderDowry$Ledger", "rows", "[I", true)
def tyX4 : Nat → FieldType := fun k => match k with
  | _ => .array .int
theorem nmX4 : ∀ a, a < 1 → ∀ b, b < 1 → a ≠ b → (TX4 a).2.1 ≠ (TX4 b).2.1 := by decide +kernel
theorem tyX4_ok : ∀ k, k < 1 → parseFieldDescriptor (TX4 k).2.2.1 = some (tyX4 k) := by decide +kernel
def RX5 : String := "BoulderDowry$Mover"
def TX5 : u_T := fun k => match k with
  | 0 => ("BoulderDowry$Mover", "path", "[I", true)
  | 1 => ("BoulderDowry$Mover", "pathLength", "I", false)
  | 2 => ("BoulderDowry$Mover", "rolls", "I", false)
  | 3 => ("BoulderDowry$Mover", "ruined", "I", false)
  | 4 => ("BoulderDowry$Mover", "ruinedWorth", "I", false)
  | 5 => ("BoulderDowry$Mover", "wallsMet", "I", false)
  | 6 => ("BoulderDowry$Mover", "wallsGone", "I", false)
  | 7 => ("BoulderDowry$Mover", "topSpeed", "I", false)
  | 8 => ("BoulderDowry$Mover", "entered", "J", false)
  | 9 => ("BoulderDowry$Mover", "claims", "[I", true)
  | 10 => ("BoulderDowry$Mover", "claimCount", "I", false)
  | 11 => ("BoulderDowry$Mover", "slope", "LBoulderDowry$Slope;", false)
  | 12 => ("BoulderDowry$Mover", "state", "LBoulderDowry$State;", false)
  | 13 => ("BoulderDowry$Mover", "firstRoll", "Z", false)
  | 14 => ("BoulderDowry$Mover", "stone", "I", false)
  | 15 => ("BoulderDowry$Mover", "speed", "I", false)
  | 16 => ("BoulderDowry$Mover", "steps", "I", false)
  | _ => ("BoulderDowry$Mover", "payer", "I", false)
def tyX5 : Nat → FieldType := fun k => match k with
  | 0 => .array .int
  | 1 => .int
  | 2 => .int
  | 3 => .int
  | 4 => .int
  | 5 => .int
  | 6 => .int
  | 7 => .int
  | 8 => .long
  | 9 => .array .int
  | 10 => .int
  | 11 => .object "BoulderDowry$Slope"
  | 12 => .object "BoulderDowry$State"
  | 13 => .boolean
  | 14 => .int
  | 15 => .int
  | 16 => .int
  | _ => .int
theorem nmX5 : ∀ a, a < 18 → ∀ b, b < 18 → a ≠ b → (TX5 a).2.1 ≠ (TX5 b).2.1 := by decide +kernel
theorem tyX5_ok : ∀ k, k < 18 → parseFieldDescriptor (TX5 k).2.2.1 = some (tyX5 k) := by decide +kernel
def RX6 : String := "BoulderDowry$NetSearch"
def TX6 : u_T := fun k => match k with
  | 0 => ("BoulderDowry$NetSearch", "mover", "LBoulderDowry$Mover;", true)
  | 1 => ("BoulderDowry$NetSearch", "trial", "LBoulderDowry$State;", true)
  | 2 => ("BoulderDowry$NetSearch", "slope", "LBoulderDowry$Slope;", false)
  | 3 => ("BoulderDowry$NetSearch", "now", "LBoulderDowry$State;", false)
  | 4 => ("BoulderDowry$NetSearch", "known", "Z", false)
  | 5 => ("BoulderDowry$NetSearch", "found", "Z", false)
  | 6 => ("BoulderDowry$NetSearch", "best", "J", false)
  | _ => ("BoulderDowry$NetSearch", "size", "I", false)
def tyX6 : Nat → FieldType := fun k => match k with
  | 0 => .object "BoulderDowry$Mover"
  | 1 => .object "BoulderDowry$State"
  | 2 => .object "BoulderDowry$Slope"
  | 3 => .object "BoulderDowry$State"
  | 4 => .boolean
  | 5 => .boolean
  | 6 => .long
  | _ => .int
theorem nmX6 : ∀ a, a < 8 → ∀ b, b < 8 → a ≠ b → (TX6 a).2.1 ≠ (TX6 b).2.1 := by decide +kernel
theorem tyX6_ok : ∀ k, k < 8 → parseFieldDescriptor (TX6 k).2.2.1 = some (tyX6 k) := by decide +kernel
def RX7 : String := "BoulderDowry$Slope"
def TX7 : u_T := fun k => match k with
  | 0 => ("BoulderDowry$Slope", "wide", "I", false)
  | 1 => ("BoulderDowry$Slope", "high", "I", false)
  | 2 => ("BoulderDowry$Slope", "height", "[I", true)
  | 3 => ("BoulderDowry$Slope", "next", "[I", true)
  | 4 => ("BoulderDowry$Slope", "drop", "[I", true)
  | 5 => ("BoulderDowry$Slope", "rough", "[I", true)
  | 6 => ("BoulderDowry$Slope", "holds", "[I", true)
  | 7 => ("BoulderDowry$Slope", "land", "[I", true)
  | 8 => ("BoulderDowry$Slope", "houseAt", "[I", true)
  | 9 => ("BoulderDowry$Slope", "count", "[I", true)
  | 10 => ("BoulderDowry$Slope", "name", "[[I", true)
  | 11 => ("BoulderDowry$Slope", "weight", "[I", true)
  | 12 => ("BoulderDowry$Slope", "rest", "[I", true)
  | 13 => ("BoulderDowry$Slope", "stonePlace", "[I", true)
  | 14 => ("BoulderDowry$Slope", "worth", "[I", true)
  | 15 => ("BoulderDowry$Slope", "housePlace", "[I", true)
  | 16 => ("BoulderDowry$Slope", "strength", "[I", true)
  | 17 => ("BoulderDowry$Slope", "odds", "[I", true)
  | 18 => ("BoulderDowry$Slope", "rope", "[I", true)
  | _ => ("BoulderDowry$Slope", "laws", "LBoulderDowry$LawBook;", true)
def tyX7 : Nat → FieldType := fun k => match k with
  | 0 => .int
  | 1 => .int
  | 2 => .array .int
  | 3 => .array .int
  | 4 => .array .int
  | 5 => .array .int
  | 6 => .array .int
  | 7 => .array .int
  | 8 => .array .int
  | 9 => .array .int
  | 10 => .array (.array .int)
  | 11 => .array .int
  | 12 => .array .int
  | 13 => .array .int
  | 14 => .array .int
  | 15 => .array .int
  | 16 => .array .int
  | 17 => .array .int
  | 18 => .array .int
  | _ => .object "BoulderDowry$LawBook"
theorem nmX7 : ∀ a, a < 20 → ∀ b, b < 20 → a ≠ b → (TX7 a).2.1 ≠ (TX7 b).2.1 := by decide +kernel
theorem tyX7_ok : ∀ k, k < 20 → parseFieldDescriptor (TX7 k).2.2.1 = some (tyX7 k) := by decide +kernel
def RX8 : String := "BoulderDowry$SlopeReader"
def TX8 : u_T := fun k => match k with
  | 0 => ("BoulderDowry$SlopeReader", "tokens", "LBoulderDowry$Tokens;", true)
  | 1 => ("BoulderDowry$SlopeReader", "lawReader", "LBoulderDowry$LawReader;", true)
  | _ => ("BoulderDowry$SlopeReader", "slope", "LBoulderDowry$Slope;", false)
def tyX8 : Nat → FieldType := fun k => match k with
  | 0 => .object "BoulderDowry$Tokens"
  | 1 => .object "BoulderDowry$LawReader"
  | _ => .object "BoulderDowry$Slope"
theorem nmX8 : ∀ a, a < 3 → ∀ b, b < 3 → a ≠ b → (TX8 a).2.1 ≠ (TX8 b).2.1 := by decide +kernel
theorem tyX8_ok : ∀ k, k < 3 → parseFieldDescriptor (TX8 k).2.2.1 = some (tyX8 k) := by decide +kernel
def RX9 : String := "BoulderDowry$State"
def TX9 : u_T := fun k => match k with
  | 0 => ("BoulderDowry$State", "place", "[I", true)
  | 1 => ("BoulderDowry$State", "rolls", "[I", true)
  | 2 => ("BoulderDowry$State", "comes", "[I", true)
  | 3 => ("BoulderDowry$State", "stoneAt", "[I", true)
  | 4 => ("BoulderDowry$State", "holds", "[I", true)
  | 5 => ("BoulderDowry$State", "rough", "[I", true)
  | 6 => ("BoulderDowry$State", "balance", "[I", true)
  | 7 => ("BoulderDowry$State", "nets", "J", false)
  | 8 => ("BoulderDowry$State", "ruins", "I", false)
  | _ => ("BoulderDowry$State", "told", "I", false)
def tyX9 : Nat → FieldType := fun k => match k with
  | 0 => .array .int
  | 1 => .array .int
  | 2 => .array .int
  | 3 => .array .int
  | 4 => .array .int
  | 5 => .array .int
  | 6 => .array .int
  | 7 => .long
  | 8 => .int
  | _ => .int
theorem nmX9 : ∀ a, a < 10 → ∀ b, b < 10 → a ≠ b → (TX9 a).2.1 ≠ (TX9 b).2.1 := by decide +kernel
theorem tyX9_ok : ∀ k, k < 10 → parseFieldDescriptor (TX9 k).2.2.1 = some (tyX9 k) := by decide +kernel
def RX10 : String := "BoulderDowry$Tokens"
def TX10 : u_T := fun k => match k with
  | 0 => ("BoulderDowry$Tokens", "own", "[I", true)
  | 1 => ("BoulderDowry$Tokens", "kinds", "[I", true)
  | 2 => ("BoulderDowry$Tokens", "firsts", "[I", true)
  | 3 => ("BoulderDowry$Tokens", "values", "[I", true)
  | 4 => ("BoulderDowry$Tokens", "count", "I", false)
  | 5 => ("BoulderDowry$Tokens", "index", "I", false)
  | 6 => ("BoulderDowry$Tokens", "kind", "I", false)
  | 7 => ("BoulderDowry$Tokens", "first", "I", false)
  | 8 => ("BoulderDowry$Tokens", "value", "I", false)
  | 9 => ("BoulderDowry$Tokens", "unfitAt", "I", false)
  | 10 => ("BoulderDowry$Tokens", "takenFirst", "I", false)
  | 11 => ("BoulderDowry$Tokens", "fault", "I", false)
  | _ => ("BoulderDowry$Tokens", "faultAt", "I", false)
def tyX10 : Nat → FieldType := fun k => match k with
  | 0 => .array .int
  | 1 => .array .int
  | 2 => .array .int
  | 3 => .array .int
  | 4 => .int
  | 5 => .int
  | 6 => .int
  | 7 => .int
  | 8 => .int
  | 9 => .int
  | 10 => .int
  | 11 => .int
  | _ => .int
theorem nmX10 : ∀ a, a < 13 → ∀ b, b < 13 → a ≠ b → (TX10 a).2.1 ≠ (TX10 b).2.1 := by decide +kernel
theorem tyX10_ok : ∀ k, k < 13 → parseFieldDescriptor (TX10 k).2.2.1 = some (tyX10 k) := by decide +kernel
def RX11 : String := "BoulderDowry"
def TX11 : u_T := fun k => match k with
  | 0 => ("BoulderDowry", "tape", "[I", true)
  | 1 => ("BoulderDowry", "tapeLength", "I", false)
  | 2 => ("BoulderDowry", "picture", "[I", true)
  | 3 => ("BoulderDowry", "pictureLength", "I", false)
  | 4 => ("BoulderDowry", "refused", "[I", true)
  | 5 => ("BoulderDowry", "draws", "I", false)
  | 6 => ("BoulderDowry", "reader", "LBoulderDowry$SlopeReader;", true)
  | 7 => ("BoulderDowry", "hill", "LBoulderDowry$Slope;", false)
  | 8 => ("BoulderDowry", "spare", "LBoulderDowry$Slope;", false)
  | 9 => ("BoulderDowry", "now", "LBoulderDowry$State;", true)
  | 10 => ("BoulderDowry", "trial", "LBoulderDowry$State;", true)
  | 11 => ("BoulderDowry", "later", "[LBoulderDowry$State;", true)
  | 12 => ("BoulderDowry", "past", "LBoulderDowry$History;", true)
  | 13 => ("BoulderDowry", "ledger", "LBoulderDowry$Ledger;", true)
  | 14 => ("BoulderDowry", "mover", "LBoulderDowry$Mover;", true)
  | 15 => ("BoulderDowry", "netSearch", "LBoulderDowry$NetSearch;", true)
  | 16 => ("BoulderDowry", "crewSearch", "LBoulderDowry$CrewSearch;", true)
  | 17 => ("BoulderDowry", "ways", "[I", true)
  | _ => ("BoulderDowry", "quarried", "[I", true)
def tyX11 : Nat → FieldType := fun k => match k with
  | 0 => .array .int
  | 1 => .int
  | 2 => .array .int
  | 3 => .int
  | 4 => .array .int
  | 5 => .int
  | 6 => .object "BoulderDowry$SlopeReader"
  | 7 => .object "BoulderDowry$Slope"
  | 8 => .object "BoulderDowry$Slope"
  | 9 => .object "BoulderDowry$State"
  | 10 => .object "BoulderDowry$State"
  | 11 => .array (.object "BoulderDowry$State")
  | 12 => .object "BoulderDowry$History"
  | 13 => .object "BoulderDowry$Ledger"
  | 14 => .object "BoulderDowry$Mover"
  | 15 => .object "BoulderDowry$NetSearch"
  | 16 => .object "BoulderDowry$CrewSearch"
  | 17 => .array .int
  | _ => .array .int
theorem nmX11 : ∀ a, a < 19 → ∀ b, b < 19 → a ≠ b → (TX11 a).2.1 ≠ (TX11 b).2.1 := by decide +kernel
theorem tyX11_ok : ∀ k, k < 19 → parseFieldDescriptor (TX11 k).2.2.1 = some (tyX11 k) := by decide +kernel
def RX12 : String := "BoulderDowryModel"
def TX12 : u_T := fun k => match k with
  | 0 => ("BoulderDowryModel", "tape", "[I", true)
  | 1 => ("BoulderDowryModel", "taped", "I", false)
  | 2 => ("BoulderDowryModel", "size", "I", false)
  | 3 => ("BoulderDowryModel", "sign", "I", false)
  | 4 => ("BoulderDowryModel", "signAt", "I", false)
  | 5 => ("BoulderDowryModel", "signEnd", "I", false)
  | 6 => ("BoulderDowryModel", "value", "I", false)
  | 7 => ("BoulderDowryModel", "word", "J", false)
  | 8 => ("BoulderDowryModel", "faultKind", "I", false)
  | 9 => ("BoulderDowryModel", "faultPlace", "I", false)
  | 10 => ("BoulderDowryModel", "toldKind", "I", false)
  | 11 => ("BoulderDowryModel", "toldPlace", "I", false)
  | 12 => ("BoulderDowryModel", "bank", "I", false)
  | 13 => ("BoulderDowryModel", "wide", "[I", true)
  | 14 => ("BoulderDowryModel", "high", "[I", true)
  | 15 => ("BoulderDowryModel", "rows", "[I", true)
  | 16 => ("BoulderDowryModel", "height", "[I", true)
  | 17 => ("BoulderDowryModel", "roughTold", "[I", true)
  | 18 => ("BoulderDowryModel", "landOf", "[I", true)
  | 19 => ("BoulderDowryModel", "wallTold", "[I", true)
  | 20 => ("BoulderDowryModel", "walls", "[I", true)
  | 21 => ("BoulderDowryModel", "owners", "[I", true)
  | 22 => ("BoulderDowryModel", "ownerName", "[J", true)
  | 23 => ("BoulderDowryModel", "stones", "[I", true)
  | 24 => ("BoulderDowryModel", "stoneName", "[J", true)
  | 25 => ("BoulderDowryModel", "weight", "[I", true)
  | 26 => ("BoulderDowryModel", "restOf", "[I", true)
  | 27 => ("BoulderDowryModel", "stoneAt", "[I", true)
  | 28 => ("BoulderDowryModel", "houses", "[I", true)
  | 29 => ("BoulderDowryModel", "houseName", "[J", true)
  | 30 => ("BoulderDowryModel", "worth", "[I", true)
  | 31 => ("BoulderDowryModel", "houseAt", "[I", true)
  | 32 => ("BoulderDowryModel", "thaws", "[I", true)
  | 33 => ("BoulderDowryModel", "strength", "[I", true)
  | 34 => ("BoulderDowryModel", "odds", "[I", true)
  | 35 => ("BoulderDowryModel", "ropeMany", "[I", true)
  | 36 => ("BoulderDowryModel", "rope", "[I", true)
  | 37 => ("BoulderDowryModel", "laws", "[I", true)
  | 38 => ("BoulderDowryModel", "sumFrom", "[I", true)
  | 39 => ("BoulderDowryModel", "sumTo", "[I", true)
  | 40 => ("BoulderDowryModel", "testTo", "[I", true)
  | 41 => ("BoulderDowryModel", "codeSort", "[I", true)
  | 42 => ("BoulderDowryModel", "codeValue", "[I", true)
  | 43 => ("BoulderDowryModel", "codes", "I", false)
  | 44 => ("BoulderDowryModel", "in", "I", false)
  | 45 => ("BoulderDowryModel", "frame", "[I", true)
  | 46 => ("BoulderDowryModel", "phase", "[I", true)
  | 47 => ("BoulderDowryModel", "begins", "[Z", true)
  | 48 => ("BoulderDowryModel", "pair", "[I", true)
  | 49 => ("BoulderDowryModel", "base", "[I", true)
  | 50 => ("BoulderDowryModel", "deep", "I", false)
  | 51 => ("BoulderDowryModel", "open", "I", false)
  | 52 => ("BoulderDowryModel", "ops", "[I", true)
  | 53 => ("BoulderDowryModel", "opMany", "I", false)
  | 54 => ("BoulderDowryModel", "operand", "Z", false)
  | 55 => ("BoulderDowryModel", "refused", "[I", true)
  | 56 => ("BoulderDowryModel", "heap", "[J", true)
  | 57 => ("BoulderDowryModel", "moment", "[I", true)
  | 58 => ("BoulderDowryModel", "stoneIn", "[I", true)
  | 59 => ("BoulderDowryModel", "rollsOf", "[I", true)
  | 60 => ("BoulderDowryModel", "cameOf", "[I", true)
  | 61 => ("BoulderDowryModel", "ruin", "[I", true)
  | 62 => ("BoulderDowryModel", "holds", "[I", true)
  | 63 => ("BoulderDowryModel", "rough", "[I", true)
  | 64 => ("BoulderDowryModel", "net", "[I", true)
  | 65 => ("BoulderDowryModel", "gained", "[J", true)
  | 66 => ("BoulderDowryModel", "told", "[I", true)
  | 67 => ("BoulderDowryModel", "dueRow", "[I", true)
  | 68 => ("BoulderDowryModel", "undoFirst", "I", false)
  | 69 => ("BoulderDowryModel", "undos", "I", false)
  | 70 => ("BoulderDowryModel", "seeds", "J", false)
  | 71 => ("BoulderDowryModel", "nextOf", "[I", true)
  | 72 => ("BoulderDowryModel", "dropOf", "[I", true)
  | 73 => ("BoulderDowryModel", "rolls", "I", false)
  | 74 => ("BoulderDowryModel", "ruins", "I", false)
  | 75 => ("BoulderDowryModel", "gone", "I", false)
  | 76 => ("BoulderDowryModel", "ruined", "I", false)
  | 77 => ("BoulderDowryModel", "fastest", "I", false)
  | 78 => ("BoulderDowryModel", "way", "[I", true)
  | 79 => ("BoulderDowryModel", "wayLong", "I", false)
  | 80 => ("BoulderDowryModel", "push", "I", false)
  | 81 => ("BoulderDowryModel", "crewOf", "[I", true)
  | 82 => ("BoulderDowryModel", "menOf", "[I", true)
  | 83 => ("BoulderDowryModel", "orderOf", "[I", true)
  | 84 => ("BoulderDowryModel", "bestMen", "[I", true)
  | 85 => ("BoulderDowryModel", "bestOrder", "[I", true)
  | 86 => ("BoulderDowryModel", "crewMany", "I", false)
  | 87 => ("BoulderDowryModel", "bestAll", "I", false)
  | 88 => ("BoulderDowryModel", "places", "[I", true)
  | 89 => ("BoulderDowryModel", "netMany", "I", false)
  | 90 => ("BoulderDowryModel", "promised", "I", false)
  | 91 => ("BoulderDowryModel", "promisedTo", "I", false)
  | 92 => ("BoulderDowryModel", "out", "[I", true)
  | _ => ("BoulderDowryModel", "outs", "I", false)
def tyX12 : Nat → FieldType := fun k => match k with
  | 0 => .array .int
  | 1 => .int
  | 2 => .int
  | 3 => .int
  | 4 => .int
  | 5 => .int
  | 6 => .int
  | 7 => .long
  | 8 => .int
  | 9 => .int
  | 10 => .int
  | 11 => .int
  | 12 => .int
  | 13 => .array .int
  | 14 => .array .int
  | 15 => .array .int
  | 16 => .array .int
  | 17 => .array .int
  | 18 => .array .int
  | 19 => .array .int
  | 20 => .array .int
  | 21 => .array .int
  | 22 => .array .long
  | 23 => .array .int
  | 24 => .array .long
  | 25 => .array .int
  | 26 => .array .int
  | 27 => .array .int
  | 28 => .array .int
  | 29 => .array .long
  | 30 => .array .int
  | 31 => .array .int
  | 32 => .array .int
  | 33 => .array .int
  | 34 => .array .int
  | 35 => .array .int
  | 36 => .array .int
  | 37 => .array .int
  | 38 => .array .int
  | 39 => .array .int
  | 40 => .array .int
  | 41 => .array .int
  | 42 => .array .int
  | 43 => .int
  | 44 => .int
  | 45 => .array .int
  | 46 => .array .int
  | 47 => .array .boolean
  | 48 => .array .int
  | 49 => .array .int
  | 50 => .int
  | 51 => .int
  | 52 => .array .int
  | 53 => .int
  | 54 => .boolean
  | 55 => .array .int
  | 56 => .array .long
  | 57 => .array .int
  | 58 => .array .int
  | 59 => .array .int
  | 60 => .array .int
  | 61 => .array .int
  | 62 => .array .int
  | 63 => .array .int
  | 64 => .array .int
  | 65 => .array .long
  | 66 => .array .int
  | 67 => .array .int
  | 68 => .int
  | 69 => .int
  | 70 => .long
  | 71 => .array .int
  | 72 => .array .int
  | 73 => .int
  | 74 => .int
  | 75 => .int
  | 76 => .int
  | 77 => .int
  | 78 => .array .int
  | 79 => .int
  | 80 => .int
  | 81 => .array .int
  | 82 => .array .int
  | 83 => .array .int
  | 84 => .array .int
  | 85 => .array .int
  | 86 => .int
  | 87 => .int
  | 88 => .array .int
  | 89 => .int
  | 90 => .int
  | 91 => .int
  | 92 => .array .int
  | _ => .int
theorem nmX12 : ∀ a, a < 94 → ∀ b, b < 94 → a ≠ b → (TX12 a).2.1 ≠ (TX12 b).2.1 := by decide +kernel
theorem tyX12_ok : ∀ k, k < 94 → parseFieldDescriptor (TX12 k).2.2.1 = some (tyX12 k) := by decide +kernel
abbrev vwCl : List vw_C := [(RX0, TX0, 11), (RX1, TX1, 3), (RX2, TX2, 9), (RX3, TX3, 2), (RX4, TX4, 1), (RX5, TX5, 18), (RX6, TX6, 8), (RX7, TX7, 20), (RX8, TX8, 3), (RX9, TX9, 10), (RX10, TX10, 13), (RX11, TX11, 19), (RX12, TX12, 94)]
def zRX : Nat → String := fun k => match k with
  | 0 => RX0
  | 1 => RX1
  | 2 => RX2
  | 3 => RX3
  | 4 => RX4
  | 5 => RX5
  | 6 => RX6
  | 7 => RX7
  | 8 => RX8
  | 9 => RX9
  | 10 => RX10
  | 11 => RX11
  | _ => RX12
def zTX : Nat → u_T := fun k => match k with
  | 0 => TX0
  | 1 => TX1
  | 2 => TX2
  | 3 => TX3
  | 4 => TX4
  | 5 => TX5
  | 6 => TX6
  | 7 => TX7
  | 8 => TX8
  | 9 => TX9
  | 10 => TX10
  | 11 => TX11
  | _ => TX12
def zYX : Nat → (Nat → FieldType) := fun k => match k with
  | 0 => tyX0
  | 1 => tyX1
  | 2 => tyX2
  | 3 => tyX3
  | 4 => tyX4
  | 5 => tyX5
  | 6 => tyX6
  | 7 => tyX7
  | 8 => tyX8
  | 9 => tyX9
  | 10 => tyX10
  | 11 => tyX11
  | _ => tyX12
def zNX : Nat → Nat := fun k => match k with
  | 0 => 11
  | 1 => 3
  | 2 => 9
  | 3 => 2
  | 4 => 1
  | 5 => 18
  | 6 => 8
  | 7 => 20
  | 8 => 3
  | 9 => 10
  | 10 => 13
  | 11 => 19
  | _ => 94
def zFKt : Nat → List (Nat × Nat × Int) := fun k => match k with
  | 0 => [(5, 0, 1), (103, 3, 4), (100, 3, 5), (100, 3, 6), (100, 3, 7), (100, 3, 8), (100, 3, 9), (7, 0, 0), (0, 0, 0), (0, 0, 0), (0, 0, 0)]
  | 1 => [(103, 30, 1), (0, 0, 0), (0, 0, 0)]
  | 2 => [(100, 1600, 1), (0, 0, 0), (100, 8, 2), (100, 8, 3), (100, 8, 4), (0, 0, 0), (100, 5, 5), (100, 64, 6), (0, 0, 0)]
  | 3 => [(10, 0, 0), (2, 0, 0)]
  | 4 => [(100, 396, 1)]
  | 5 => [(100, 60, 1), (0, 0, 0), (0, 0, 0), (0, 0, 0), (0, 0, 0), (0, 0, 0), (0, 0, 0), (0, 0, 0), (0, 0, 0), (100, 476, 2), (0, 0, 0), (7, 0, 0), (9, 0, 0), (0, 0, 0), (0, 0, 0), (0, 0, 0), (0, 0, 0), (0, 0, 0)]
  | 6 => [(5, 0, 1), (9, 0, 4), (7, 0, 0), (9, 0, 0), (0, 0, 0), (0, 0, 0), (0, 0, 0), (0, 0, 0)]
  | 7 => [(0, 0, 0), (0, 0, 0), (100, 60, 1), (100, 60, 2), (100, 60, 3), (100, 60, 4), (100, 60, 5), (100, 60, 6), (100, 60, 7), (100, 26, 8), (104, 3, 12), (100, 10, 13), (100, 10, 14), (100, 10, 15), (100, 8, 16), (100, 8, 17), (100, 6, 18), (100, 6, 19), (100, 9, 20), (2, 0, 21)]
  | 8 => [(10, 0, 1), (3, 0, 6), (7, 0, 0)]
  | 9 => [(100, 10, 1), (100, 10, 2), (100, 10, 3), (100, 60, 4), (100, 60, 5), (100, 60, 6), (100, 6, 7), (0, 0, 0), (0, 0, 0), (0, 0, 0)]
  | 10 => [(100, 26, 1), (100, 1601, 2), (100, 1601, 3), (100, 1601, 4), (0, 0, 0), (0, 0, 0), (0, 0, 0), (0, 0, 0), (0, 0, 0), (0, 0, 0), (0, 0, 0), (0, 0, 0), (0, 0, 0)]
  | 11 => [(100, 1600, 1), (0, 0, 0), (100, 259, 2), (0, 0, 0), (100, 6, 3), (0, 0, 0), (8, 0, 4), (7, 0, 0), (7, 0, 0), (9, 0, 67), (9, 0, 75), (103, 3, 83), (1, 0, 84), (4, 0, 326), (5, 0, 328), (6, 0, 331), (0, 0, 343), (100, 64, 377), (100, 6, 378)]
  | _ => [(100, 1800, 1), (0, 0, 0), (0, 0, 0), (0, 0, 0), (0, 0, 0), (0, 0, 0), (0, 0, 0), (0, 0, 0), (0, 0, 0), (0, 0, 0), (0, 0, 0), (0, 0, 0), (0, 0, 0), (100, 2, 2), (100, 2, 3), (100, 2, 4), (100, 120, 5), (100, 120, 6), (100, 120, 7), (100, 120, 8), (100, 2, 9), (100, 2, 10), (101, 12, 11), (100, 2, 12), (101, 20, 13), (100, 20, 14), (100, 20, 15), (100, 20, 16), (100, 2, 17), (101, 16, 18), (100, 16, 19), (100, 16, 20), (100, 2, 21), (100, 12, 22), (100, 12, 23), (100, 2, 24), (100, 18, 25), (100, 2, 26), (100, 16, 27), (100, 16, 28), (100, 16, 29), (100, 3200, 30), (100, 3200, 31), (0, 0, 0), (0, 0, 0), (100, 20, 32), (100, 20, 33), (102, 20, 34), (100, 20, 35), (100, 20, 36), (0, 0, 0), (0, 0, 0), (100, 500, 37), (0, 0, 0), (0, 0, 0), (100, 6, 38), (101, 1650, 39), (100, 10, 40), (100, 350, 41), (100, 350, 42), (100, 350, 43), (100, 280, 44), (100, 2100, 45), (100, 2100, 46), (100, 2100, 47), (101, 210, 48), (100, 35, 49), (100, 13860, 50), (0, 0, 0), (0, 0, 0), (0, 0, 0), (100, 60, 51), (100, 60, 52), (0, 0, 0), (0, 0, 0), (0, 0, 0), (0, 0, 0), (0, 0, 0), (100, 64, 53), (0, 0, 0), (0, 0, 0), (100, 6, 54), (100, 6, 55), (100, 6, 56), (100, 6, 57), (100, 6, 58), (0, 0, 0), (0, 0, 0), (100, 3, 59), (0, 0, 0), (0, 0, 0), (0, 0, 0), (100, 300, 60), (0, 0, 0)]
def zFK : Nat → Nat → Nat × Nat × Int := fun c j => (zFKt c).getD j (0, 0, 0)
def zrefT (tf : FieldType) : Bool := match tf with
  | .object _ => true
  | .array _ => true
  | _ => false
theorem zrefT_ok {tf : FieldType} (h : zrefT tf = true) : (∃ n, tf = .object n) ∨ ∃ t, tf = .array t := by
  cases tf with
  | object n => exact Or.inl ⟨n, rfl⟩
  | array t => exact Or.inr ⟨t, rfl⟩
  | _ => cases h
theorem zand2 {a b : Bool} (h : (a && b) = true) : a = true ∧ b = true := by
  cases a
  · cases h
  · exact ⟨rfl, h⟩
def zTyb (q : String × String × String × Bool) (ty : Nat) (tf : FieldType) (C : String) : Bool := decide (q.1 = C) && (match ty with
  | 0 => decide (tf = .int) && !q.2.2.2
  | 1 => decide (tf = .long) && !q.2.2.2
  | 2 => decide (tf = .boolean) && !q.2.2.2
  | 3 => zrefT tf && !q.2.2.2
  | 4 => zrefT tf && q.2.2.2
  | _ => false)
theorem zTyb_ok {q : String × String × String × Bool} {ty : Nat} {tf : FieldType} {C : String} (h : zTyb q ty tf C = true) : zTyok q ty tf C := by
  unfold zTyb at h
  rw [Bool.and_eq_true] at h
  obtain ⟨h2, h3⟩ := h
  have h2 := of_decide_eq_true h2
  match ty, h3 with
  | 0, h3 =>
    obtain ⟨ha, hb⟩ := zand2 (a := decide (tf = .int)) (b := !q.2.2.2) h3
    rw [Bool.not_eq_true'] at hb
    have e := of_decide_eq_true ha
    exact ⟨by decide, h2, fun _ => e, fun z => absurd z (by decide), fun z => absurd z (by decide), fun z => absurd z (by decide), fun _ => hb, fun z => absurd z (by decide)⟩
  | 1, h3 =>
    obtain ⟨ha, hb⟩ := zand2 (a := decide (tf = .long)) (b := !q.2.2.2) h3
    rw [Bool.not_eq_true'] at hb
    have e := of_decide_eq_true ha
    exact ⟨by decide, h2, fun z => absurd z (by decide), fun _ => e, fun z => absurd z (by decide), fun z => absurd z (by decide), fun _ => hb, fun z => absurd z (by decide)⟩
  | 2, h3 =>
    obtain ⟨ha, hb⟩ := zand2 (a := decide (tf = .boolean)) (b := !q.2.2.2) h3
    rw [Bool.not_eq_true'] at hb
    have e := of_decide_eq_true ha
    exact ⟨by decide, h2, fun z => absurd z (by decide), fun z => absurd z (by decide), fun _ => e, fun z => absurd z (by decide), fun _ => hb, fun z => absurd z (by decide)⟩
  | 3, h3 =>
    obtain ⟨ha, hb⟩ := zand2 (a := zrefT tf) (b := !q.2.2.2) h3
    rw [Bool.not_eq_true'] at hb
    have e := zrefT_ok ha
    exact ⟨by decide, h2, fun z => absurd z (by decide), fun z => absurd z (by decide), fun z => absurd z (by decide), fun _ => e, fun _ => hb, fun z => absurd z (by decide)⟩
  | 4, h3 =>
    obtain ⟨ha, hb⟩ := zand2 (a := zrefT tf) (b := q.2.2.2) h3
    have e := zrefT_ok ha
    exact ⟨by decide, h2, fun z => absurd z (by decide), fun z => absurd z (by decide), fun z => absurd z (by decide), fun _ => e, fun z => absurd rfl z, fun _ => hb⟩
theorem zTys_ok {T : u_T} {ts : List Nat} {N : Nat} {tf : Nat → FieldType} {C : String} (hN : ts.length = N) (h : (List.range N).all (fun k => zTyb (T k) (ts.getD k 0) (tf k) C) = true) : ∀ k ty, ts[k]? = some ty → zTyok (T k) ty (tf k) C := by
  intro k ty hk
  have hl : k < ts.length := (List.getElem?_eq_some_iff.mp hk).1
  have h1 := List.all_eq_true.mp h k (List.mem_range.mpr (by omega))
  rw [List.getD_eq_getElem?_getD, hk] at h1
  exact zTyb_ok h1
theorem inX0 : ∀ w ∈ u_ws RX0 TX0 11, w ∈ lw_tbl := by decide +kernel
theorem clk_0 : zClok lw_tbl vwCl zFT 0 RX0 TX0 11 tyX0 := ⟨rfl, rfl, inX0, tyX0_ok, nmX0, zTys_ok rfl (by decide +kernel), List.mem_of_getElem? (i := 708) (by decide +kernel), List.mem_of_getElem? (i := 198) (by decide +kernel)⟩
theorem inX1 : ∀ w ∈ u_ws RX1 TX1 3, w ∈ lw_tbl := by decide +kernel
theorem clk_1 : zClok lw_tbl vwCl zFT 1 RX1 TX1 3 tyX1 := ⟨rfl, rfl, inX1, tyX1_ok, nmX1, zTys_ok rfl (by decide +kernel), List.mem_of_getElem? (i := 571) (by decide +kernel), List.mem_of_getElem? (i := 194) (by decide +kernel)⟩
theorem inX2 : ∀ w ∈ u_ws RX2 TX2 9, w ∈ lw_tbl := by decide +kernel
theorem clk_2 : zClok lw_tbl vwCl zFT 2 RX2 TX2 9 tyX2 := ⟨rfl, rfl, inX2, tyX2_ok, nmX2, zTys_ok rfl (by decide +kernel), List.mem_of_getElem? (i := 364) (by decide +kernel), List.mem_of_getElem? (i := 192) (by decide +kernel)⟩
theorem inX3 : ∀ w ∈ u_ws RX3 TX3 2, w ∈ lw_tbl := by decide +kernel
theorem clk_3 : zClok lw_tbl vwCl zFT 3 RX3 TX3 2 tyX3 := ⟨rfl, rfl, inX3, tyX3_ok, nmX3, zTys_ok rfl (by decide +kernel), List.mem_of_getElem? (i := 332) (by decide +kernel), List.mem_of_getElem? (i := 190) (by decide +kernel)⟩
theorem inX4 : ∀ w ∈ u_ws RX4 TX4 1, w ∈ lw_tbl := by decide +kernel
theorem clk_4 : zClok lw_tbl vwCl zFT 4 RX4 TX4 1 tyX4 := ⟨rfl, rfl, inX4, tyX4_ok, nmX4, zTys_ok rfl (by decide +kernel), List.mem_of_getElem? (i := 590) (by decide +kernel), List.mem_of_getElem? (i := 195) (by decide +kernel)⟩
theorem inX5 : ∀ w ∈ u_ws RX5 TX5 18, w ∈ lw_tbl := by decide +kernel
theorem clk_5 : zClok lw_tbl vwCl zFT 5 RX5 TX5 18 tyX5 := ⟨rfl, rfl, inX5, tyX5_ok, nmX5, zTys_ok rfl (by decide +kernel), List.mem_of_getElem? (i := 600) (by decide +kernel), List.mem_of_getElem? (i := 196) (by decide +kernel)⟩
theorem inX6 : ∀ w ∈ u_ws RX6 TX6 8, w ∈ lw_tbl := by decide +kernel
theorem clk_6 : zClok lw_tbl vwCl zFT 6 RX6 TX6 8 tyX6 := ⟨rfl, rfl, inX6, tyX6_ok, nmX6, zTys_ok rfl (by decide +kernel), List.mem_of_getElem? (i := 672) (by decide +kernel), List.mem_of_getElem? (i := 197) (by decide +kernel)⟩
theorem inX7 : ∀ w ∈ u_ws RX7 TX7 20, w ∈ lw_tbl := by decide +kernel
theorem clk_7 : zClok lw_tbl vwCl zFT 7 RX7 TX7 20 tyX7 := ⟨rfl, rfl, inX7, tyX7_ok, nmX7, zTys_ok rfl (by decide +kernel), List.mem_of_getElem? (i := 356) (by decide +kernel), List.mem_of_getElem? (i := 191) (by decide +kernel)⟩
theorem inX8 : ∀ w ∈ u_ws RX8 TX8 3, w ∈ lw_tbl := by decide +kernel
theorem clk_8 : zClok lw_tbl vwCl zFT 8 RX8 TX8 3 tyX8 := ⟨rfl, rfl, inX8, tyX8_ok, nmX8, zTys_ok rfl (by decide +kernel), List.mem_of_getElem? (i := 214) (by decide +kernel), List.mem_of_getElem? (i := 184) (by decide +kernel)⟩
theorem inX9 : ∀ w ∈ u_ws RX9 TX9 10, w ∈ lw_tbl := by decide +kernel
theorem clk_9 : zClok lw_tbl vwCl zFT 9 RX9 TX9 10 tyX9 := ⟨rfl, rfl, inX9, tyX9_ok, nmX9, zTys_ok rfl (by decide +kernel), List.mem_of_getElem? (i := 512) (by decide +kernel), List.mem_of_getElem? (i := 193) (by decide +kernel)⟩
theorem inX10 : ∀ w ∈ u_ws RX10 TX10 13, w ∈ lw_tbl := by decide +kernel
theorem clk_10 : zClok lw_tbl vwCl zFT 10 RX10 TX10 13 tyX10 := ⟨rfl, rfl, inX10, tyX10_ok, nmX10, zTys_ok rfl (by decide +kernel), List.mem_of_getElem? (i := 220) (by decide +kernel), List.mem_of_getElem? (i := 185) (by decide +kernel)⟩
theorem inX11 : ∀ w ∈ u_ws RX11 TX11 19, w ∈ lw_tbl := by decide +kernel
theorem clk_11 : zClok lw_tbl vwCl zFT 11 RX11 TX11 19 tyX11 := ⟨rfl, rfl, inX11, tyX11_ok, nmX11, zTys_ok rfl (by decide +kernel), List.mem_of_getElem? (i := 206) (by decide +kernel), List.mem_of_getElem? (i := 183) (by decide +kernel)⟩
theorem inX12 : ∀ w ∈ u_ws RX12 TX12 94, w ∈ lw_tbl := by decide +kernel
theorem clk_12 : zClok lw_tbl vwCl zFT 12 RX12 TX12 94 tyX12 := ⟨rfl, rfl, inX12, tyX12_ok, nmX12, zTys_ok rfl (by decide +kernel), List.mem_of_getElem? (i := 1639) (by decide +kernel), List.mem_of_getElem? (i := 199) (by decide +kernel)⟩
theorem clk_all : ∀ c : Nat, c < 13 → zClok lw_tbl vwCl zFT c (zRX c) (zTX c) (zNX c) (zYX c)
  | 0, _ => clk_0
  | 1, _ => clk_1
  | 2, _ => clk_2
  | 3, _ => clk_3
  | 4, _ => clk_4
  | 5, _ => clk_5
  | 6, _ => clk_6
  | 7, _ => clk_7
  | 8, _ => clk_8
  | 9, _ => clk_9
  | 10, _ => clk_10
  | 11, _ => clk_11
  | 12, _ => clk_12
  | c + 13, h => by omega
