/-! NAMES: classes and their fields, as printed of the program. -/
def RX0 : String := "SharesComing$Book"
def TX0 : u_T := fun k => match k with
  | 0 => ("SharesComing$Book", "rows", "LSharesComing$Rows;", true)
  | 1 => ("SharesComing$Book", "will", "LSharesComing$Will;", true)
  | 2 => ("SharesComing$Book", "ranks", "LSharesComing$Ranks;", true)
  | 3 => ("SharesComing$Book", "ways", "LSharesComing$Ways;", true)
  | 4 => ("SharesComing$Book", "ends", "[LSharesComing$Ends;", true)
  | _ => ("SharesComing$Book", "sights", "[LSharesComing$Sight;", true)
def tyX0 : Nat → FieldType := fun k => match k with
  | 0 => .object "SharesComing$Rows"
  | 1 => .object "SharesComing$Will"
  | 2 => .object "SharesComing$Ranks"
  | 3 => .object "SharesComing$Ways"
  | 4 => .array (.object "SharesComing$Ends")
  | _ => .array (.object "SharesComing$Sight")
abbrev wsX00 : List Cond := u_ws RX0 TX0 6
theorem nmX0 : ∀ a, a < 6 → ∀ b, b < 6 → a ≠ b → (TX0 a).2.1 ≠ (TX0 b).2.1 := by decide +kernel
theorem tyX0_ok : ∀ k, k < 6 → parseFieldDescriptor (TX0 k).2.2.1 = some (tyX0 k) := by decide +kernel
def RX1 : String := "SharesComing$Ends"
def TX1 : u_T := fun k => match k with
  | 0 => ("SharesComing$Ends", "table", "LSharesComing$Table;", true)
  | 1 => ("SharesComing$Ends", "will", "LSharesComing$Will;", true)
  | 2 => ("SharesComing$Ends", "ranks", "LSharesComing$Ranks;", true)
  | 3 => ("SharesComing$Ends", "goal", "I", true)
  | _ => ("SharesComing$Ends", "oneBackLess", "LSharesComing$Ends;", true)
def tyX1 : Nat → FieldType := fun k => match k with
  | 0 => .object "SharesComing$Table"
  | 1 => .object "SharesComing$Will"
  | 2 => .object "SharesComing$Ranks"
  | 3 => .int
  | _ => .object "SharesComing$Ends"
abbrev wsX10 : List Cond := u_ws RX1 TX1 5
theorem nmX1 : ∀ a, a < 5 → ∀ b, b < 5 → a ≠ b → (TX1 a).2.1 ≠ (TX1 b).2.1 := by decide +kernel
theorem tyX1_ok : ∀ k, k < 5 → parseFieldDescriptor (TX1 k).2.2.1 = some (tyX1 k) := by decide +kernel
def RX2 : String := "SharesComing$Goals"
def TX2 : u_T := fun k => match k with
  | _ => ("", "", "", false)
def tyX2 : Nat → FieldType := fun k => match k with
  | _ => .int
abbrev wsX20 : List Cond := u_ws RX2 TX2 0
theorem nmX2 : ∀ a, a < 0 → ∀ b, b < 0 → a ≠ b → (TX2 a).2.1 ≠ (TX2 b).2.1 := by decide +kernel
theorem tyX2_ok : ∀ k, k < 0 → parseFieldDescriptor (TX2 k).2.2.1 = some (tyX2 k) := by decide +kernel
def RX3 : String := "SharesComing$Ranks"
def TX3 : u_T := fun k => match k with
  | 0 => ("SharesComing$Ranks", "numberOf", "[I", true)
  | 1 => ("SharesComing$Ranks", "sumOf", "[I", true)
  | 2 => ("SharesComing$Ranks", "upTo", "[I", true)
  | 3 => ("SharesComing$Ranks", "middle", "[I", true)
  | 4 => ("SharesComing$Ranks", "first", "[I", true)
  | 5 => ("SharesComing$Ranks", "size", "[I", true)
  | 6 => ("SharesComing$Ranks", "limit", "[I", true)
  | 7 => ("SharesComing$Ranks", "start", "[I", true)
  | 8 => ("SharesComing$Ranks", "lateMask", "[I", true)
  | 9 => ("SharesComing$Ranks", "cameBy", "[I", true)
  | 10 => ("SharesComing$Ranks", "masks", "I", false)
  | _ => ("SharesComing$Ranks", "days", "I", false)
def tyX3 : Nat → FieldType := fun k => match k with
  | 0 => .array .int
  | 1 => .array .int
  | 2 => .array .int
  | 3 => .array .int
  | 4 => .array .int
  | 5 => .array .int
  | 6 => .array .int
  | 7 => .array .int
  | 8 => .array .int
  | 9 => .array .int
  | 10 => .int
  | _ => .int
abbrev wsX30 : List Cond := u_ws RX3 TX3 12
theorem nmX3 : ∀ a, a < 12 → ∀ b, b < 12 → a ≠ b → (TX3 a).2.1 ≠ (TX3 b).2.1 := by decide +kernel
theorem tyX3_ok : ∀ k, k < 12 → parseFieldDescriptor (TX3 k).2.2.1 = some (tyX3 k) := by decide +kernel
def RX4 : String := "SharesComing$Reader"
def TX4 : u_T := fun k => match k with
  | 0 => ("SharesComing$Reader", "text", "[B", true)
  | 1 => ("SharesComing$Reader", "length", "I", false)
  | 2 => ("SharesComing$Reader", "at", "I", false)
  | 3 => ("SharesComing$Reader", "token", "I", false)
  | 4 => ("SharesComing$Reader", "place", "I", false)
  | 5 => ("SharesComing$Reader", "number", "I", false)
  | 6 => ("SharesComing$Reader", "word", "J", false)
  | _ => ("SharesComing$Reader", "parts", "I", false)
def tyX4 : Nat → FieldType := fun k => match k with
  | 0 => .array .byte
  | 1 => .int
  | 2 => .int
  | 3 => .int
  | 4 => .int
  | 5 => .int
  | 6 => .long
  | _ => .int
abbrev wsX40 : List Cond := u_ws RX4 TX4 8
theorem nmX4 : ∀ a, a < 8 → ∀ b, b < 8 → a ≠ b → (TX4 a).2.1 ≠ (TX4 b).2.1 := by decide +kernel
theorem tyX4_ok : ∀ k, k < 8 → parseFieldDescriptor (TX4 k).2.2.1 = some (tyX4 k) := by decide +kernel
def RX5 : String := "SharesComing$Rows"
def TX5 : u_T := fun k => match k with
  | 0 => ("SharesComing$Rows", "will", "LSharesComing$Will;", true)
  | 1 => ("SharesComing$Rows", "ranks", "LSharesComing$Ranks;", true)
  | 2 => ("SharesComing$Rows", "walked", "[I", false)
  | 3 => ("SharesComing$Rows", "walk", "I", false)
  | 4 => ("SharesComing$Rows", "least", "J", false)
  | _ => ("SharesComing$Rows", "floor", "J", false)
def tyX5 : Nat → FieldType := fun k => match k with
  | 0 => .object "SharesComing$Will"
  | 1 => .object "SharesComing$Ranks"
  | 2 => .array .int
  | 3 => .int
  | 4 => .long
  | _ => .long
abbrev wsX50 : List Cond := u_ws RX5 TX5 6
theorem nmX5 : ∀ a, a < 6 → ∀ b, b < 6 → a ≠ b → (TX5 a).2.1 ≠ (TX5 b).2.1 := by decide +kernel
theorem tyX5_ok : ∀ k, k < 6 → parseFieldDescriptor (TX5 k).2.2.1 = some (tyX5 k) := by decide +kernel
def RX6 : String := "SharesComing$Sight"
def TX6 : u_T := fun k => match k with
  | 0 => ("SharesComing$Sight", "table", "LSharesComing$Table;", true)
  | 1 => ("SharesComing$Sight", "will", "LSharesComing$Will;", true)
  | 2 => ("SharesComing$Sight", "ranks", "LSharesComing$Ranks;", true)
  | 3 => ("SharesComing$Sight", "kind", "I", true)
  | _ => ("SharesComing$Sight", "ends", "LSharesComing$Ends;", false)
def tyX6 : Nat → FieldType := fun k => match k with
  | 0 => .object "SharesComing$Table"
  | 1 => .object "SharesComing$Will"
  | 2 => .object "SharesComing$Ranks"
  | 3 => .int
  | _ => .object "SharesComing$Ends"
abbrev wsX60 : List Cond := u_ws RX6 TX6 5
theorem nmX6 : ∀ a, a < 5 → ∀ b, b < 5 → a ≠ b → (TX6 a).2.1 ≠ (TX6 b).2.1 := by decide +kernel
theorem tyX6_ok : ∀ k, k < 5 → parseFieldDescriptor (TX6 k).2.2.1 = some (tyX6 k) := by decide +kernel
def RX7 : String := "SharesComing$State"
def TX7 : u_T := fun k => match k with
  | _ => ("", "", "", false)
def tyX7 : Nat → FieldType := fun k => match k with
  | _ => .int
abbrev wsX70 : List Cond := u_ws RX7 TX7 0
theorem nmX7 : ∀ a, a < 0 → ∀ b, b < 0 → a ≠ b → (TX7 a).2.1 ≠ (TX7 b).2.1 := by decide +kernel
theorem tyX7_ok : ∀ k, k < 0 → parseFieldDescriptor (TX7 k).2.2.1 = some (tyX7 k) := by decide +kernel
def RX8 : String := "SharesComing$Table"
def TX8 : u_T := fun k => match k with
  | 0 => ("SharesComing$Table", "found", "[J", false)
  | _ => ("SharesComing$Table", "ready", "Z", false)
def tyX8 : Nat → FieldType := fun k => match k with
  | 0 => .array .long
  | _ => .boolean
abbrev wsX80 : List Cond := u_ws RX8 TX8 2
theorem nmX8 : ∀ a, a < 2 → ∀ b, b < 2 → a ≠ b → (TX8 a).2.1 ≠ (TX8 b).2.1 := by decide +kernel
theorem tyX8_ok : ∀ k, k < 2 → parseFieldDescriptor (TX8 k).2.2.1 = some (tyX8 k) := by decide +kernel
def RX9 : String := "SharesComing$Ways"
def TX9 : u_T := fun k => match k with
  | 0 => ("SharesComing$Ways", "will", "LSharesComing$Will;", true)
  | 1 => ("SharesComing$Ways", "share", "LSharesComing$Sight;", true)
  | 2 => ("SharesComing$Ways", "way", "I", false)
  | 3 => ("SharesComing$Ways", "mean", "Z", false)
  | _ => ("SharesComing$Ways", "ends", "LSharesComing$Ends;", false)
def tyX9 : Nat → FieldType := fun k => match k with
  | 0 => .object "SharesComing$Will"
  | 1 => .object "SharesComing$Sight"
  | 2 => .int
  | 3 => .boolean
  | _ => .object "SharesComing$Ends"
abbrev wsX90 : List Cond := u_ws RX9 TX9 5
theorem nmX9 : ∀ a, a < 5 → ∀ b, b < 5 → a ≠ b → (TX9 a).2.1 ≠ (TX9 b).2.1 := by decide +kernel
theorem tyX9_ok : ∀ k, k < 5 → parseFieldDescriptor (TX9 k).2.2.1 = some (tyX9 k) := by decide +kernel
def RX10 : String := "SharesComing$Will"
def TX10 : u_T := fun k => match k with
  | 0 => ("SharesComing$Will", "heirs", "I", false)
  | 1 => ("SharesComing$Will", "days", "I", false)
  | 2 => ("SharesComing$Will", "hold", "I", false)
  | 3 => ("SharesComing$Will", "back", "I", false)
  | 4 => ("SharesComing$Will", "holdTold", "Z", false)
  | 5 => ("SharesComing$Will", "backTold", "Z", false)
  | 6 => ("SharesComing$Will", "late", "I", false)
  | 7 => ("SharesComing$Will", "names", "[J", true)
  | 8 => ("SharesComing$Will", "worths", "[I", true)
  | 9 => ("SharesComing$Will", "altCounts", "[I", true)
  | 10 => ("SharesComing$Will", "chances", "[I", true)
  | 11 => ("SharesComing$Will", "kinds", "[I", true)
  | _ => ("SharesComing$Will", "targets", "[I", true)
def tyX10 : Nat → FieldType := fun k => match k with
  | 0 => .int
  | 1 => .int
  | 2 => .int
  | 3 => .int
  | 4 => .boolean
  | 5 => .boolean
  | 6 => .int
  | 7 => .array .long
  | 8 => .array .int
  | 9 => .array .int
  | 10 => .array .int
  | 11 => .array .int
  | _ => .array .int
abbrev wsX100 : List Cond := u_ws RX10 TX10 13
theorem nmX10 : ∀ a, a < 13 → ∀ b, b < 13 → a ≠ b → (TX10 a).2.1 ≠ (TX10 b).2.1 := by decide +kernel
theorem tyX10_ok : ∀ k, k < 13 → parseFieldDescriptor (TX10 k).2.2.1 = some (tyX10 k) := by decide +kernel
def RX11 : String := "SharesComing"
def TX11 : u_T := fun k => match k with
  | 0 => ("SharesComing", "text", "[B", true)
  | 1 => ("SharesComing", "length", "I", false)
  | 2 => ("SharesComing", "reader", "LSharesComing$Reader;", true)
  | 3 => ("SharesComing", "draft", "LSharesComing$Will;", true)
  | 4 => ("SharesComing", "will", "LSharesComing$Will;", true)
  | 5 => ("SharesComing", "book", "LSharesComing$Book;", true)
  | 6 => ("SharesComing", "told", "Z", false)
  | 7 => ("SharesComing", "now", "J", false)
  | 8 => ("SharesComing", "waits", "I", false)
  | 9 => ("SharesComing", "imageKept", "[Z", true)
  | 10 => ("SharesComing", "imageState", "[J", true)
  | _ => ("SharesComing", "imageWaits", "[I", true)
def tyX11 : Nat → FieldType := fun k => match k with
  | 0 => .array .byte
  | 1 => .int
  | 2 => .object "SharesComing$Reader"
  | 3 => .object "SharesComing$Will"
  | 4 => .object "SharesComing$Will"
  | 5 => .object "SharesComing$Book"
  | 6 => .boolean
  | 7 => .long
  | 8 => .int
  | 9 => .array .boolean
  | 10 => .array .long
  | _ => .array .int
abbrev wsX110 : List Cond := u_ws RX11 TX11 12
theorem nmX11 : ∀ a, a < 12 → ∀ b, b < 12 → a ≠ b → (TX11 a).2.1 ≠ (TX11 b).2.1 := by decide +kernel
theorem tyX11_ok : ∀ k, k < 12 → parseFieldDescriptor (TX11 k).2.2.1 = some (tyX11 k) := by decide +kernel
def RX12 : String := "SharesComingModel"
def TX12 : u_T := fun k => match k with
  | 0 => ("SharesComingModel", "text", "[B", true)
  | 1 => ("SharesComingModel", "size", "I", false)
  | 2 => ("SharesComingModel", "at", "I", false)
  | 3 => ("SharesComingModel", "kind", "I", false)
  | 4 => ("SharesComingModel", "tokenAt", "I", false)
  | 5 => ("SharesComingModel", "value", "J", false)
  | 6 => ("SharesComingModel", "readHeirs", "I", false)
  | 7 => ("SharesComingModel", "readName", "[J", true)
  | 8 => ("SharesComingModel", "isLate", "[Z", true)
  | 9 => ("SharesComingModel", "readWorth", "[I", true)
  | 10 => ("SharesComingModel", "readDays", "I", false)
  | 11 => ("SharesComingModel", "readAlts", "[I", true)
  | 12 => ("SharesComingModel", "readAlt", "[I", true)
  | 13 => ("SharesComingModel", "readHold", "I", false)
  | 14 => ("SharesComingModel", "readBack", "I", false)
  | 15 => ("SharesComingModel", "isMatter", "Z", false)
  | 16 => ("SharesComingModel", "heirs", "I", false)
  | 17 => ("SharesComingModel", "worth", "[I", true)
  | 18 => ("SharesComingModel", "days", "I", false)
  | 19 => ("SharesComingModel", "alts", "[I", true)
  | 20 => ("SharesComingModel", "altRow", "[I", true)
  | 21 => ("SharesComingModel", "hold", "I", false)
  | 22 => ("SharesComingModel", "back", "I", false)
  | 23 => ("SharesComingModel", "now", "J", false)
  | 24 => ("SharesComingModel", "over", "I", false)
  | 25 => ("SharesComingModel", "waits", "I", false)
  | 26 => ("SharesComingModel", "imageNow", "[J", true)
  | 27 => ("SharesComingModel", "imageOver", "[I", true)
  | 28 => ("SharesComingModel", "imageWaits", "[I", true)
  | 29 => ("SharesComingModel", "isImage", "[Z", true)
  | 30 => ("SharesComingModel", "readSum", "I", false)
  | 31 => ("SharesComingModel", "endKey", "[J", true)
  | 32 => ("SharesComingModel", "endIs", "[I", true)
  | 33 => ("SharesComingModel", "endMany", "I", false)
  | 34 => ("SharesComingModel", "heldSort", "[I", true)
  | 35 => ("SharesComingModel", "state", "[J", true)
  | 36 => ("SharesComingModel", "worked", "[J", true)
  | 37 => ("SharesComingModel", "layer", "[I", true)
  | 38 => ("SharesComingModel", "table", "[I", true)
  | 39 => ("SharesComingModel", "layers", "I", false)
  | 40 => ("SharesComingModel", "states", "I", false)
  | 41 => ("SharesComingModel", "digit", "[I", true)
  | 42 => ("SharesComingModel", "wayState", "[J", true)
  | 43 => ("SharesComingModel", "wayNext", "[J", true)
  | 44 => ("SharesComingModel", "wayShare", "[J", true)
  | 45 => ("SharesComingModel", "wayShareNext", "[J", true)
  | _ => ("SharesComingModel", "judgedEnd", "J", false)
def tyX12 : Nat → FieldType := fun k => match k with
  | 0 => .array .byte
  | 1 => .int
  | 2 => .int
  | 3 => .int
  | 4 => .int
  | 5 => .long
  | 6 => .int
  | 7 => .array .long
  | 8 => .array .boolean
  | 9 => .array .int
  | 10 => .int
  | 11 => .array .int
  | 12 => .array .int
  | 13 => .int
  | 14 => .int
  | 15 => .boolean
  | 16 => .int
  | 17 => .array .int
  | 18 => .int
  | 19 => .array .int
  | 20 => .array .int
  | 21 => .int
  | 22 => .int
  | 23 => .long
  | 24 => .int
  | 25 => .int
  | 26 => .array .long
  | 27 => .array .int
  | 28 => .array .int
  | 29 => .array .boolean
  | 30 => .int
  | 31 => .array .long
  | 32 => .array .int
  | 33 => .int
  | 34 => .array .int
  | 35 => .array .long
  | 36 => .array .long
  | 37 => .array .int
  | 38 => .array .int
  | 39 => .int
  | 40 => .int
  | 41 => .array .int
  | 42 => .array .long
  | 43 => .array .long
  | 44 => .array .long
  | 45 => .array .long
  | _ => .long
abbrev wsX120 : List Cond := u_ws RX12 TX12 47
theorem nmX12 : ∀ a, a < 47 → ∀ b, b < 47 → a ≠ b → (TX12 a).2.1 ≠ (TX12 b).2.1 := by decide +kernel
theorem tyX12_ok : ∀ k, k < 47 → parseFieldDescriptor (TX12 k).2.2.1 = some (tyX12 k) := by decide +kernel
abbrev vwCl : List vw_C := [(RX0, TX0, 6), (RX1, TX1, 5), (RX3, TX3, 12), (RX4, TX4, 8), (RX5, TX5, 6), (RX6, TX6, 5), (RX8, TX8, 2), (RX9, TX9, 5), (RX10, TX10, 13), (RX11, TX11, 12), (RX12, TX12, 47)]
def tyc (c : Nat) : Nat → FieldType := match c with
  | 0 => tyX0
  | 1 => tyX1
  | 2 => tyX3
  | 3 => tyX4
  | 4 => tyX5
  | 5 => tyX6
  | 6 => tyX8
  | 7 => tyX9
  | 8 => tyX10
  | 9 => tyX11
  | 10 => tyX12
  | _ => fun _ => .int
/-- of a field: 1 a long, 2 a reference, 3 a boolean, 0 an int -/
def fty (c k : Nat) : Nat := match tyc c k with
  | .long => 1
  | .object _ => 2
  | .array _ => 2
  | .boolean => 3
  | .int => 0
  | _ => 4
