/-! ===== the classes, out of the printed names ===== -/
def RX0 : String := "SpeechKeeper$History"
def TX0 : u_T := fun k => match k with
  | 0 => ("SpeechKeeper$History", "ring", "LSpeechKeeper$Shelf;", true)
  | 1 => ("SpeechKeeper$History", "next", "I", false)
  | _ => ("SpeechKeeper$History", "count", "I", false)
def tyX0 : Nat → FieldType := fun k => match k with
  | 0 => .object "SpeechKeeper$Shelf"
  | 1 => .int
  | _ => .int
abbrev wsX00 : List Cond := u_ws RX0 TX0 3
theorem nmX0 : ∀ a, a < 3 → ∀ b, b < 3 → a ≠ b → (TX0 a).2.1 ≠ (TX0 b).2.1 := by decide +kernel
theorem tyX0_ok : ∀ k, k < 3 → parseFieldDescriptor (TX0 k).2.2.1 = some (tyX0 k) := by decide +kernel
def RX1 : String := "SpeechKeeper$Joint"
def TX1 : u_T := fun k => match k with
  | 0 => ("SpeechKeeper$Joint", "text", "LSpeechKeeper$Text;", true)
  | 1 => ("SpeechKeeper$Joint", "state", "LSpeechKeeper$State;", true)
  | 2 => ("SpeechKeeper$Joint", "merge", "LSpeechKeeper$Merge;", true)
  | 3 => ("SpeechKeeper$Joint", "laying", "LSpeechKeeper$Laying;", true)
  | 4 => ("SpeechKeeper$Joint", "baseAuthors", "[I", true)
  | _ => ("SpeechKeeper$Joint", "most", "[I", true)
def tyX1 : Nat → FieldType := fun k => match k with
  | 0 => .object "SpeechKeeper$Text"
  | 1 => .object "SpeechKeeper$State"
  | 2 => .object "SpeechKeeper$Merge"
  | 3 => .object "SpeechKeeper$Laying"
  | 4 => .array .int
  | _ => .array .int
abbrev wsX10 : List Cond := u_ws RX1 TX1 6
theorem nmX1 : ∀ a, a < 6 → ∀ b, b < 6 → a ≠ b → (TX1 a).2.1 ≠ (TX1 b).2.1 := by decide +kernel
theorem tyX1_ok : ∀ k, k < 6 → parseFieldDescriptor (TX1 k).2.2.1 = some (tyX1 k) := by decide +kernel
def RX2 : String := "SpeechKeeper$Laying"
def TX2 : u_T := fun k => match k with
  | 0 => ("SpeechKeeper$Laying", "first", "[J", true)
  | 1 => ("SpeechKeeper$Laying", "second", "[J", true)
  | 2 => ("SpeechKeeper$Laying", "partners", "[I", true)
  | 3 => ("SpeechKeeper$Laying", "longest", "[I", true)
  | 4 => ("SpeechKeeper$Laying", "firsts", "I", false)
  | 5 => ("SpeechKeeper$Laying", "seconds", "I", false)
  | _ => ("SpeechKeeper$Laying", "pairs", "I", false)
def tyX2 : Nat → FieldType := fun k => match k with
  | 0 => .array .long
  | 1 => .array .long
  | 2 => .array .int
  | 3 => .array .int
  | 4 => .int
  | 5 => .int
  | _ => .int
abbrev wsX20 : List Cond := u_ws RX2 TX2 7
theorem nmX2 : ∀ a, a < 7 → ∀ b, b < 7 → a ≠ b → (TX2 a).2.1 ≠ (TX2 b).2.1 := by decide +kernel
theorem tyX2_ok : ∀ k, k < 7 → parseFieldDescriptor (TX2 k).2.2.1 = some (tyX2 k) := by decide +kernel
def RX3 : String := "SpeechKeeper$Merge"
def TX3 : u_T := fun k => match k with
  | 0 => ("SpeechKeeper$Merge", "zero", "LSpeechKeeper$Table;", true)
  | 1 => ("SpeechKeeper$Merge", "one", "LSpeechKeeper$Table;", true)
  | 2 => ("SpeechKeeper$Merge", "blocks", "LSpeechKeeper$Table;", true)
  | _ => ("SpeechKeeper$Merge", "laying", "LSpeechKeeper$Laying;", true)
def tyX3 : Nat → FieldType := fun k => match k with
  | 0 => .object "SpeechKeeper$Table"
  | 1 => .object "SpeechKeeper$Table"
  | 2 => .object "SpeechKeeper$Table"
  | _ => .object "SpeechKeeper$Laying"
abbrev wsX30 : List Cond := u_ws RX3 TX3 4
theorem nmX3 : ∀ a, a < 4 → ∀ b, b < 4 → a ≠ b → (TX3 a).2.1 ≠ (TX3 b).2.1 := by decide +kernel
theorem tyX3_ok : ∀ k, k < 4 → parseFieldDescriptor (TX3 k).2.2.1 = some (tyX3 k) := by decide +kernel
def RX4 : String := "SpeechKeeper$Reader"
def TX4 : u_T := fun k => match k with
  | 0 => ("SpeechKeeper$Reader", "bytes", "[B", true)
  | 1 => ("SpeechKeeper$Reader", "length", "I", false)
  | 2 => ("SpeechKeeper$Reader", "limit", "I", false)
  | 3 => ("SpeechKeeper$Reader", "place", "I", false)
  | 4 => ("SpeechKeeper$Reader", "token", "I", false)
  | 5 => ("SpeechKeeper$Reader", "tokenAt", "I", false)
  | 6 => ("SpeechKeeper$Reader", "word", "J", false)
  | _ => ("SpeechKeeper$Reader", "letters", "I", false)
def tyX4 : Nat → FieldType := fun k => match k with
  | 0 => .array .byte
  | 1 => .int
  | 2 => .int
  | 3 => .int
  | 4 => .int
  | 5 => .int
  | 6 => .long
  | _ => .int
abbrev wsX40 : List Cond := u_ws RX4 TX4 8
theorem nmX4 : ∀ a, a < 8 → ∀ b, b < 8 → a ≠ b → (TX4 a).2.1 ≠ (TX4 b).2.1 := by decide +kernel
theorem tyX4_ok : ∀ k, k < 8 → parseFieldDescriptor (TX4 k).2.2.1 = some (tyX4 k) := by decide +kernel
def RX5 : String := "SpeechKeeper$Shelf"
def TX5 : u_T := fun k => match k with
  | 0 => ("SpeechKeeper$Shelf", "states", "[LSpeechKeeper$State;", true)
  | _ => ("SpeechKeeper$Shelf", "filled", "[Z", true)
def tyX5 : Nat → FieldType := fun k => match k with
  | 0 => .array (.object "SpeechKeeper$State")
  | _ => .array .boolean
abbrev wsX50 : List Cond := u_ws RX5 TX5 2
theorem nmX5 : ∀ a, a < 2 → ∀ b, b < 2 → a ≠ b → (TX5 a).2.1 ≠ (TX5 b).2.1 := by decide +kernel
theorem tyX5_ok : ∀ k, k < 2 → parseFieldDescriptor (TX5 k).2.2.1 = some (tyX5 k) := by decide +kernel
def RX6 : String := "SpeechKeeper$State"
def TX6 : u_T := fun k => match k with
  | 0 => ("SpeechKeeper$State", "base", "LSpeechKeeper$Text;", true)
  | 1 => ("SpeechKeeper$State", "draftZero", "LSpeechKeeper$Text;", true)
  | 2 => ("SpeechKeeper$State", "draftOne", "LSpeechKeeper$Text;", true)
  | 3 => ("SpeechKeeper$State", "decisions", "[I", true)
  | _ => ("SpeechKeeper$State", "round", "I", false)
def tyX6 : Nat → FieldType := fun k => match k with
  | 0 => .object "SpeechKeeper$Text"
  | 1 => .object "SpeechKeeper$Text"
  | 2 => .object "SpeechKeeper$Text"
  | 3 => .array .int
  | _ => .int
abbrev wsX60 : List Cond := u_ws RX6 TX6 5
theorem nmX6 : ∀ a, a < 5 → ∀ b, b < 5 → a ≠ b → (TX6 a).2.1 ≠ (TX6 b).2.1 := by decide +kernel
theorem tyX6_ok : ∀ k, k < 5 → parseFieldDescriptor (TX6 k).2.2.1 = some (tyX6 k) := by decide +kernel
def RX7 : String := "SpeechKeeper$Table"
def TX7 : u_T := fun k => match k with
  | 0 => ("SpeechKeeper$Table", "width", "I", true)
  | 1 => ("SpeechKeeper$Table", "cells", "[I", true)
  | _ => ("SpeechKeeper$Table", "rows", "I", false)
def tyX7 : Nat → FieldType := fun k => match k with
  | 0 => .int
  | 1 => .array .int
  | _ => .int
abbrev wsX70 : List Cond := u_ws RX7 TX7 3
theorem nmX7 : ∀ a, a < 3 → ∀ b, b < 3 → a ≠ b → (TX7 a).2.1 ≠ (TX7 b).2.1 := by decide +kernel
theorem tyX7_ok : ∀ k, k < 3 → parseFieldDescriptor (TX7 k).2.2.1 = some (tyX7 k) := by decide +kernel
def RX8 : String := "SpeechKeeper$Text"
def TX8 : u_T := fun k => match k with
  | 0 => ("SpeechKeeper$Text", "words", "[J", true)
  | 1 => ("SpeechKeeper$Text", "authors", "[I", true)
  | 2 => ("SpeechKeeper$Text", "counts", "[I", true)
  | _ => ("SpeechKeeper$Text", "lines", "I", false)
def tyX8 : Nat → FieldType := fun k => match k with
  | 0 => .array .long
  | 1 => .array .int
  | 2 => .array .int
  | _ => .int
abbrev wsX80 : List Cond := u_ws RX8 TX8 4
theorem nmX8 : ∀ a, a < 4 → ∀ b, b < 4 → a ≠ b → (TX8 a).2.1 ≠ (TX8 b).2.1 := by decide +kernel
theorem tyX8_ok : ∀ k, k < 4 → parseFieldDescriptor (TX8 k).2.2.1 = some (tyX8 k) := by decide +kernel
def RX9 : String := "SpeechKeeper"
def TX9 : u_T := fun k => match k with
  | 0 => ("SpeechKeeper", "reader", "LSpeechKeeper$Reader;", true)
  | 1 => ("SpeechKeeper", "now", "LSpeechKeeper$State;", true)
  | 2 => ("SpeechKeeper", "spare", "LSpeechKeeper$State;", true)
  | 3 => ("SpeechKeeper", "typed", "LSpeechKeeper$Text;", true)
  | 4 => ("SpeechKeeper", "history", "LSpeechKeeper$History;", true)
  | 5 => ("SpeechKeeper", "slots", "LSpeechKeeper$Shelf;", true)
  | 6 => ("SpeechKeeper", "laying", "LSpeechKeeper$Laying;", true)
  | 7 => ("SpeechKeeper", "merge", "LSpeechKeeper$Merge;", true)
  | 8 => ("SpeechKeeper", "trial", "LSpeechKeeper$Merge;", true)
  | 9 => ("SpeechKeeper", "joint", "LSpeechKeeper$Joint;", true)
  | 10 => ("SpeechKeeper", "reported", "[B", true)
  | 11 => ("SpeechKeeper", "reportedBytes", "I", false)
  | 12 => ("SpeechKeeper", "isMerged", "Z", false)
  | _ => ("SpeechKeeper", "isJoined", "Z", false)
def tyX9 : Nat → FieldType := fun k => match k with
  | 0 => .object "SpeechKeeper$Reader"
  | 1 => .object "SpeechKeeper$State"
  | 2 => .object "SpeechKeeper$State"
  | 3 => .object "SpeechKeeper$Text"
  | 4 => .object "SpeechKeeper$History"
  | 5 => .object "SpeechKeeper$Shelf"
  | 6 => .object "SpeechKeeper$Laying"
  | 7 => .object "SpeechKeeper$Merge"
  | 8 => .object "SpeechKeeper$Merge"
  | 9 => .object "SpeechKeeper$Joint"
  | 10 => .array .byte
  | 11 => .int
  | 12 => .boolean
  | _ => .boolean
abbrev wsX90 : List Cond := u_ws RX9 TX9 14
theorem nmX9 : ∀ a, a < 14 → ∀ b, b < 14 → a ≠ b → (TX9 a).2.1 ≠ (TX9 b).2.1 := by decide +kernel
theorem tyX9_ok : ∀ k, k < 14 → parseFieldDescriptor (TX9 k).2.2.1 = some (tyX9 k) := by decide +kernel
def RX10 : String := "SpeechKeeperModel"
def TX10 : u_T := fun k => match k with
  | 0 => ("SpeechKeeperModel", "s", "[J", false)
  | 1 => ("SpeechKeeperModel", "now", "[J", true)
  | 2 => ("SpeechKeeperModel", "draft", "[J", true)
  | 3 => ("SpeechKeeperModel", "past", "[J", true)
  | 4 => ("SpeechKeeperModel", "kept", "[J", true)
  | 5 => ("SpeechKeeperModel", "isKept", "[Z", true)
  | 6 => ("SpeechKeeperModel", "changes", "I", false)
  | 7 => ("SpeechKeeperModel", "thrown", "I", false)
  | 8 => ("SpeechKeeperModel", "jointWord", "[J", true)
  | 9 => ("SpeechKeeperModel", "jointAuthor", "[I", true)
  | 10 => ("SpeechKeeperModel", "jointLines", "I", false)
  | 11 => ("SpeechKeeperModel", "first", "[J", true)
  | 12 => ("SpeechKeeperModel", "second", "[J", true)
  | 13 => ("SpeechKeeperModel", "table", "[I", true)
  | 14 => ("SpeechKeeperModel", "pairOf", "[I", true)
  | 15 => ("SpeechKeeperModel", "backOf", "[I", true)
  | 16 => ("SpeechKeeperModel", "firstMany", "I", false)
  | 17 => ("SpeechKeeperModel", "secondMany", "I", false)
  | 18 => ("SpeechKeeperModel", "changeFrom", "[I", true)
  | 19 => ("SpeechKeeperModel", "changeTo", "[I", true)
  | 20 => ("SpeechKeeperModel", "changeStart", "[I", true)
  | 21 => ("SpeechKeeperModel", "changeEnd", "[I", true)
  | 22 => ("SpeechKeeperModel", "label", "[I", true)
  | 23 => ("SpeechKeeperModel", "blockOf", "[I", true)
  | 24 => ("SpeechKeeperModel", "changeMany", "[I", true)
  | 25 => ("SpeechKeeperModel", "blockFrom", "[I", true)
  | 26 => ("SpeechKeeperModel", "blockTo", "[I", true)
  | 27 => ("SpeechKeeperModel", "blockLabel", "[I", true)
  | 28 => ("SpeechKeeperModel", "blockKind", "[I", true)
  | 29 => ("SpeechKeeperModel", "sideLines", "[I", true)
  | 30 => ("SpeechKeeperModel", "sideWords", "[I", true)
  | 31 => ("SpeechKeeperModel", "blocks", "I", false)
  | 32 => ("SpeechKeeperModel", "sideText", "[I", true)
  | 33 => ("SpeechKeeperModel", "sideLine", "[I", true)
  | 34 => ("SpeechKeeperModel", "sideMany", "[I", true)
  | 35 => ("SpeechKeeperModel", "oldAuthor", "[I", true)
  | 36 => ("SpeechKeeperModel", "buffer", "[I", true)
  | 37 => ("SpeechKeeperModel", "buffered", "I", false)
  | 38 => ("SpeechKeeperModel", "limit", "I", false)
  | 39 => ("SpeechKeeperModel", "position", "I", false)
  | 40 => ("SpeechKeeperModel", "from", "I", false)
  | 41 => ("SpeechKeeperModel", "kind", "I", false)
  | 42 => ("SpeechKeeperModel", "code", "I", false)
  | 43 => ("SpeechKeeperModel", "offset", "I", false)
  | 44 => ("SpeechKeeperModel", "mate", "[I", true)
  | 45 => ("SpeechKeeperModel", "through", "[I", true)
  | 46 => ("SpeechKeeperModel", "queue", "[I", true)
  | 47 => ("SpeechKeeperModel", "isSeen", "[Z", true)
  | 48 => ("SpeechKeeperModel", "best", "[I", true)
  | 49 => ("SpeechKeeperModel", "then", "[I", true)
  | 50 => ("SpeechKeeperModel", "held", "[J", true)
  | 51 => ("SpeechKeeperModel", "written", "[I", true)
  | _ => ("SpeechKeeperModel", "writtenLong", "I", false)
def tyX10 : Nat → FieldType := fun k => match k with
  | 0 => .array .long
  | 1 => .array .long
  | 2 => .array .long
  | 3 => .array .long
  | 4 => .array .long
  | 5 => .array .boolean
  | 6 => .int
  | 7 => .int
  | 8 => .array .long
  | 9 => .array .int
  | 10 => .int
  | 11 => .array .long
  | 12 => .array .long
  | 13 => .array .int
  | 14 => .array .int
  | 15 => .array .int
  | 16 => .int
  | 17 => .int
  | 18 => .array .int
  | 19 => .array .int
  | 20 => .array .int
  | 21 => .array .int
  | 22 => .array .int
  | 23 => .array .int
  | 24 => .array .int
  | 25 => .array .int
  | 26 => .array .int
  | 27 => .array .int
  | 28 => .array .int
  | 29 => .array .int
  | 30 => .array .int
  | 31 => .int
  | 32 => .array .int
  | 33 => .array .int
  | 34 => .array .int
  | 35 => .array .int
  | 36 => .array .int
  | 37 => .int
  | 38 => .int
  | 39 => .int
  | 40 => .int
  | 41 => .int
  | 42 => .int
  | 43 => .int
  | 44 => .array .int
  | 45 => .array .int
  | 46 => .array .int
  | 47 => .array .boolean
  | 48 => .array .int
  | 49 => .array .int
  | 50 => .array .long
  | 51 => .array .int
  | _ => .int
abbrev wsX100 : List Cond := u_ws RX10 TX10 53
theorem nmX10 : ∀ a, a < 53 → ∀ b, b < 53 → a ≠ b → (TX10 a).2.1 ≠ (TX10 b).2.1 := by decide +kernel
theorem tyX10_ok : ∀ k, k < 53 → parseFieldDescriptor (TX10 k).2.2.1 = some (tyX10 k) := by decide +kernel
abbrev vwCl : List vw_C := [(RX0, TX0, 3), (RX1, TX1, 6), (RX2, TX2, 7), (RX3, TX3, 4), (RX4, TX4, 8), (RX5, TX5, 2), (RX6, TX6, 5), (RX7, TX7, 3), (RX8, TX8, 4), (RX9, TX9, 14), (RX10, TX10, 53)]
