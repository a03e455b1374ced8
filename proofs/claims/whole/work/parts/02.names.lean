def RX0 : String := "HauntSums$Reader"
def TX0 : u_T := fun k => match k with
  | 0 => ("HauntSums$Reader", "tape", "LHauntSums$Tape;", true)
  | 1 => ("HauntSums$Reader", "draft", "LHauntSums$Town;", true)
  | 2 => ("HauntSums$Reader", "doneTold", "[I", true)
  | 3 => ("HauntSums$Reader", "place", "I", false)
  | 4 => ("HauntSums$Reader", "token", "I", false)
  | 5 => ("HauntSums$Reader", "start", "I", false)
  | 6 => ("HauntSums$Reader", "number", "I", false)
  | 7 => ("HauntSums$Reader", "found", "I", false)
  | _ => ("HauntSums$Reader", "foundAt", "I", false)
def tyX0 : Nat → FieldType := fun k => match k with
  | 0 => .object "HauntSums$Tape"
  | 1 => .object "HauntSums$Town"
  | 2 => .array .int
  | 3 => .int
  | 4 => .int
  | 5 => .int
  | 6 => .int
  | 7 => .int
  | _ => .int
theorem nmX0 : ∀ a, a < 9 → ∀ b, b < 9 → a ≠ b → (TX0 a).2.1 ≠ (TX0 b).2.1 := by decide +kernel
theorem tyX0_ok : ∀ k, k < 9 → parseFieldDescriptor (TX0 k).2.2.1 = some (tyX0 k) := by decide +kernel
def RX1 : String := "HauntSums$Sheets"
def TX1 : u_T := fun k => match k with
  | 0 => ("HauntSums$Sheets", "lane", "[I", true)
  | 1 => ("HauntSums$Sheets", "length", "[I", true)
  | _ => ("HauntSums$Sheets", "cells", "[I", true)
def tyX1 : Nat → FieldType := fun k => match k with
  | 0 => .array .int
  | 1 => .array .int
  | _ => .array .int
theorem nmX1 : ∀ a, a < 3 → ∀ b, b < 3 → a ≠ b → (TX1 a).2.1 ≠ (TX1 b).2.1 := by decide +kernel
theorem tyX1_ok : ∀ k, k < 3 → parseFieldDescriptor (TX1 k).2.2.1 = some (tyX1 k) := by decide +kernel
def RX2 : String := "HauntSums$Tape"
def TX2 : u_T := fun k => match k with
  | 0 => ("HauntSums$Tape", "bytes", "[I", true)
  | _ => ("HauntSums$Tape", "length", "I", false)
def tyX2 : Nat → FieldType := fun k => match k with
  | 0 => .array .int
  | _ => .int
theorem nmX2 : ∀ a, a < 2 → ∀ b, b < 2 → a ≠ b → (TX2 a).2.1 ≠ (TX2 b).2.1 := by decide +kernel
theorem tyX2_ok : ∀ k, k < 2 → parseFieldDescriptor (TX2 k).2.2.1 = some (tyX2 k) := by decide +kernel
def RX3 : String := "HauntSums$Town"
def TX3 : u_T := fun k => match k with
  | 0 => ("HauntSums$Town", "ghosts", "I", false)
  | 1 => ("HauntSums$Town", "kind", "[I", true)
  | 2 => ("HauntSums$Town", "a", "[I", true)
  | 3 => ("HauntSums$Town", "b", "[I", true)
  | 4 => ("HauntSums$Town", "room", "[I", true)
  | 5 => ("HauntSums$Town", "done", "[I", true)
  | 6 => ("HauntSums$Town", "clerks", "I", false)
  | 7 => ("HauntSums$Town", "desk", "[I", true)
  | 8 => ("HauntSums$Town", "skill", "[I", true)
  | 9 => ("HauntSums$Town", "night", "I", false)
  | 10 => ("HauntSums$Town", "seen", "I", false)
  | 11 => ("HauntSums$Town", "seenGhost", "[I", true)
  | 12 => ("HauntSums$Town", "seenBehind", "[I", true)
  | _ => ("HauntSums$Town", "seenRoom", "[I", true)
def tyX3 : Nat → FieldType := fun k => match k with
  | 0 => .int
  | 1 => .array .int
  | 2 => .array .int
  | 3 => .array .int
  | 4 => .array .int
  | 5 => .array .int
  | 6 => .int
  | 7 => .array .int
  | 8 => .array .int
  | 9 => .int
  | 10 => .int
  | 11 => .array .int
  | 12 => .array .int
  | _ => .array .int
theorem nmX3 : ∀ a, a < 14 → ∀ b, b < 14 → a ≠ b → (TX3 a).2.1 ≠ (TX3 b).2.1 := by decide +kernel
theorem tyX3_ok : ∀ k, k < 14 → parseFieldDescriptor (TX3 k).2.2.1 = some (tyX3 k) := by decide +kernel
def RX4 : String := "HauntSums$Walk"
def TX4 : u_T := fun k => match k with
  | 0 => ("HauntSums$Walk", "ghosts", "I", false)
  | 1 => ("HauntSums$Walk", "room", "[I", true)
  | 2 => ("HauntSums$Walk", "left", "[I", true)
  | 3 => ("HauntSums$Walk", "pace", "[I", true)
  | 4 => ("HauntSums$Walk", "clerks", "I", false)
  | 5 => ("HauntSums$Walk", "desk", "[I", true)
  | 6 => ("HauntSums$Walk", "skill", "[I", true)
  | 7 => ("HauntSums$Walk", "harmDone", "I", false)
  | _ => ("HauntSums$Walk", "harmIn", "[I", true)
def tyX4 : Nat → FieldType := fun k => match k with
  | 0 => .int
  | 1 => .array .int
  | 2 => .array .int
  | 3 => .array .int
  | 4 => .int
  | 5 => .array .int
  | 6 => .array .int
  | 7 => .int
  | _ => .array .int
theorem nmX4 : ∀ a, a < 9 → ∀ b, b < 9 → a ≠ b → (TX4 a).2.1 ≠ (TX4 b).2.1 := by decide +kernel
theorem tyX4_ok : ∀ k, k < 9 → parseFieldDescriptor (TX4 k).2.2.1 = some (tyX4 k) := by decide +kernel
def RX5 : String := "HauntSums"
def TX5 : u_T := fun k => match k with
  | 0 => ("HauntSums", "walk", "LHauntSums$Walk;", true)
  | 1 => ("HauntSums", "now", "LHauntSums$Town;", true)
  | 2 => ("HauntSums", "tape", "LHauntSums$Tape;", true)
  | 3 => ("HauntSums", "reader", "LHauntSums$Reader;", true)
  | 4 => ("HauntSums", "images", "[LHauntSums$Town;", true)
  | 5 => ("HauntSums", "imageIs", "[Z", true)
  | 6 => ("HauntSums", "sheets", "LHauntSums$Sheets;", true)
  | 7 => ("HauntSums", "tally", "[I", true)
  | 8 => ("HauntSums", "textFault", "I", false)
  | _ => ("HauntSums", "readFault", "I", false)
def tyX5 : Nat → FieldType := fun k => match k with
  | 0 => .object "HauntSums$Walk"
  | 1 => .object "HauntSums$Town"
  | 2 => .object "HauntSums$Tape"
  | 3 => .object "HauntSums$Reader"
  | 4 => .array (.object "HauntSums$Town")
  | 5 => .array .boolean
  | 6 => .object "HauntSums$Sheets"
  | 7 => .array .int
  | 8 => .int
  | _ => .int
theorem nmX5 : ∀ a, a < 10 → ∀ b, b < 10 → a ≠ b → (TX5 a).2.1 ≠ (TX5 b).2.1 := by decide +kernel
theorem tyX5_ok : ∀ k, k < 10 → parseFieldDescriptor (TX5 k).2.2.1 = some (tyX5 k) := by decide +kernel
def RX6 : String := "HauntSumsModel"
def TX6 : u_T := fun k => match k with
  | 0 => ("HauntSumsModel", "st", "[I", true)
  | 1 => ("HauntSumsModel", "now", "[I", true)
  | 2 => ("HauntSumsModel", "isKept", "[Z", true)
  | 3 => ("HauntSumsModel", "clerks", "I", false)
  | 4 => ("HauntSumsModel", "draft", "[I", true)
  | 5 => ("HauntSumsModel", "dClerks", "I", false)
  | 6 => ("HauntSumsModel", "toldDone", "I", false)
  | 7 => ("HauntSumsModel", "doneOf", "[I", true)
  | 8 => ("HauntSumsModel", "highest", "I", false)
  | 9 => ("HauntSumsModel", "tape", "[I", true)
  | 10 => ("HauntSumsModel", "taped", "I", false)
  | 11 => ("HauntSumsModel", "pos", "I", false)
  | 12 => ("HauntSumsModel", "begun", "I", false)
  | 13 => ("HauntSumsModel", "sort", "I", false)
  | 14 => ("HauntSumsModel", "value", "I", false)
  | 15 => ("HauntSumsModel", "fault", "I", false)
  | 16 => ("HauntSumsModel", "wrongAt", "I", false)
  | 17 => ("HauntSumsModel", "ill", "I", false)
  | 18 => ("HauntSumsModel", "harmIn", "[I", true)
  | 19 => ("HauntSumsModel", "restSum", "J", false)
  | 20 => ("HauntSumsModel", "harmSum", "J", false)
  | 21 => ("HauntSumsModel", "allWays", "J", false)
  | 22 => ("HauntSumsModel", "walked", "[I", true)
  | 23 => ("HauntSumsModel", "ways", "[I", true)
  | 24 => ("HauntSumsModel", "lanes", "[I", true)
  | 25 => ("HauntSumsModel", "sizes", "[I", true)
  | 26 => ("HauntSumsModel", "cells", "[I", true)
  | 27 => ("HauntSumsModel", "torn", "I", false)
  | _ => ("HauntSumsModel", "before", "[I", true)
def tyX6 : Nat → FieldType := fun k => match k with
  | 0 => .array .int
  | 1 => .array .int
  | 2 => .array .boolean
  | 3 => .int
  | 4 => .array .int
  | 5 => .int
  | 6 => .int
  | 7 => .array .int
  | 8 => .int
  | 9 => .array .int
  | 10 => .int
  | 11 => .int
  | 12 => .int
  | 13 => .int
  | 14 => .int
  | 15 => .int
  | 16 => .int
  | 17 => .int
  | 18 => .array .int
  | 19 => .long
  | 20 => .long
  | 21 => .long
  | 22 => .array .int
  | 23 => .array .int
  | 24 => .array .int
  | 25 => .array .int
  | 26 => .array .int
  | 27 => .int
  | _ => .array .int
theorem nmX6 : ∀ a, a < 29 → ∀ b, b < 29 → a ≠ b → (TX6 a).2.1 ≠ (TX6 b).2.1 := by decide +kernel
theorem tyX6_ok : ∀ k, k < 29 → parseFieldDescriptor (TX6 k).2.2.1 = some (tyX6 k) := by decide +kernel
abbrev vwCl : List vw_C := [(RX0, TX0, 9), (RX1, TX1, 3), (RX2, TX2, 2), (RX3, TX3, 14), (RX4, TX4, 9), (RX5, TX5, 10), (RX6, TX6, 29)]
def hs_U : List Cond := lw_tbl.filter goodWord
theorem hs_in {w : Cond} (i : Nat) (h : lw_tbl[i]? = some w) (g : goodWord w = true) : w ∈ hs_U := List.mem_filter.mpr ⟨List.mem_of_getElem? h, g⟩
theorem hs_good : ∀ w ∈ hs_U, (w.onTables && w.keeps) = true ∨ ∃ ty, w = .arrayClass ty := fun w h => good_of_word (List.mem_filter.mp h).2
theorem inX0 : ∀ w ∈ u_ws RX0 TX0 9, w ∈ hs_U := by decide +kernel
theorem inX1 : ∀ w ∈ u_ws RX1 TX1 3, w ∈ hs_U := by decide +kernel
theorem inX2 : ∀ w ∈ u_ws RX2 TX2 2, w ∈ hs_U := by decide +kernel
theorem inX3 : ∀ w ∈ u_ws RX3 TX3 14, w ∈ hs_U := by decide +kernel
theorem inX4 : ∀ w ∈ u_ws RX4 TX4 9, w ∈ hs_U := by decide +kernel
theorem inX5 : ∀ w ∈ u_ws RX5 TX5 10, w ∈ hs_U := by decide +kernel
theorem inX6 : ∀ w ∈ u_ws RX6 TX6 29, w ∈ hs_U := by decide +kernel
