def RX0 : String := "NineTrees$Crossings"
def TX0 : u_T := fun k => match k with
  | _ => ("NineTrees$Crossings", "counts", "[I", true)
def tyX0 : Nat → FieldType := fun k => match k with
  | _ => .array .int
theorem nmX0 : ∀ a, a < 1 → ∀ b, b < 1 → a ≠ b → (TX0 a).2.1 ≠ (TX0 b).2.1 := by decide +kernel
theorem tyX0_ok : ∀ k, k < 1 → parseFieldDescriptor (TX0 k).2.2.1 = some (tyX0 k) := by decide +kernel
def RX1 : String := "NineTrees$Gap"
def TX1 : u_T := fun k => match k with
  | 0 => ("NineTrees$Gap", "row", "I", false)
  | 1 => ("NineTrees$Gap", "tree", "I", false)
  | 2 => ("NineTrees$Gap", "over", "I", false)
  | _ => ("NineTrees$Gap", "under", "I", false)
def tyX1 : Nat → FieldType := fun k => match k with
  | 0 => .int
  | 1 => .int
  | 2 => .int
  | _ => .int
theorem nmX1 : ∀ a, a < 4 → ∀ b, b < 4 → a ≠ b → (TX1 a).2.1 ≠ (TX1 b).2.1 := by decide +kernel
theorem tyX1_ok : ∀ k, k < 4 → parseFieldDescriptor (TX1 k).2.2.1 = some (tyX1 k) := by decide +kernel
def RX2 : String := "NineTrees$Garden"
def TX2 : u_T := fun k => match k with
  | 0 => ("NineTrees$Garden", "kinds", "[I", true)
  | 1 => ("NineTrees$Garden", "cells", "[I", true)
  | 2 => ("NineTrees$Garden", "values", "[I", true)
  | 3 => ("NineTrees$Garden", "wishSets", "[I", true)
  | 4 => ("NineTrees$Garden", "side", "I", false)
  | 5 => ("NineTrees$Garden", "trees", "I", false)
  | 6 => ("NineTrees$Garden", "wishes", "I", false)
  | _ => ("NineTrees$Garden", "seed", "I", false)
def tyX2 : Nat → FieldType := fun k => match k with
  | 0 => .array .int
  | 1 => .array .int
  | 2 => .array .int
  | 3 => .array .int
  | 4 => .int
  | 5 => .int
  | 6 => .int
  | _ => .int
theorem nmX2 : ∀ a, a < 8 → ∀ b, b < 8 → a ≠ b → (TX2 a).2.1 ≠ (TX2 b).2.1 := by decide +kernel
theorem tyX2_ok : ∀ k, k < 8 → parseFieldDescriptor (TX2 k).2.2.1 = some (tyX2 k) := by decide +kernel
def RX3 : String := "NineTrees$Moves"
def TX3 : u_T := fun k => match k with
  | 0 => ("NineTrees$Moves", "added", "LNineTrees$Crossings;", true)
  | 1 => ("NineTrees$Moves", "left", "I", false)
  | 2 => ("NineTrees$Moves", "tree", "I", false)
  | 3 => ("NineTrees$Moves", "cell", "I", false)
  | _ => ("NineTrees$Moves", "reached", "I", false)
def tyX3 : Nat → FieldType := fun k => match k with
  | 0 => .object "NineTrees$Crossings"
  | 1 => .int
  | 2 => .int
  | 3 => .int
  | _ => .int
theorem nmX3 : ∀ a, a < 5 → ∀ b, b < 5 → a ≠ b → (TX3 a).2.1 ≠ (TX3 b).2.1 := by decide +kernel
theorem tyX3_ok : ∀ k, k < 5 → parseFieldDescriptor (TX3 k).2.2.1 = some (tyX3 k) := by decide +kernel
def RX4 : String := "NineTrees$RowList"
def TX4 : u_T := fun k => match k with
  | 0 => ("NineTrees$RowList", "sets", "[I", true)
  | _ => ("NineTrees$RowList", "count", "I", false)
def tyX4 : Nat → FieldType := fun k => match k with
  | 0 => .array .int
  | _ => .int
theorem nmX4 : ∀ a, a < 2 → ∀ b, b < 2 → a ≠ b → (TX4 a).2.1 ≠ (TX4 b).2.1 := by decide +kernel
theorem tyX4_ok : ∀ k, k < 2 → parseFieldDescriptor (TX4 k).2.2.1 = some (tyX4 k) := by decide +kernel
def RX5 : String := "NineTrees$Shapes"
def TX5 : u_T := fun k => match k with
  | _ => ("", "", "", false)
def tyX5 : Nat → FieldType := fun k => match k with
  | _ => .int
theorem nmX5 : ∀ a, a < 0 → ∀ b, b < 0 → a ≠ b → (TX5 a).2.1 ≠ (TX5 b).2.1 := by decide +kernel
theorem tyX5_ok : ∀ k, k < 0 → parseFieldDescriptor (TX5 k).2.2.1 = some (tyX5 k) := by decide +kernel
def RX6 : String := "NineTrees$Shelf"
def TX6 : u_T := fun k => match k with
  | 0 => ("NineTrees$Shelf", "elements", "[J", true)
  | 1 => ("NineTrees$Shelf", "sort", "I", false)
  | 2 => ("NineTrees$Shelf", "size", "I", false)
  | _ => ("NineTrees$Shelf", "tree", "I", false)
def tyX6 : Nat → FieldType := fun k => match k with
  | 0 => .array .long
  | 1 => .int
  | 2 => .int
  | _ => .int
theorem nmX6 : ∀ a, a < 4 → ∀ b, b < 4 → a ≠ b → (TX6 a).2.1 ≠ (TX6 b).2.1 := by decide +kernel
theorem tyX6_ok : ∀ k, k < 4 → parseFieldDescriptor (TX6 k).2.2.1 = some (tyX6 k) := by decide +kernel
def RX7 : String := "NineTrees$Sight"
def TX7 : u_T := fun k => match k with
  | _ => ("", "", "", false)
def tyX7 : Nat → FieldType := fun k => match k with
  | _ => .int
theorem nmX7 : ∀ a, a < 0 → ∀ b, b < 0 → a ≠ b → (TX7 a).2.1 ≠ (TX7 b).2.1 := by decide +kernel
theorem tyX7_ok : ∀ k, k < 0 → parseFieldDescriptor (TX7 k).2.2.1 = some (tyX7 k) := by decide +kernel
def RX8 : String := "NineTrees$Tape"
def TX8 : u_T := fun k => match k with
  | 0 => ("NineTrees$Tape", "bytes", "[I", true)
  | 1 => ("NineTrees$Tape", "size", "I", false)
  | 2 => ("NineTrees$Tape", "fewestTrees", "I", false)
  | 3 => ("NineTrees$Tape", "token", "I", false)
  | 4 => ("NineTrees$Tape", "start", "I", false)
  | 5 => ("NineTrees$Tape", "end", "I", false)
  | _ => ("NineTrees$Tape", "number", "I", false)
def tyX8 : Nat → FieldType := fun k => match k with
  | 0 => .array .int
  | 1 => .int
  | 2 => .int
  | 3 => .int
  | 4 => .int
  | 5 => .int
  | _ => .int
theorem nmX8 : ∀ a, a < 7 → ∀ b, b < 7 → a ≠ b → (TX8 a).2.1 ≠ (TX8 b).2.1 := by decide +kernel
theorem tyX8_ok : ∀ k, k < 7 → parseFieldDescriptor (TX8 k).2.2.1 = some (tyX8 k) := by decide +kernel
def RX9 : String := "NineTrees"
def TX9 : u_T := fun k => match k with
  | 0 => ("NineTrees", "ground", "LNineTrees$Garden;", true)
  | 1 => ("NineTrees", "draft", "LNineTrees$Garden;", true)
  | 2 => ("NineTrees", "kept", "LNineTrees$Garden;", true)
  | 3 => ("NineTrees", "rows", "LNineTrees$RowList;", true)
  | 4 => ("NineTrees", "crossings", "LNineTrees$Crossings;", true)
  | 5 => ("NineTrees", "moves", "LNineTrees$Moves;", true)
  | 6 => ("NineTrees", "smallest", "LNineTrees$Gap;", true)
  | 7 => ("NineTrees", "tape", "LNineTrees$Tape;", true)
  | 8 => ("NineTrees", "shelves", "[LNineTrees$Shelf;", true)
  | 9 => ("NineTrees", "refusals", "[I", true)
  | _ => ("NineTrees", "isKept", "Z", false)
def tyX9 : Nat → FieldType := fun k => match k with
  | 0 => .object "NineTrees$Garden"
  | 1 => .object "NineTrees$Garden"
  | 2 => .object "NineTrees$Garden"
  | 3 => .object "NineTrees$RowList"
  | 4 => .object "NineTrees$Crossings"
  | 5 => .object "NineTrees$Moves"
  | 6 => .object "NineTrees$Gap"
  | 7 => .object "NineTrees$Tape"
  | 8 => .array (.object "NineTrees$Shelf")
  | 9 => .array .int
  | _ => .boolean
theorem nmX9 : ∀ a, a < 11 → ∀ b, b < 11 → a ≠ b → (TX9 a).2.1 ≠ (TX9 b).2.1 := by decide +kernel
theorem tyX9_ok : ∀ k, k < 11 → parseFieldDescriptor (TX9 k).2.2.1 = some (tyX9 k) := by decide +kernel
def RX10 : String := "NineTreesModel"
def TX10 : u_T := fun k => match k with
  | 0 => ("NineTreesModel", "shelf", "[I", true)
  | 1 => ("NineTreesModel", "rowSort", "[I", true)
  | 2 => ("NineTreesModel", "rowSize", "[I", true)
  | 3 => ("NineTreesModel", "rows", "[[J", true)
  | 4 => ("NineTreesModel", "passed", "[J", true)
  | 5 => ("NineTreesModel", "shown", "[I", true)
  | 6 => ("NineTreesModel", "tape", "[I", true)
  | 7 => ("NineTreesModel", "tapeSize", "I", false)
  | 8 => ("NineTreesModel", "refused", "[I", true)
  | 9 => ("NineTreesModel", "side", "I", false)
  | 10 => ("NineTreesModel", "trees", "I", false)
  | 11 => ("NineTreesModel", "kind", "[I", true)
  | 12 => ("NineTreesModel", "cell", "[I", true)
  | 13 => ("NineTreesModel", "by", "[I", true)
  | 14 => ("NineTreesModel", "wishes", "I", false)
  | 15 => ("NineTreesModel", "wished", "[I", true)
  | 16 => ("NineTreesModel", "seed", "I", false)
  | 17 => ("NineTreesModel", "kept", "LNineTreesModel;", false)
  | 18 => ("NineTreesModel", "tried", "LNineTreesModel;", false)
  | 19 => ("NineTreesModel", "at", "I", false)
  | 20 => ("NineTreesModel", "token", "I", false)
  | 21 => ("NineTreesModel", "from", "I", false)
  | 22 => ("NineTreesModel", "figures", "I", false)
  | 23 => ("NineTreesModel", "fault", "I", false)
  | 24 => ("NineTreesModel", "told", "[I", true)
  | 25 => ("NineTreesModel", "statements", "I", false)
  | 26 => ("NineTreesModel", "found", "[I", true)
  | 27 => ("NineTreesModel", "rowMany", "I", false)
  | 28 => ("NineTreesModel", "bestTree", "I", false)
  | 29 => ("NineTreesModel", "bestCell", "I", false)
  | _ => ("NineTreesModel", "bestMany", "I", false)
def tyX10 : Nat → FieldType := fun k => match k with
  | 0 => .array .int
  | 1 => .array .int
  | 2 => .array .int
  | 3 => .array (.array .long)
  | 4 => .array .long
  | 5 => .array .int
  | 6 => .array .int
  | 7 => .int
  | 8 => .array .int
  | 9 => .int
  | 10 => .int
  | 11 => .array .int
  | 12 => .array .int
  | 13 => .array .int
  | 14 => .int
  | 15 => .array .int
  | 16 => .int
  | 17 => .object "NineTreesModel"
  | 18 => .object "NineTreesModel"
  | 19 => .int
  | 20 => .int
  | 21 => .int
  | 22 => .int
  | 23 => .int
  | 24 => .array .int
  | 25 => .int
  | 26 => .array .int
  | 27 => .int
  | 28 => .int
  | 29 => .int
  | _ => .int
theorem nmX10 : ∀ a, a < 31 → ∀ b, b < 31 → a ≠ b → (TX10 a).2.1 ≠ (TX10 b).2.1 := by decide +kernel
theorem tyX10_ok : ∀ k, k < 31 → parseFieldDescriptor (TX10 k).2.2.1 = some (tyX10 k) := by decide +kernel
abbrev vwCl : List vw_C := [(RX0, TX0, 1), (RX1, TX1, 4), (RX2, TX2, 8), (RX3, TX3, 5), (RX4, TX4, 2), (RX6, TX6, 4), (RX8, TX8, 7), (RX9, TX9, 11), (RX10, TX10, 31)]
