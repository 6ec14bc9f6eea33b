/-! THE NAMES: classes, their fields, the links of the constant pools by number; written by wip/whole/gen.py out of the printed claim -/
def RX1 : String := "MultiwayCut$ExactSearch"
def TX1 : u_T := fun k => match k with
  | 0 => ("MultiwayCut$ExactSearch", "best", "[I", true)
  | 1 => ("MultiwayCut$ExactSearch", "bestCost", "I", false)
  | _ => ("MultiwayCut$ExactSearch", "trial", "[I", true)
def tyX1 : Nat → FieldType := fun k => match k with
  | 0 => .array .int
  | 1 => .int
  | _ => .array .int
theorem nmX1 : ∀ a, a < 3 → ∀ b, b < 3 → a ≠ b → (TX1 a).2.1 ≠ (TX1 b).2.1 := by decide +kernel
theorem tyX1_ok : ∀ k, k < 3 → parseFieldDescriptor (TX1 k).2.2.1 = some (tyX1 k) := by decide +kernel
def RX2 : String := "MultiwayCut$Formula"
def TX2 : u_T := fun k => match k with
  | 0 => ("MultiwayCut$Formula", "codes", "[I", true)
  | _ => ("MultiwayCut$Formula", "waiting", "[I", true)
def tyX2 : Nat → FieldType := fun k => match k with
  | 0 => .array .int
  | _ => .array .int
theorem nmX2 : ∀ a, a < 2 → ∀ b, b < 2 → a ≠ b → (TX2 a).2.1 ≠ (TX2 b).2.1 := by decide +kernel
theorem tyX2_ok : ∀ k, k < 2 → parseFieldDescriptor (TX2 k).2.2.1 = some (tyX2 k) := by decide +kernel
def RX3 : String := "MultiwayCut$Graph"
def TX3 : u_T := fun k => match k with
  | 0 => ("MultiwayCut$Graph", "vertexTotal", "I", false)
  | 1 => ("MultiwayCut$Graph", "edgeTotal", "I", false)
  | 2 => ("MultiwayCut$Graph", "terminalSet", "I", false)
  | 3 => ("MultiwayCut$Graph", "loads", "[I", true)
  | 4 => ("MultiwayCut$Graph", "labels", "[I", true)
  | 5 => ("MultiwayCut$Graph", "lowEnds", "[I", true)
  | 6 => ("MultiwayCut$Graph", "highEnds", "[I", true)
  | 7 => ("MultiwayCut$Graph", "weights", "[I", true)
  | 8 => ("MultiwayCut$Graph", "costs", "[I", true)
  | _ => ("MultiwayCut$Graph", "formula", "LMultiwayCut$Formula;", false)
def tyX3 : Nat → FieldType := fun k => match k with
  | 0 => .int
  | 1 => .int
  | 2 => .int
  | 3 => .array .int
  | 4 => .array .int
  | 5 => .array .int
  | 6 => .array .int
  | 7 => .array .int
  | 8 => .array .int
  | _ => .object "MultiwayCut$Formula"
theorem nmX3 : ∀ a, a < 10 → ∀ b, b < 10 → a ≠ b → (TX3 a).2.1 ≠ (TX3 b).2.1 := by decide +kernel
theorem tyX3_ok : ∀ k, k < 10 → parseFieldDescriptor (TX3 k).2.2.1 = some (tyX3 k) := by decide +kernel
def RX4 : String := "MultiwayCut$Grouping"
def TX4 : u_T := fun k => match k with
  | 0 => ("MultiwayCut$Grouping", "made", "I", false)
  | _ => ("MultiwayCut$Grouping", "groups", "[I", true)
def tyX4 : Nat → FieldType := fun k => match k with
  | 0 => .int
  | _ => .array .int
theorem nmX4 : ∀ a, a < 2 → ∀ b, b < 2 → a ≠ b → (TX4 a).2.1 ≠ (TX4 b).2.1 := by decide +kernel
theorem tyX4_ok : ∀ k, k < 2 → parseFieldDescriptor (TX4 k).2.2.1 = some (tyX4 k) := by decide +kernel
def RX5 : String := "MultiwayCut$History"
def TX5 : u_T := fun k => match k with
  | 0 => ("MultiwayCut$History", "saved", "[LMultiwayCut$Graph;", true)
  | 1 => ("MultiwayCut$History", "next", "I", false)
  | _ => ("MultiwayCut$History", "count", "I", false)
def tyX5 : Nat → FieldType := fun k => match k with
  | 0 => .array (.object "MultiwayCut$Graph")
  | 1 => .int
  | _ => .int
theorem nmX5 : ∀ a, a < 3 → ∀ b, b < 3 → a ≠ b → (TX5 a).2.1 ≠ (TX5 b).2.1 := by decide +kernel
theorem tyX5_ok : ∀ k, k < 3 → parseFieldDescriptor (TX5 k).2.2.1 = some (tyX5 k) := by decide +kernel
def RX6 : String := "MultiwayCut$MoveSearch"
def TX6 : u_T := fun k => match k with
  | 0 => ("MultiwayCut$MoveSearch", "vertex", "I", false)
  | 1 => ("MultiwayCut$MoveSearch", "terminal", "I", false)
  | _ => ("MultiwayCut$MoveSearch", "costThen", "I", false)
def tyX6 : Nat → FieldType := fun k => match k with
  | 0 => .int
  | 1 => .int
  | _ => .int
theorem nmX6 : ∀ a, a < 3 → ∀ b, b < 3 → a ≠ b → (TX6 a).2.1 ≠ (TX6 b).2.1 := by decide +kernel
theorem tyX6_ok : ∀ k, k < 3 → parseFieldDescriptor (TX6 k).2.2.1 = some (tyX6 k) := by decide +kernel
def RX7 : String := "MultiwayCut$NearestSearch"
def TX7 : u_T := fun k => match k with
  | 0 => ("MultiwayCut$NearestSearch", "goals", "[I", true)
  | _ => ("MultiwayCut$NearestSearch", "lengths", "[I", true)
def tyX7 : Nat → FieldType := fun k => match k with
  | 0 => .array .int
  | _ => .array .int
theorem nmX7 : ∀ a, a < 2 → ∀ b, b < 2 → a ≠ b → (TX7 a).2.1 ≠ (TX7 b).2.1 := by decide +kernel
theorem tyX7_ok : ∀ k, k < 2 → parseFieldDescriptor (TX7 k).2.2.1 = some (tyX7 k) := by decide +kernel
def RX8 : String := "MultiwayCut$SetupReader"
def TX8 : u_T := fun k => match k with
  | 0 => ("MultiwayCut$SetupReader", "graph", "LMultiwayCut$Graph;", true)
  | 1 => ("MultiwayCut$SetupReader", "errorCode", "I", false)
  | 2 => ("MultiwayCut$SetupReader", "errorStart", "I", false)
  | 3 => ("MultiwayCut$SetupReader", "text", "[B", false)
  | 4 => ("MultiwayCut$SetupReader", "length", "I", false)
  | 5 => ("MultiwayCut$SetupReader", "tokenKind", "I", false)
  | 6 => ("MultiwayCut$SetupReader", "tokenStart", "I", false)
  | 7 => ("MultiwayCut$SetupReader", "tokenEnd", "I", false)
  | 8 => ("MultiwayCut$SetupReader", "tokenValue", "I", false)
  | 9 => ("MultiwayCut$SetupReader", "loadedSet", "I", false)
  | 10 => ("MultiwayCut$SetupReader", "costSeen", "Z", false)
  | 11 => ("MultiwayCut$SetupReader", "codes", "[I", true)
  | _ => ("MultiwayCut$SetupReader", "codeTotal", "I", false)
def tyX8 : Nat → FieldType := fun k => match k with
  | 0 => .object "MultiwayCut$Graph"
  | 1 => .int
  | 2 => .int
  | 3 => .array .byte
  | 4 => .int
  | 5 => .int
  | 6 => .int
  | 7 => .int
  | 8 => .int
  | 9 => .int
  | 10 => .boolean
  | 11 => .array .int
  | _ => .int
theorem nmX8 : ∀ a, a < 13 → ∀ b, b < 13 → a ≠ b → (TX8 a).2.1 ≠ (TX8 b).2.1 := by decide +kernel
theorem tyX8_ok : ∀ k, k < 13 → parseFieldDescriptor (TX8 k).2.2.1 = some (tyX8 k) := by decide +kernel
def RX9 : String := "MultiwayCut"
def TX9 : u_T := fun k => match k with
  | 0 => ("MultiwayCut", "buffer", "[B", true)
  | 1 => ("MultiwayCut", "bufferLength", "I", false)
  | 2 => ("MultiwayCut", "errorAt", "I", false)
  | 3 => ("MultiwayCut", "graph", "LMultiwayCut$Graph;", true)
  | 4 => ("MultiwayCut", "history", "LMultiwayCut$History;", true)
  | 5 => ("MultiwayCut", "reader", "LMultiwayCut$SetupReader;", true)
  | 6 => ("MultiwayCut", "grouping", "LMultiwayCut$Grouping;", true)
  | 7 => ("MultiwayCut", "exactSearch", "LMultiwayCut$ExactSearch;", true)
  | 8 => ("MultiwayCut", "nearestSearch", "LMultiwayCut$NearestSearch;", true)
  | _ => ("MultiwayCut", "moveSearch", "LMultiwayCut$MoveSearch;", true)
def tyX9 : Nat → FieldType := fun k => match k with
  | 0 => .array .byte
  | 1 => .int
  | 2 => .int
  | 3 => .object "MultiwayCut$Graph"
  | 4 => .object "MultiwayCut$History"
  | 5 => .object "MultiwayCut$SetupReader"
  | 6 => .object "MultiwayCut$Grouping"
  | 7 => .object "MultiwayCut$ExactSearch"
  | 8 => .object "MultiwayCut$NearestSearch"
  | _ => .object "MultiwayCut$MoveSearch"
theorem nmX9 : ∀ a, a < 10 → ∀ b, b < 10 → a ≠ b → (TX9 a).2.1 ≠ (TX9 b).2.1 := by decide +kernel
theorem tyX9_ok : ∀ k, k < 10 → parseFieldDescriptor (TX9 k).2.2.1 = some (tyX9 k) := by decide +kernel
def RX10 : String := "MultiwayCutModel"
def TX10 : u_T := fun k => match k with
  | 0 => ("MultiwayCutModel", "thrown", "I", false)
  | 1 => ("MultiwayCutModel", "rows", "[I", true)
  | 2 => ("MultiwayCutModel", "read", "[I", true)
  | 3 => ("MultiwayCutModel", "now", "I", false)
  | 4 => ("MultiwayCutModel", "undoable", "I", false)
  | 5 => ("MultiwayCutModel", "text", "[I", true)
  | 6 => ("MultiwayCutModel", "hasLoad", "[Z", true)
  | 7 => ("MultiwayCutModel", "bytes", "I", false)
  | 8 => ("MultiwayCutModel", "errorAt", "I", false)
  | 9 => ("MultiwayCutModel", "size", "I", false)
  | 10 => ("MultiwayCutModel", "next", "I", false)
  | 11 => ("MultiwayCutModel", "error", "I", false)
  | 12 => ("MultiwayCutModel", "place", "I", false)
  | 13 => ("MultiwayCutModel", "began", "I", false)
  | 14 => ("MultiwayCutModel", "nested", "I", false)
  | 15 => ("MultiwayCutModel", "hasCost", "Z", false)
  | 16 => ("MultiwayCutModel", "pile", "[J", true)
  | 17 => ("MultiwayCutModel", "costs", "[I", true)
  | 18 => ("MultiwayCutModel", "cheapest", "I", false)
  | 19 => ("MultiwayCutModel", "values", "[I", true)
  | 20 => ("MultiwayCutModel", "sets", "[I", true)
  | 21 => ("MultiwayCutModel", "groups", "[I", true)
  | 22 => ("MultiwayCutModel", "roundMany", "I", false)
  | 23 => ("MultiwayCutModel", "trial", "[I", true)
  | 24 => ("MultiwayCutModel", "exactly", "[I", true)
  | 25 => ("MultiwayCutModel", "kinds", "[I", true)
  | 26 => ("MultiwayCutModel", "kindMany", "I", false)
  | 27 => ("MultiwayCutModel", "exactly0", "I", false)
  | 28 => ("MultiwayCutModel", "labels", "[I", true)
  | 29 => ("MultiwayCutModel", "far", "[I", true)
  | 30 => ("MultiwayCutModel", "nears", "[I", true)
  | 31 => ("MultiwayCutModel", "nearFar", "[I", true)
  | 32 => ("MultiwayCutModel", "moveVertex", "I", false)
  | 33 => ("MultiwayCutModel", "moveTerminal", "I", false)
  | _ => ("MultiwayCutModel", "moveCost", "I", false)
def tyX10 : Nat → FieldType := fun k => match k with
  | 0 => .int
  | 1 => .array .int
  | 2 => .array .int
  | 3 => .int
  | 4 => .int
  | 5 => .array .int
  | 6 => .array .boolean
  | 7 => .int
  | 8 => .int
  | 9 => .int
  | 10 => .int
  | 11 => .int
  | 12 => .int
  | 13 => .int
  | 14 => .int
  | 15 => .boolean
  | 16 => .array .long
  | 17 => .array .int
  | 18 => .int
  | 19 => .array .int
  | 20 => .array .int
  | 21 => .array .int
  | 22 => .int
  | 23 => .array .int
  | 24 => .array .int
  | 25 => .array .int
  | 26 => .int
  | 27 => .int
  | 28 => .array .int
  | 29 => .array .int
  | 30 => .array .int
  | 31 => .array .int
  | 32 => .int
  | 33 => .int
  | _ => .int
theorem nmX10 : ∀ a, a < 35 → ∀ b, b < 35 → a ≠ b → (TX10 a).2.1 ≠ (TX10 b).2.1 := by decide +kernel
theorem tyX10_ok : ∀ k, k < 35 → parseFieldDescriptor (TX10 k).2.2.1 = some (tyX10 k) := by decide +kernel
abbrev am_cl : List vw_C := [(RX1, TX1, 3), (RX2, TX2, 2), (RX3, TX3, 10), (RX4, TX4, 2), (RX5, TX5, 3), (RX6, TX6, 3), (RX7, TX7, 2), (RX8, TX8, 13), (RX9, TX9, 10), (RX10, TX10, 35)]
def am_cn (k : Nat) : String := match k with
  | 0 => "MultiwayCut$ExactSearch"
  | 1 => "MultiwayCut$Formula"
  | 2 => "MultiwayCut$Graph"
  | 3 => "MultiwayCut$Grouping"
  | 4 => "MultiwayCut$History"
  | 5 => "MultiwayCut$MoveSearch"
  | 6 => "MultiwayCut$NearestSearch"
  | 7 => "MultiwayCut$SetupReader"
  | 8 => "MultiwayCut"
  | 9 => "MultiwayCutModel"
  | 10 => "MultiwayCut$Cuts"
  | 11 => "MultiwayCutLaw"
  | 12 => "java/lang/Integer"
  | _ => "java/util/Arrays"
def am_tf (k : Nat) : u_T := match k with
  | 0 => TX1
  | 1 => TX2
  | 2 => TX3
  | 3 => TX4
  | 4 => TX5
  | 5 => TX6
  | 6 => TX7
  | 7 => TX8
  | 8 => TX9
  | _ => TX10
def am_ty (k : Nat) : Nat → FieldType := match k with
  | 0 => tyX1
  | 1 => tyX2
  | 2 => tyX3
  | 3 => tyX4
  | 4 => tyX5
  | 5 => tyX6
  | 6 => tyX7
  | 7 => tyX8
  | 8 => tyX9
  | _ => tyX10
def am_nf (k : Nat) : Nat := match k with
  | 0 => 3
  | 1 => 2
  | 2 => 10
  | 3 => 2
  | 4 => 3
  | 5 => 3
  | 6 => 2
  | 7 => 13
  | 8 => 10
  | _ => 35
/-- the words that hold in every method: the tables' that are kept -/
def am_TT : List Cond := lw_tbl.filter goodWord
theorem am_TT_of {w : Cond} (h : w ∈ lw_tbl) (g : goodWord w = true) : w ∈ am_TT := List.mem_filter.mpr ⟨h, g⟩
def am_fl_ : List (Nat × Nat × Nat) := [(0, 9, 0), (0, 15, 2), (0, 18, 1), (0, 35, 128), (0, 50, 129), (0, 53, 134), (0, 56, 133), (0, 59, 136), (1, 11, 65), (1, 15, 64), (2, 9, 131), (2, 15, 132), (2, 18, 133), (2, 21, 134), (2, 24, 135), (2, 27, 136), (2, 30, 128), (2, 34, 129), (2, 37, 130), (2, 40, 137), (3, 9, 193), (3, 15, 192), (3, 25, 130), (3, 32, 128), (4, 11, 256), (4, 18, 257), (4, 26, 258), (5, 9, 320), (5, 15, 321), (5, 18, 322), (5, 21, 128), (5, 30, 132), (6, 9, 384), (6, 15, 385), (6, 24, 128), (6, 28, 129), (6, 31, 133), (6, 34, 134), (7, 12, 448), (7, 18, 451), (7, 22, 459), (7, 35, 452), (7, 39, 455), (7, 42, 457), (7, 45, 458), (7, 49, 460), (7, 59, 453), (7, 83, 137), (7, 87, 128), (7, 90, 132), (7, 96, 129), (7, 137, 130), (7, 158, 131), (7, 176, 456), (7, 179, 454), (7, 190, 449), (7, 193, 450), (8, 9, 512), (8, 13, 514), (8, 20, 515), (8, 27, 516), (8, 34, 517), (8, 41, 518), (8, 48, 519), (8, 55, 520), (8, 62, 521), (8, 66, 513), (8, 84, 450), (8, 87, 449), (8, 94, 448), (8, 98, 129), (8, 101, 128), (8, 104, 130), (8, 110, 131), (8, 117, 133), (8, 120, 134), (8, 123, 135), (8, 126, 136), (8, 182, 192), (8, 191, 1), (8, 194, 0), (8, 198, 384), (8, 201, 385), (8, 204, 132), (8, 222, 320), (8, 225, 321), (8, 228, 322), (9, 7, 577), (9, 13, 578), (9, 16, 581), (9, 19, 582), (9, 23, 584), (9, 27, 592), (9, 31, 593), (9, 34, 595), (9, 37, 596), (9, 40, 597), (9, 43, 599), (9, 46, 600), (9, 49, 601), (9, 52, 604), (9, 55, 605), (9, 58, 606), (9, 61, 607), (9, 64, 576), (9, 67, 579), (9, 74, 580), (9, 77, 583), (9, 80, 587), (9, 83, 588), (9, 86, 586), (9, 89, 585), (9, 113, 589), (9, 136, 590), (9, 189, 591), (9, 240, 594), (9, 262, 598), (9, 268, 602), (9, 275, 603), (9, 323, 608), (9, 326, 609), (9, 329, 610), (10, 9, 128), (10, 21, 130), (10, 28, 129), (10, 65, 132)]
def am_cl_ : List (Nat × Nat × Nat) := [(4, 9, 138), (7, 9, 138), (7, 72, 66), (8, 17, 138), (8, 24, 259), (8, 31, 461), (8, 38, 194), (8, 45, 3), (8, 52, 386), (8, 59, 323), (11, 8, 522), (11, 94, 611)]
def am_ml_ : List (Nat × Nat × Nat) := [(0, 22, 217), (0, 31, 11), (0, 46, 12), (1, 18, 16), (1, 22, 15), (2, 44, 217), (2, 56, 20), (2, 60, 24), (2, 73, 14), (2, 79, 32), (2, 82, 33), (2, 85, 35), (3, 19, 21), (3, 28, 39), (3, 35, 22), (3, 39, 40), (3, 42, 2), (4, 22, 19), (5, 26, 21), (5, 34, 47), (5, 38, 36), (5, 42, 46), (6, 18, 21), (6, 37, 25), (6, 41, 51), (7, 26, 18), (7, 52, 70), (7, 55, 55), (7, 62, 56), (7, 65, 65), (7, 69, 54), (7, 74, 218), (7, 80, 13), (7, 93, 21), (7, 99, 27), (7, 104, 68), (7, 108, 69), (7, 111, 67), (7, 116, 57), (7, 121, 58), (7, 126, 59), (7, 131, 60), (7, 134, 61), (7, 140, 216), (7, 146, 66), (7, 150, 23), (7, 154, 26), (7, 161, 62), (7, 164, 64), (7, 167, 63), (8, 26, 42), (8, 69, 73), (8, 80, 53), (8, 90, 43), (8, 95, 19), (8, 107, 113), (8, 114, 114), (8, 129, 25), (8, 135, 22), (8, 141, 34), (8, 146, 0), (8, 152, 115), (8, 155, 4), (8, 159, 3), (8, 162, 21), (8, 166, 116), (8, 169, 5), (8, 173, 6), (8, 176, 33), (8, 179, 38), (8, 185, 41), (8, 188, 10), (8, 197, 50), (8, 207, 36), (8, 210, 35), (8, 214, 216), (8, 221, 46), (8, 236, 31), (8, 240, 7), (8, 245, 48), (8, 249, 117), (8, 252, 27), (8, 257, 23), (8, 263, 26), (8, 267, 28), (8, 272, 29), (8, 275, 30), (8, 278, 44), (8, 283, 20), (9, 70, 121), (9, 92, 127), (9, 105, 126), (9, 109, 130), (9, 123, 120), (9, 127, 134), (9, 130, 132), (9, 133, 135), (9, 139, 133), (9, 142, 129), (9, 146, 131), (9, 151, 128), (9, 159, 138), (9, 162, 136), (9, 168, 139), (9, 174, 137), (9, 179, 140), (9, 184, 141), (9, 195, 142), (9, 198, 124), (9, 202, 143), (9, 205, 123), (9, 208, 122), (9, 211, 154), (9, 217, 146), (9, 223, 150), (9, 226, 147), (9, 229, 153), (9, 232, 149), (9, 235, 151), (9, 237, 152), (9, 243, 155), (9, 246, 156), (9, 249, 157), (9, 253, 148), (9, 256, 158), (9, 259, 161), (9, 265, 162), (9, 271, 164), (9, 278, 165), (9, 281, 166), (9, 284, 169), (9, 287, 170), (9, 290, 175), (9, 295, 180), (9, 298, 159), (9, 301, 184), (9, 304, 160), (9, 307, 186), (9, 310, 163), (9, 313, 167), (9, 316, 171), (9, 319, 168), (9, 334, 201), (9, 339, 208), (9, 344, 210), (10, 15, 1), (10, 24, 21), (10, 31, 24), (10, 35, 34), (10, 38, 216), (10, 43, 22), (10, 47, 2), (10, 51, 3), (10, 55, 4), (10, 58, 5), (10, 62, 32), (10, 69, 217), (10, 75, 8), (11, 7, 74), (11, 15, 79), (11, 20, 80), (11, 24, 81), (11, 27, 82), (11, 31, 83), (11, 34, 84), (11, 37, 86), (11, 43, 87), (11, 46, 88), (11, 49, 90), (11, 52, 92), (11, 55, 93), (11, 58, 94), (11, 61, 95), (11, 64, 96), (11, 67, 101), (11, 70, 102), (11, 73, 104), (11, 76, 106), (11, 79, 107), (11, 82, 108), (11, 86, 109), (11, 89, 110), (11, 93, 71), (11, 96, 118), (11, 97, 72), (11, 101, 125), (11, 102, 219), (11, 107, 144), (11, 108, 119), (11, 111, 75), (11, 114, 145), (11, 115, 76), (11, 118, 172), (11, 119, 77), (11, 122, 173), (11, 123, 78), (11, 126, 174), (11, 127, 220), (11, 129, 176), (11, 130, 221), (11, 133, 177), (11, 134, 222), (11, 136, 178), (11, 137, 223), (11, 139, 179), (11, 140, 224), (11, 142, 181), (11, 143, 225), (11, 145, 182), (11, 146, 85), (11, 149, 183), (11, 150, 226), (11, 153, 185), (11, 154, 227), (11, 156, 187), (11, 157, 228), (11, 159, 188), (11, 160, 89), (11, 163, 189), (11, 164, 229), (11, 166, 190), (11, 167, 91), (11, 170, 191), (11, 171, 230), (11, 173, 192), (11, 174, 231), (11, 176, 193), (11, 177, 232), (11, 179, 194), (11, 180, 233), (11, 182, 195), (11, 183, 234), (11, 185, 196), (11, 186, 97), (11, 189, 197), (11, 190, 98), (11, 193, 198), (11, 194, 99), (11, 198, 199), (11, 199, 100), (11, 202, 200), (11, 203, 235), (11, 205, 202), (11, 206, 236), (11, 208, 203), (11, 209, 103), (11, 212, 204), (11, 213, 237), (11, 215, 205), (11, 216, 105), (11, 219, 206), (11, 220, 238), (11, 222, 207), (11, 223, 239), (11, 225, 209), (11, 226, 240), (11, 229, 211), (11, 230, 241), (11, 232, 212), (11, 233, 242), (11, 236, 213), (11, 237, 111), (11, 240, 214), (11, 241, 112), (11, 245, 215)]
def am_nl_ : List (Nat × Nat × Nat) := [(4, 17, 17), (7, 11, 17), (8, 19, 17), (8, 33, 52), (8, 40, 37), (8, 47, 9), (8, 54, 49), (8, 61, 45)]
def am_ol_ : List (Nat × Nat) := [(0, 3), (1, 3), (2, 3), (3, 3), (4, 3), (5, 3), (6, 3), (7, 3), (8, 1), (9, 1)]
def am_il_ : List (Nat × Nat × Int) := [(0, 30, 2147483647), (7, 196, 100000), (9, 116, 1000000), (9, 239, 1000000000), (12, 265, 1431655765), (12, 266, 858993459), (12, 267, 252645135)]
def am_ll_ : List (Nat × Nat × Int) := [(1, 26, -1000000), (1, 28, 1000000), (8, 281, 31), (9, 215, 1000000), (9, 221, 9999), (9, 293, 4), (9, 332, 2), (9, 337, 20), (9, 342, 99), (9, 347, 31)]
def am_ff_ : List (Nat × Nat × Nat) := [(8, 213, 3212836864), (9, 322, 3212836864)]
abbrev am_I : Type := MethodName × Nat × ByteArray × Nat × Option FieldType × List (Nat × Nat × Nat × Nat) × Nat
def am_inf : List am_I := [(⟨"MultiwayCut$Cuts", "keepsApart", "(LMultiwayCut$Graph;I)Z"⟩, 10, prog_2_method_2_code, 4, (some .boolean), [], 1),
  (⟨"MultiwayCut$Cuts", "reachedFrom", "(LMultiwayCut$Graph;II)I"⟩, 10, prog_2_method_3_code, 7, (some .int), [], 1),
  (⟨"MultiwayCut$Cuts", "cheapestSet", "(LMultiwayCut$Graph;IIZ)I"⟩, 10, prog_2_method_4_code, 10, (some .int), [], 1),
  (⟨"MultiwayCut$Cuts", "setOf", "(LMultiwayCut$Graph;I)I"⟩, 10, prog_2_method_5_code, 3, (some .int), [], 1),
  (⟨"MultiwayCut$Cuts", "valueOf", "(LMultiwayCut$Graph;I)I"⟩, 10, prog_2_method_6_code, 2, (some .int), [], 1),
  (⟨"MultiwayCut$Cuts", "dearestOf", "(LMultiwayCut$Graph;)I"⟩, 10, prog_2_method_7_code, 5, (some .int), [], 1),
  (⟨"MultiwayCut$Cuts", "unionOf", "(LMultiwayCut$Graph;)I"⟩, 10, prog_2_method_8_code, 4, (some .int), [], 1),
  (⟨"MultiwayCut$Cuts", "labelByUnion", "(LMultiwayCut$Graph;)V"⟩, 10, prog_2_method_9_code, 3, none, [], 1),
  (⟨"MultiwayCut$Cuts", "labelSet", "(LMultiwayCut$Graph;II)V"⟩, 10, prog_2_method_10_code, 4, none, [], 1),
  (⟨"MultiwayCut$ExactSearch", "<init>", "()V"⟩, 0, prog_3_method_1_code, 1, none, [], 2),
  (⟨"MultiwayCut$ExactSearch", "run", "(LMultiwayCut$Graph;I)V"⟩, 0, prog_3_method_2_code, 3, none, [], 0),
  (⟨"MultiwayCut$ExactSearch", "extend", "(LMultiwayCut$ExactSearch;LMultiwayCut$Graph;III)V"⟩, 0, prog_3_method_3_code, 8, none, [], 1),
  (⟨"MultiwayCut$ExactSearch", "costToEarlier", "(LMultiwayCut$Graph;I)I"⟩, 0, prog_3_method_4_code, 5, (some .int), [], 0),
  (⟨"MultiwayCut$Formula", "<init>", "([I)V"⟩, 1, prog_4_method_1_code, 2, none, [], 2),
  (⟨"MultiwayCut$Formula", "evaluate", "(III)I"⟩, 1, prog_4_method_2_code, 7, (some .int), [], 0),
  (⟨"MultiwayCut$Formula", "operand", "(IIII)I"⟩, 1, prog_4_method_3_code, 4, (some .int), [], 1),
  (⟨"MultiwayCut$Formula", "combine", "(III)I"⟩, 1, prog_4_method_4_code, 5, (some .int), [], 1),
  (⟨"MultiwayCut$Graph", "<init>", "()V"⟩, 2, prog_5_method_1_code, 1, none, [], 2),
  (⟨"MultiwayCut$Graph", "clear", "()V"⟩, 2, prog_5_method_2_code, 1, none, [], 0),
  (⟨"MultiwayCut$Graph", "copyFrom", "(LMultiwayCut$Graph;)V"⟩, 2, prog_5_method_3_code, 2, none, [], 0),
  (⟨"MultiwayCut$Graph", "hasVertex", "(I)Z"⟩, 2, prog_5_method_4_code, 2, (some .boolean), [], 0),
  (⟨"MultiwayCut$Graph", "isTerminal", "(I)Z"⟩, 2, prog_5_method_5_code, 2, (some .boolean), [], 0),
  (⟨"MultiwayCut$Graph", "allVertices", "()I"⟩, 2, prog_5_method_6_code, 1, (some .int), [], 0),
  (⟨"MultiwayCut$Graph", "hasEdgeBetween", "(II)Z"⟩, 2, prog_5_method_7_code, 5, (some .boolean), [], 0),
  (⟨"MultiwayCut$Graph", "endsOf", "(I)I"⟩, 2, prog_5_method_8_code, 2, (some .int), [], 0),
  (⟨"MultiwayCut$Graph", "lengthOf", "(I)I"⟩, 2, prog_5_method_9_code, 2, (some .int), [], 0),
  (⟨"MultiwayCut$Graph", "putEdge", "(III)V"⟩, 2, prog_5_method_10_code, 4, none, [], 0),
  (⟨"MultiwayCut$Graph", "updateCost", "(I)V"⟩, 2, prog_5_method_11_code, 3, none, [], 0),
  (⟨"MultiwayCut$Graph", "dropEdge", "(I)V"⟩, 2, prog_5_method_12_code, 3, none, [], 0),
  (⟨"MultiwayCut$Graph", "startTerminal", "(I)V"⟩, 2, prog_5_method_13_code, 2, none, [], 0),
  (⟨"MultiwayCut$Graph", "endTerminal", "(I)V"⟩, 2, prog_5_method_14_code, 3, none, [], 0),
  (⟨"MultiwayCut$Graph", "takeLabels", "([I)V"⟩, 2, prog_5_method_15_code, 3, none, [], 0),
  (⟨"MultiwayCut$Graph", "borderOf", "(I)I"⟩, 2, prog_5_method_16_code, 4, (some .int), [], 0),
  (⟨"MultiwayCut$Graph", "costOfEdges", "(I)I"⟩, 2, prog_5_method_17_code, 4, (some .int), [], 0),
  (⟨"MultiwayCut$Graph", "costOfSet", "(I)I"⟩, 2, prog_5_method_18_code, 2, (some .int), [], 0),
  (⟨"MultiwayCut$Graph", "presentCut", "()I"⟩, 2, prog_5_method_19_code, 3, (some .int), [], 0),
  (⟨"MultiwayCut$Graph", "presentCost", "()I"⟩, 2, prog_5_method_20_code, 1, (some .int), [], 0),
  (⟨"MultiwayCut$Grouping", "<init>", "()V"⟩, 3, prog_6_method_1_code, 1, none, [], 2),
  (⟨"MultiwayCut$Grouping", "run", "(LMultiwayCut$Graph;)V"⟩, 3, prog_6_method_2_code, 3, none, [], 0),
  (⟨"MultiwayCut$Grouping", "makeRound", "(LMultiwayCut$Graph;)Z"⟩, 3, prog_6_method_3_code, 6, (some .boolean), [], 0),
  (⟨"MultiwayCut$Grouping", "grouped", "()I"⟩, 3, prog_6_method_4_code, 3, (some .int), [], 0),
  (⟨"MultiwayCut$Grouping", "ownerOf", "(I)I"⟩, 3, prog_6_method_5_code, 3, (some .int), [], 0),
  (⟨"MultiwayCut$History", "<init>", "()V"⟩, 4, prog_7_method_1_code, 2, none, [], 2),
  (⟨"MultiwayCut$History", "save", "(LMultiwayCut$Graph;)V"⟩, 4, prog_7_method_2_code, 2, none, [], 0),
  (⟨"MultiwayCut$History", "restore", "(LMultiwayCut$Graph;)I"⟩, 4, prog_7_method_3_code, 2, (some .int), [], 0),
  (⟨"MultiwayCut$MoveSearch", "<init>", "()V"⟩, 5, prog_8_method_1_code, 1, none, [], 2),
  (⟨"MultiwayCut$MoveSearch", "run", "(LMultiwayCut$Graph;)V"⟩, 5, prog_8_method_2_code, 4, none, [], 0),
  (⟨"MultiwayCut$MoveSearch", "consider", "(LMultiwayCut$Graph;II)V"⟩, 5, prog_8_method_3_code, 6, none, [], 0),
  (⟨"MultiwayCut$MoveSearch", "makeImprovement", "(LMultiwayCut$Graph;)Z"⟩, 5, prog_8_method_4_code, 2, (some .boolean), [], 0),
  (⟨"MultiwayCut$NearestSearch", "<init>", "()V"⟩, 6, prog_9_method_1_code, 1, none, [], 2),
  (⟨"MultiwayCut$NearestSearch", "run", "(LMultiwayCut$Graph;)V"⟩, 6, prog_9_method_2_code, 4, none, [], 0),
  (⟨"MultiwayCut$NearestSearch", "offer", "(III)V"⟩, 6, prog_9_method_3_code, 6, none, [], 0),
  (⟨"MultiwayCut$SetupReader", "<init>", "()V"⟩, 7, prog_10_method_1_code, 1, none, [], 2),
  (⟨"MultiwayCut$SetupReader", "read", "([BI)Z"⟩, 7, prog_10_method_2_code, 5, (some .boolean), [], 0),
  (⟨"MultiwayCut$SetupReader", "finish", "()V"⟩, 7, prog_10_method_3_code, 2, none, [], 0),
  (⟨"MultiwayCut$SetupReader", "readGraph", "()Z"⟩, 7, prog_10_method_4_code, 2, (some .boolean), [], 0),
  (⟨"MultiwayCut$SetupReader", "readStatement", "()Z"⟩, 7, prog_10_method_5_code, 1, (some .boolean), [], 0),
  (⟨"MultiwayCut$SetupReader", "readTerminal", "()Z"⟩, 7, prog_10_method_6_code, 2, (some .boolean), [], 0),
  (⟨"MultiwayCut$SetupReader", "readEdge", "()Z"⟩, 7, prog_10_method_7_code, 4, (some .boolean), [], 0),
  (⟨"MultiwayCut$SetupReader", "readLoad", "()Z"⟩, 7, prog_10_method_8_code, 3, (some .boolean), [], 0),
  (⟨"MultiwayCut$SetupReader", "startCost", "()Z"⟩, 7, prog_10_method_9_code, 1, (some .boolean), [], 0),
  (⟨"MultiwayCut$SetupReader", "readSum", "(I)Z"⟩, 7, prog_10_method_10_code, 5, (some .boolean), [], 0),
  (⟨"MultiwayCut$SetupReader", "readTerm", "(I)Z"⟩, 7, prog_10_method_11_code, 5, (some .boolean), [], 0),
  (⟨"MultiwayCut$SetupReader", "readFactor", "(I)Z"⟩, 7, prog_10_method_12_code, 3, (some .boolean), [], 0),
  (⟨"MultiwayCut$SetupReader", "putCode", "(I)V"⟩, 7, prog_10_method_13_code, 2, none, [], 0),
  (⟨"MultiwayCut$SetupReader", "readSymbol", "(I)Z"⟩, 7, prog_10_method_14_code, 2, (some .boolean), [], 0),
  (⟨"MultiwayCut$SetupReader", "vertexHere", "()I"⟩, 7, prog_10_method_15_code, 1, (some .int), [], 0),
  (⟨"MultiwayCut$SetupReader", "numberHere", "(II)I"⟩, 7, prog_10_method_16_code, 3, (some .int), [], 0),
  (⟨"MultiwayCut$SetupReader", "isWord", "(Ljava/lang/String;)Z"⟩, 7, prog_10_method_17_code, 3, (some .boolean), [], 0),
  (⟨"MultiwayCut$SetupReader", "fail", "(I)Z"⟩, 7, prog_10_method_18_code, 2, (some .boolean), [], 0),
  (⟨"MultiwayCut$SetupReader", "advance", "()V"⟩, 7, prog_10_method_19_code, 2, none, [], 0),
  (⟨"MultiwayCut", "<init>", "()V"⟩, 8, prog_1_method_1_code, 1, none, [], 2),
  (⟨"MultiwayCut", "append", "(IIIII)I"⟩, 8, prog_1_method_2_code, 6, (some .int), [], 0),
  (⟨"MultiwayCut", "putWord", "(I)V"⟩, 8, prog_1_method_3_code, 3, none, [], 0),
  (⟨"MultiwayCut", "load", "(I)I"⟩, 8, prog_1_method_4_code, 3, (some .int), [], 0),
  (⟨"MultiwayCut", "errorOffset", "()I"⟩, 8, prog_1_method_5_code, 1, (some .int), [], 0),
  (⟨"MultiwayCut", "size", "()I"⟩, 8, prog_1_method_6_code, 1, (some .int), [], 0),
  (⟨"MultiwayCut", "edgeCount", "()I"⟩, 8, prog_1_method_7_code, 1, (some .int), [], 0),
  (⟨"MultiwayCut", "terminals", "()I"⟩, 8, prog_1_method_8_code, 1, (some .int), [], 0),
  (⟨"MultiwayCut", "burden", "(I)I"⟩, 8, prog_1_method_9_code, 2, (some .int), [], 0),
  (⟨"MultiwayCut", "edge", "(II)I"⟩, 8, prog_1_method_10_code, 3, (some .int), [], 0),
  (⟨"MultiwayCut", "cutCost", "(I)I"⟩, 8, prog_1_method_11_code, 2, (some .int), [], 0),
  (⟨"MultiwayCut", "separates", "(I)Z"⟩, 8, prog_1_method_12_code, 2, (some .boolean), [], 0),
  (⟨"MultiwayCut", "isolatingValue", "(I)I"⟩, 8, prog_1_method_13_code, 2, (some .int), [], 0),
  (⟨"MultiwayCut", "isolatingSet", "(I)I"⟩, 8, prog_1_method_14_code, 2, (some .int), [], 0),
  (⟨"MultiwayCut", "lowerBound", "()I"⟩, 8, prog_1_method_15_code, 3, (some .int), [], 0),
  (⟨"MultiwayCut", "dearest", "()I"⟩, 8, prog_1_method_16_code, 1, (some .int), [], 0),
  (⟨"MultiwayCut", "unionCut", "()I"⟩, 8, prog_1_method_17_code, 1, (some .int), [], 0),
  (⟨"MultiwayCut", "unionCost", "()I"⟩, 8, prog_1_method_18_code, 1, (some .int), [], 0),
  (⟨"MultiwayCut", "rounds", "()I"⟩, 8, prog_1_method_19_code, 1, (some .int), [], 0),
  (⟨"MultiwayCut", "fixed", "(I)I"⟩, 8, prog_1_method_20_code, 2, (some .int), [], 0),
  (⟨"MultiwayCut", "exactCost", "()I"⟩, 8, prog_1_method_21_code, 1, (some .int), [], 0),
  (⟨"MultiwayCut", "exact", "(I)I"⟩, 8, prog_1_method_22_code, 2, (some .int), [], 0),
  (⟨"MultiwayCut", "price", "(I)I"⟩, 8, prog_1_method_23_code, 3, (some .int), [], 0),
  (⟨"MultiwayCut", "nearest", "(I)I"⟩, 8, prog_1_method_24_code, 2, (some .int), [], 0),
  (⟨"MultiwayCut", "distance", "(I)I"⟩, 8, prog_1_method_25_code, 2, (some .int), [], 0),
  (⟨"MultiwayCut", "label", "(I)I"⟩, 8, prog_1_method_26_code, 2, (some .int), [], 0),
  (⟨"MultiwayCut", "cost", "()I"⟩, 8, prog_1_method_27_code, 1, (some .int), [], 0),
  (⟨"MultiwayCut", "cut", "()I"⟩, 8, prog_1_method_28_code, 1, (some .int), [], 0),
  (⟨"MultiwayCut", "ratio", "()F"⟩, 8, prog_1_method_29_code, 3, (some .float), [], 0),
  (⟨"MultiwayCut", "meanCost", "()F"⟩, 8, prog_1_method_30_code, 5, (some .float), [], 0),
  (⟨"MultiwayCut", "bestMove", "(I)I"⟩, 8, prog_1_method_31_code, 2, (some .int), [], 0),
  (⟨"MultiwayCut", "setLabel", "(II)I"⟩, 8, prog_1_method_32_code, 3, (some .int), [], 0),
  (⟨"MultiwayCut", "useNearest", "()I"⟩, 8, prog_1_method_33_code, 1, (some .int), [], 0),
  (⟨"MultiwayCut", "useUnion", "()I"⟩, 8, prog_1_method_34_code, 1, (some .int), [], 0),
  (⟨"MultiwayCut", "useExact", "()I"⟩, 8, prog_1_method_35_code, 1, (some .int), [], 0),
  (⟨"MultiwayCut", "improve", "(I)I"⟩, 8, prog_1_method_36_code, 3, (some .int), [], 0),
  (⟨"MultiwayCut", "setWeight", "(II)I"⟩, 8, prog_1_method_37_code, 4, (some .int), [], 0),
  (⟨"MultiwayCut", "addEdge", "(III)I"⟩, 8, prog_1_method_38_code, 4, (some .int), [], 0),
  (⟨"MultiwayCut", "removeEdge", "(I)I"⟩, 8, prog_1_method_39_code, 2, (some .int), [], 0),
  (⟨"MultiwayCut", "setTerminal", "(IZ)I"⟩, 8, prog_1_method_40_code, 4, (some .int), [], 0),
  (⟨"MultiwayCut", "undo", "()I"⟩, 8, prog_1_method_41_code, 1, (some .int), [], 0),
  (⟨"MultiwayCut", "checksum", "()J"⟩, 8, prog_1_method_42_code, 4, (some .long), [], 0),
  (⟨"MultiwayCut", "requireVertex", "(I)V"⟩, 8, prog_1_method_43_code, 2, none, [], 0),
  (⟨"MultiwayCut", "requireEdge", "(I)V"⟩, 8, prog_1_method_44_code, 2, none, [], 0),
  (⟨"MultiwayCut", "requireTerminal", "(I)V"⟩, 8, prog_1_method_45_code, 2, none, [], 0),
  (⟨"MultiwayCut", "requireSomeTerminal", "()V"⟩, 8, prog_1_method_46_code, 1, none, [], 0),
  (⟨"MultiwayCut", "requireWeight", "(I)V"⟩, 8, prog_1_method_47_code, 2, none, [], 0),
  (⟨"MultiwayCutModel", "<init>", "()V"⟩, 9, prog_12_method_1_code, 1, none, [], 2),
  (⟨"MultiwayCutModel", "thrown", "()I"⟩, 9, prog_12_method_2_code, 1, (some .int), [], 0),
  (⟨"MultiwayCutModel", "isIn", "(JJJ)Z"⟩, 9, prog_12_method_3_code, 6, (some .boolean), [], 1),
  (⟨"MultiwayCutModel", "get", "(I)I"⟩, 9, prog_12_method_4_code, 2, (some .int), [], 0),
  (⟨"MultiwayCutModel", "put", "(II)V"⟩, 9, prog_12_method_5_code, 3, none, [], 0),
  (⟨"MultiwayCutModel", "change", "()V"⟩, 9, prog_12_method_6_code, 3, none, [], 0),
  (⟨"MultiwayCutModel", "right", "(ZI)Z"⟩, 9, prog_12_method_7_code, 3, (some .boolean), [], 0),
  (⟨"MultiwayCutModel", "append", "(IIIII)I"⟩, 9, prog_12_method_8_code, 8, (some .int), [], 0),
  (⟨"MultiwayCutModel", "fails", "(II)V"⟩, 9, prog_12_method_9_code, 3, none, [], 0),
  (⟨"MultiwayCutModel", "sees", "()I"⟩, 9, prog_12_method_10_code, 1, (some .int), [], 0),
  (⟨"MultiwayCutModel", "takes", "(Ljava/lang/String;)Z"⟩, 9, prog_12_method_11_code, 5, (some .boolean), [], 0),
  (⟨"MultiwayCutModel", "wants", "(I)V"⟩, 9, prog_12_method_12_code, 2, none, [], 0),
  (⟨"MultiwayCutModel", "isDigit", "()Z"⟩, 9, prog_12_method_13_code, 1, (some .boolean), [], 0),
  (⟨"MultiwayCutModel", "reads", "(II)I"⟩, 9, prog_12_method_14_code, 4, (some .int), [], 0),
  (⟨"MultiwayCutModel", "codes", "(II)V"⟩, 9, prog_12_method_15_code, 4, none, [], 0),
  (⟨"MultiwayCutModel", "sum", "()V"⟩, 9, prog_12_method_16_code, 2, none, [], 0),
  (⟨"MultiwayCutModel", "term", "()V"⟩, 9, prog_12_method_17_code, 2, none, [], 0),
  (⟨"MultiwayCutModel", "factor", "()V"⟩, 9, prog_12_method_18_code, 2, none, [], 0),
  (⟨"MultiwayCutModel", "readsVertex", "()I"⟩, 9, prog_12_method_19_code, 1, (some .int), [], 0),
  (⟨"MultiwayCutModel", "terminalLine", "(I)V"⟩, 9, prog_12_method_20_code, 3, none, [], 0),
  (⟨"MultiwayCutModel", "bitsOf", "(I)I"⟩, 9, prog_12_method_21_code, 3, (some .int), [], 1),
  (⟨"MultiwayCutModel", "isJoined", "(II)Z"⟩, 9, prog_12_method_22_code, 4, (some .boolean), [], 0),
  (⟨"MultiwayCutModel", "edgeLine", "(I)V"⟩, 9, prog_12_method_23_code, 6, none, [], 0),
  (⟨"MultiwayCutModel", "loadLine", "()V"⟩, 9, prog_12_method_24_code, 3, none, [], 0),
  (⟨"MultiwayCutModel", "statement", "()V"⟩, 9, prog_12_method_25_code, 2, none, [], 0),
  (⟨"MultiwayCutModel", "texts", "()V"⟩, 9, prog_12_method_26_code, 2, none, [], 0),
  (⟨"MultiwayCutModel", "load", "(I)I"⟩, 9, prog_12_method_27_code, 3, (some .int), [], 0),
  (⟨"MultiwayCutModel", "errorOffset", "()I"⟩, 9, prog_12_method_28_code, 1, (some .int), [], 0),
  (⟨"MultiwayCutModel", "within", "(JJ)J"⟩, 9, prog_12_method_29_code, 4, (some .long), [], 1),
  (⟨"MultiwayCutModel", "costOf", "(I)I"⟩, 9, prog_12_method_30_code, 11, (some .int), [], 0),
  (⟨"MultiwayCutModel", "laysCosts", "()V"⟩, 9, prog_12_method_31_code, 2, none, [], 0),
  (⟨"MultiwayCutModel", "count", "()I"⟩, 9, prog_12_method_32_code, 1, (some .int), [], 0),
  (⟨"MultiwayCutModel", "edges", "()I"⟩, 9, prog_12_method_33_code, 1, (some .int), [], 0),
  (⟨"MultiwayCutModel", "low", "(I)I"⟩, 9, prog_12_method_34_code, 2, (some .int), [], 0),
  (⟨"MultiwayCutModel", "high", "(I)I"⟩, 9, prog_12_method_35_code, 2, (some .int), [], 0),
  (⟨"MultiwayCutModel", "has", "(II)Z"⟩, 9, prog_12_method_36_code, 2, (some .boolean), [], 1),
  (⟨"MultiwayCutModel", "isTerminal", "(I)Z"⟩, 9, prog_12_method_37_code, 2, (some .boolean), [], 0),
  (⟨"MultiwayCutModel", "all", "()I"⟩, 9, prog_12_method_38_code, 1, (some .int), [], 0),
  (⟨"MultiwayCutModel", "cutOf", "(I)I"⟩, 9, prog_12_method_39_code, 4, (some .int), [], 0),
  (⟨"MultiwayCutModel", "bestSet", "(IIZ)I"⟩, 9, prog_12_method_40_code, 8, (some .int), [], 0),
  (⟨"MultiwayCutModel", "isolating", "(I)I"⟩, 9, prog_12_method_41_code, 2, (some .int), [], 0),
  (⟨"MultiwayCutModel", "laysIsolating", "()V"⟩, 9, prog_12_method_42_code, 2, none, [], 0),
  (⟨"MultiwayCutModel", "dearestNow", "()I"⟩, 9, prog_12_method_43_code, 3, (some .int), [], 0),
  (⟨"MultiwayCutModel", "othersOf", "(I)I"⟩, 9, prog_12_method_44_code, 4, (some .int), [], 0),
  (⟨"MultiwayCutModel", "goesRound", "()Z"⟩, 9, prog_12_method_45_code, 4, (some .boolean), [], 0),
  (⟨"MultiwayCutModel", "laysGroups", "()V"⟩, 9, prog_12_method_46_code, 2, none, [], 0),
  (⟨"MultiwayCutModel", "costBy", "([I)I"⟩, 9, prog_12_method_47_code, 4, (some .int), [], 0),
  (⟨"MultiwayCutModel", "goesOn", "(I)Z"⟩, 9, prog_12_method_48_code, 4, (some .boolean), [], 0),
  (⟨"MultiwayCutModel", "laysExact", "(I)I"⟩, 9, prog_12_method_49_code, 4, (some .int), [], 0),
  (⟨"MultiwayCutModel", "exactNow", "()I"⟩, 9, prog_12_method_50_code, 1, (some .int), [], 0),
  (⟨"MultiwayCutModel", "costNow", "()I"⟩, 9, prog_12_method_51_code, 2, (some .int), [], 0),
  (⟨"MultiwayCutModel", "lengthOf", "(I)I"⟩, 9, prog_12_method_52_code, 2, (some .int), [], 0),
  (⟨"MultiwayCutModel", "laysFar", "(I)V"⟩, 9, prog_12_method_53_code, 6, none, [], 0),
  (⟨"MultiwayCutModel", "laysNear", "()V"⟩, 9, prog_12_method_54_code, 3, none, [], 0),
  (⟨"MultiwayCutModel", "size", "()I"⟩, 9, prog_12_method_55_code, 1, (some .int), [], 0),
  (⟨"MultiwayCutModel", "edgeCount", "()I"⟩, 9, prog_12_method_56_code, 1, (some .int), [], 0),
  (⟨"MultiwayCutModel", "terminals", "()I"⟩, 9, prog_12_method_57_code, 1, (some .int), [], 0),
  (⟨"MultiwayCutModel", "isVertex", "(I)Z"⟩, 9, prog_12_method_58_code, 2, (some .boolean), [], 0),
  (⟨"MultiwayCutModel", "burden", "(I)I"⟩, 9, prog_12_method_59_code, 2, (some .int), [], 0),
  (⟨"MultiwayCutModel", "edge", "(II)I"⟩, 9, prog_12_method_60_code, 3, (some .int), [], 0),
  (⟨"MultiwayCutModel", "cutCost", "(I)I"⟩, 9, prog_12_method_61_code, 2, (some .int), [], 0),
  (⟨"MultiwayCutModel", "separates", "(I)Z"⟩, 9, prog_12_method_62_code, 5, (some .boolean), [], 0),
  (⟨"MultiwayCutModel", "mustBe", "(I)Z"⟩, 9, prog_12_method_63_code, 2, (some .boolean), [], 0),
  (⟨"MultiwayCutModel", "isolatingValue", "(I)I"⟩, 9, prog_12_method_64_code, 3, (some .int), [], 0),
  (⟨"MultiwayCutModel", "isolatingSet", "(I)I"⟩, 9, prog_12_method_65_code, 2, (some .int), [], 0),
  (⟨"MultiwayCutModel", "lowerBound", "()I"⟩, 9, prog_12_method_66_code, 3, (some .int), [], 0),
  (⟨"MultiwayCutModel", "hasTerminal", "()Z"⟩, 9, prog_12_method_67_code, 1, (some .boolean), [], 0),
  (⟨"MultiwayCutModel", "dearest", "()I"⟩, 9, prog_12_method_68_code, 1, (some .int), [], 0),
  (⟨"MultiwayCutModel", "unionNow", "()I"⟩, 9, prog_12_method_69_code, 5, (some .int), [], 0),
  (⟨"MultiwayCutModel", "unionCut", "()I"⟩, 9, prog_12_method_70_code, 1, (some .int), [], 0),
  (⟨"MultiwayCutModel", "unionCost", "()I"⟩, 9, prog_12_method_71_code, 4, (some .int), [], 0),
  (⟨"MultiwayCutModel", "rounds", "()I"⟩, 9, prog_12_method_72_code, 1, (some .int), [], 0),
  (⟨"MultiwayCutModel", "fixed", "(I)I"⟩, 9, prog_12_method_73_code, 3, (some .int), [], 0),
  (⟨"MultiwayCutModel", "exactCost", "()I"⟩, 9, prog_12_method_74_code, 1, (some .int), [], 0),
  (⟨"MultiwayCutModel", "exact", "(I)I"⟩, 9, prog_12_method_75_code, 3, (some .int), [], 0),
  (⟨"MultiwayCutModel", "price", "(I)I"⟩, 9, prog_12_method_76_code, 3, (some .int), [], 0),
  (⟨"MultiwayCutModel", "nearest", "(I)I"⟩, 9, prog_12_method_77_code, 2, (some .int), [], 0),
  (⟨"MultiwayCutModel", "distance", "(I)I"⟩, 9, prog_12_method_78_code, 2, (some .int), [], 0),
  (⟨"MultiwayCutModel", "label", "(I)I"⟩, 9, prog_12_method_79_code, 2, (some .int), [], 0),
  (⟨"MultiwayCutModel", "cost", "()I"⟩, 9, prog_12_method_80_code, 1, (some .int), [], 0),
  (⟨"MultiwayCutModel", "cut", "()I"⟩, 9, prog_12_method_81_code, 3, (some .int), [], 0),
  (⟨"MultiwayCutModel", "ratio", "()F"⟩, 9, prog_12_method_82_code, 3, (some .float), [], 0),
  (⟨"MultiwayCutModel", "meanCost", "()F"⟩, 9, prog_12_method_83_code, 5, (some .float), [], 0),
  (⟨"MultiwayCutModel", "laysMove", "()V"⟩, 9, prog_12_method_84_code, 5, none, [], 0),
  (⟨"MultiwayCutModel", "bestMove", "(I)I"⟩, 9, prog_12_method_85_code, 2, (some .int), [], 0),
  (⟨"MultiwayCutModel", "setLabel", "(II)I"⟩, 9, prog_12_method_86_code, 4, (some .int), [], 0),
  (⟨"MultiwayCutModel", "useNearest", "()I"⟩, 9, prog_12_method_87_code, 2, (some .int), [], 0),
  (⟨"MultiwayCutModel", "useUnion", "()I"⟩, 9, prog_12_method_88_code, 5, (some .int), [], 0),
  (⟨"MultiwayCutModel", "useExact", "()I"⟩, 9, prog_12_method_89_code, 3, (some .int), [], 0),
  (⟨"MultiwayCutModel", "improve", "(I)I"⟩, 9, prog_12_method_90_code, 3, (some .int), [], 0),
  (⟨"MultiwayCutModel", "isEdge", "(I)Z"⟩, 9, prog_12_method_91_code, 2, (some .boolean), [], 0),
  (⟨"MultiwayCutModel", "setWeight", "(II)I"⟩, 9, prog_12_method_92_code, 4, (some .int), [], 0),
  (⟨"MultiwayCutModel", "areJoined", "(II)Z"⟩, 9, prog_12_method_93_code, 4, (some .boolean), [], 0),
  (⟨"MultiwayCutModel", "addEdge", "(III)I"⟩, 9, prog_12_method_94_code, 5, (some .int), [], 0),
  (⟨"MultiwayCutModel", "removeEdge", "(I)I"⟩, 9, prog_12_method_95_code, 4, (some .int), [], 0),
  (⟨"MultiwayCutModel", "setTerminal", "(IZ)I"⟩, 9, prog_12_method_96_code, 5, (some .int), [], 0),
  (⟨"MultiwayCutModel", "undo", "()I"⟩, 9, prog_12_method_97_code, 1, (some .int), [], 0),
  (⟨"MultiwayCutModel", "checksum", "()J"⟩, 9, prog_12_method_98_code, 5, (some .long), [], 0),
  (⟨"java/lang/Integer", "bitCount", "(I)I"⟩, 12, prog_18_method_49_code, 1, (some .int), [], 1),
  (⟨"java/util/Arrays", "fill", "([II)V"⟩, 13, prog_26_method_103_code, 4, none, [], 1),
  (⟨"java/util/Arrays", "copyOf", "([II)[I"⟩, 13, prog_26_method_123_code, 3, (some (.array .int)), [], 1),
  (⟨"MultiwayCutLaw", "load", "(LMultiwayCut;I[J)I"⟩, 11, method_3_code, 4, (some .int), [(0, 9, 12, 13)], 1),
  (⟨"MultiwayCutLaw", "burden", "(LMultiwayCut;I[J)I"⟩, 11, method_4_code, 4, (some .int), [(0, 9, 12, 18)], 1),
  (⟨"MultiwayCutLaw", "edge", "(LMultiwayCut;II[J)I"⟩, 11, method_5_code, 5, (some .int), [(0, 10, 13, 18), (0, 10, 17, 13)], 1),
  (⟨"MultiwayCutLaw", "cutCost", "(LMultiwayCut;I[J)I"⟩, 11, method_6_code, 4, (some .int), [(0, 9, 12, 13)], 1),
  (⟨"MultiwayCutLaw", "separates", "(LMultiwayCut;I[J)I"⟩, 11, method_7_code, 4, (some .int), [(0, 16, 19, 13)], 1),
  (⟨"MultiwayCutLaw", "isolatingValue", "(LMultiwayCut;I[J)I"⟩, 11, method_8_code, 4, (some .int), [(0, 9, 12, 13)], 1),
  (⟨"MultiwayCutLaw", "isolatingSet", "(LMultiwayCut;I[J)I"⟩, 11, method_9_code, 4, (some .int), [(0, 9, 12, 13)], 1),
  (⟨"MultiwayCutLaw", "dearest", "(LMultiwayCut;[J)I"⟩, 11, method_10_code, 3, (some .int), [(0, 8, 11, 41)], 1),
  (⟨"MultiwayCutLaw", "unionCut", "(LMultiwayCut;[J)I"⟩, 11, method_11_code, 3, (some .int), [(0, 8, 11, 41)], 1),
  (⟨"MultiwayCutLaw", "unionCost", "(LMultiwayCut;[J)I"⟩, 11, method_12_code, 3, (some .int), [(0, 8, 11, 41)], 1),
  (⟨"MultiwayCutLaw", "fixed", "(LMultiwayCut;I[J)I"⟩, 11, method_13_code, 4, (some .int), [(0, 9, 12, 18)], 1),
  (⟨"MultiwayCutLaw", "exact", "(LMultiwayCut;I[J)I"⟩, 11, method_14_code, 4, (some .int), [(0, 9, 12, 18)], 1),
  (⟨"MultiwayCutLaw", "price", "(LMultiwayCut;I[J)I"⟩, 11, method_15_code, 4, (some .int), [(0, 9, 12, 13)], 1),
  (⟨"MultiwayCutLaw", "nearest", "(LMultiwayCut;I[J)I"⟩, 11, method_16_code, 4, (some .int), [(0, 9, 12, 18)], 1),
  (⟨"MultiwayCutLaw", "distance", "(LMultiwayCut;I[J)I"⟩, 11, method_17_code, 4, (some .int), [(0, 9, 12, 18)], 1),
  (⟨"MultiwayCutLaw", "label", "(LMultiwayCut;I[J)I"⟩, 11, method_18_code, 4, (some .int), [(0, 9, 12, 18)], 1),
  (⟨"MultiwayCutLaw", "bestMove", "(LMultiwayCut;I[J)I"⟩, 11, method_19_code, 4, (some .int), [(0, 9, 12, 13)], 1),
  (⟨"MultiwayCutLaw", "setLabel", "(LMultiwayCut;II[J)I"⟩, 11, method_20_code, 5, (some .int), [(0, 10, 13, 18), (0, 10, 17, 13), (0, 10, 21, 41)], 1),
  (⟨"MultiwayCutLaw", "useUnion", "(LMultiwayCut;[J)I"⟩, 11, method_21_code, 3, (some .int), [(0, 8, 11, 41)], 1),
  (⟨"MultiwayCutLaw", "improve", "(LMultiwayCut;I[J)I"⟩, 11, method_22_code, 4, (some .int), [(0, 9, 12, 13)], 1),
  (⟨"MultiwayCutLaw", "setWeight", "(LMultiwayCut;II[J)I"⟩, 11, method_23_code, 5, (some .int), [(0, 10, 13, 18), (0, 10, 17, 13)], 1),
  (⟨"MultiwayCutLaw", "addEdge", "(LMultiwayCut;III[J)I"⟩, 11, method_24_code, 6, (some .int), [(0, 12, 15, 18), (0, 12, 19, 13), (0, 12, 23, 41)], 1),
  (⟨"MultiwayCutLaw", "removeEdge", "(LMultiwayCut;I[J)I"⟩, 11, method_25_code, 4, (some .int), [(0, 9, 12, 18)], 1),
  (⟨"MultiwayCutLaw", "setTerminal", "(LMultiwayCut;IZ[J)I"⟩, 11, method_26_code, 5, (some .int), [(0, 10, 13, 18), (0, 10, 17, 41)], 1),
  (⟨"MultiwayCutLaw", "law", "([I)Z"⟩, 11, code, 9, (some .boolean), [], 1)]
def am_mm_ : List (Nat × Nat × Nat) := [(1, 30, 3), (1, 36, 2), (2, 64, 1), (2, 70, 0), (4, 29, 1), (7, 29, 1), (9, 117, 1), (9, 165, 0), (13, 304, 1)]
def am_sl_ : List (Nat × Nat × Nat) := [(7, 103, 0), (7, 114, 1), (7, 119, 2), (7, 124, 3), (7, 129, 4), (7, 170, 5), (7, 172, 6), (7, 174, 7), (9, 149, 5), (9, 155, 6), (9, 157, 7), (9, 172, 1), (9, 177, 2), (9, 182, 3), (9, 187, 4), (9, 193, 0)]
def am_xl_ : List (Nat × Nat × Nat × Nat × Nat × String) := [(8, 73, 75, 77, 1, "length is not within the input buffer"), (8, 73, 133, 77, 1, "what is not 0 to 4"), (8, 73, 139, 77, 1, "this is no set of vertices"), (8, 73, 144, 77, 1, "this is no set of edges"), (8, 73, 219, 77, 1, "what is not 0 to 2"), (8, 73, 243, 77, 1, "most is not 1 to 20"), (8, 73, 255, 77, 1, "an edge has two different ends"), (8, 73, 293, 77, 1, "this is no terminal"), (8, 73, 297, 77, 1, "weight is not 1 to 99"), (8, 231, 233, 235, 3, "a terminal keeps itself"), (8, 231, 261, 235, 3, "there is no room for this edge"), (8, 231, 270, 235, 3, "there are 5 terminals already"), (8, 231, 295, 235, 3, "there is no terminal"), (8, 286, 288, 290, 2, "there is no such vertex"), (8, 286, 291, 290, 2, "there is no such edge")]
def am_al_ : List (Nat × Nat) := [(0, 40), (2, 50), (13, 150)]
def am_s1_ : List (Nat × Nat) := [(7, 182), (9, 96)]
def am_s2_ : List (Nat × Nat) := [(7, 186), (9, 101)]
def am_txt (j : Nat) : String := match j with
  | 0 => "graph"
  | 1 => "terminal"
  | 2 => "edge"
  | 3 => "load"
  | 4 => "cost"
  | 5 => "weight"
  | 6 => "low"
  | _ => "high"
