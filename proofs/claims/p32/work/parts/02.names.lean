def RX0 : String := "CountedCells$Cells"
def TX0 : u_T := fun k => match k with
  | _ => ("", "", "", false)
def tyX0 : Nat → FieldType := fun k => match k with
  | _ => .int
abbrev wsX00 : List Cond := u_ws RX0 TX0 0
theorem nmX0 : ∀ a, a < 0 → ∀ b, b < 0 → a ≠ b → (TX0 a).2.1 ≠ (TX0 b).2.1 := by decide +kernel
theorem tyX0_ok : ∀ k, k < 0 → parseFieldDescriptor (TX0 k).2.2.1 = some (tyX0 k) := by decide +kernel
abbrev cX0_bit : ByteArray := prog_2_method_2_code
def yX0_bit : MethodName := ⟨RX0, "bit", "(II)J"⟩
abbrev cX0_rowMask : ByteArray := prog_2_method_3_code
def yX0_rowMask : MethodName := ⟨RX0, "rowMask", "(I)J"⟩
abbrev cX0_columnMask : ByteArray := prog_2_method_4_code
def yX0_columnMask : MethodName := ⟨RX0, "columnMask", "(I)J"⟩
abbrev cX0_inRow : ByteArray := prog_2_method_5_code
def yX0_inRow : MethodName := ⟨RX0, "inRow", "(JI)I"⟩
abbrev cX0_rowAt : ByteArray := prog_2_method_6_code
def yX0_rowAt : MethodName := ⟨RX0, "rowAt", "(I)I"⟩
abbrev cX0_columnAt : ByteArray := prog_2_method_7_code
def yX0_columnAt : MethodName := ⟨RX0, "columnAt", "(I)I"⟩
abbrev cX0_code : ByteArray := prog_2_method_8_code
def yX0_code : MethodName := ⟨RX0, "code", "(I)I"⟩
abbrev cX0_firstPosition : ByteArray := prog_2_method_9_code
def yX0_firstPosition : MethodName := ⟨RX0, "firstPosition", "(J)I"⟩
abbrev cX0_outline : ByteArray := prog_2_method_10_code
def yX0_outline : MethodName := ⟨RX0, "outline", "(JJ)I"⟩
abbrev cX0_countRuns : ByteArray := prog_2_method_11_code
def yX0_countRuns : MethodName := ⟨RX0, "countRuns", "(JI)I"⟩
abbrev cX0_longestRun : ByteArray := prog_2_method_12_code
def yX0_longestRun : MethodName := ⟨RX0, "longestRun", "(JI)I"⟩
abbrev cX0_countRowsOf : ByteArray := prog_2_method_13_code
def yX0_countRowsOf : MethodName := ⟨RX0, "countRowsOf", "(J)I"⟩
abbrev cX0_countColumnsOf : ByteArray := prog_2_method_14_code
def yX0_countColumnsOf : MethodName := ⟨RX0, "countColumnsOf", "(J)I"⟩
abbrev cX0_firstPiece : ByteArray := prog_2_method_15_code
def yX0_firstPiece : MethodName := ⟨RX0, "firstPiece", "(J)J"⟩
abbrev cX0_countPieces : ByteArray := prog_2_method_16_code
def yX0_countPieces : MethodName := ⟨RX0, "countPieces", "(J)I"⟩
abbrev cX0_pieceNumbered : ByteArray := prog_2_method_17_code
def yX0_pieceNumbered : MethodName := ⟨RX0, "pieceNumbered", "(JI)J"⟩
abbrev cX0_pieceNumber : ByteArray := prog_2_method_18_code
def yX0_pieceNumber : MethodName := ⟨RX0, "pieceNumber", "(JJ)I"⟩
abbrev cX0_hull : ByteArray := prog_2_method_19_code
def yX0_hull : MethodName := ⟨RX0, "hull", "(J)J"⟩
abbrev cX0_between : ByteArray := prog_2_method_20_code
def yX0_between : MethodName := ⟨RX0, "between", "(JI)J"⟩
abbrev cX0_withinLines : ByteArray := prog_2_method_21_code
def yX0_withinLines : MethodName := ⟨RX0, "withinLines", "(J)J"⟩
abbrev cX0_corners : ByteArray := prog_2_method_22_code
def yX0_corners : MethodName := ⟨RX0, "corners", "(IIII)J"⟩
abbrev cX0_cornersOf : ByteArray := prog_2_method_23_code
def yX0_cornersOf : MethodName := ⟨RX0, "cornersOf", "(I)J"⟩
def RX1 : String := "CountedCells$Digits"
def TX1 : u_T := fun k => match k with
  | _ => ("", "", "", false)
def tyX1 : Nat → FieldType := fun k => match k with
  | _ => .int
abbrev wsX10 : List Cond := u_ws RX1 TX1 0
theorem nmX1 : ∀ a, a < 0 → ∀ b, b < 0 → a ≠ b → (TX1 a).2.1 ≠ (TX1 b).2.1 := by decide +kernel
theorem tyX1_ok : ∀ k, k < 0 → parseFieldDescriptor (TX1 k).2.2.1 = some (tyX1 k) := by decide +kernel
abbrev cX1_digit : ByteArray := prog_3_method_2_code
def yX1_digit : MethodName := ⟨RX1, "digit", "(JI)I"⟩
abbrev cX1_changed : ByteArray := prog_3_method_3_code
def yX1_changed : MethodName := ⟨RX1, "changed", "(JII)J"⟩
abbrev cX1_total : ByteArray := prog_3_method_4_code
def yX1_total : MethodName := ⟨RX1, "total", "(J)I"⟩
def RX2 : String := "CountedCells$Fitter"
def TX2 : u_T := fun k => match k with
  | 0 => ("CountedCells$Fitter", "waysToRows", "[J", true)
  | 1 => ("CountedCells$Fitter", "cells", "J", false)
  | _ => ("CountedCells$Fitter", "free", "J", false)
def tyX2 : Nat → FieldType := fun k => match k with
  | 0 => .array .long
  | 1 => .long
  | _ => .long
abbrev wsX20 : List Cond := u_ws RX2 TX2 3
theorem nmX2 : ∀ a, a < 3 → ∀ b, b < 3 → a ≠ b → (TX2 a).2.1 ≠ (TX2 b).2.1 := by decide +kernel
theorem tyX2_ok : ∀ k, k < 3 → parseFieldDescriptor (TX2 k).2.2.1 = some (tyX2 k) := by decide +kernel
abbrev cX2_init : ByteArray := prog_4_method_1_code
def yX2_init : MethodName := ⟨RX2, "<init>", "()V"⟩
abbrev cX2_found : ByteArray := prog_4_method_2_code
def yX2_found : MethodName := ⟨RX2, "found", "()J"⟩
abbrev cX2_findOutermost : ByteArray := prog_4_method_3_code
def yX2_findOutermost : MethodName := ⟨RX2, "findOutermost", "(LCountedCells$Picture;Z)Z"⟩
abbrev cX2_findBehind : ByteArray := prog_4_method_4_code
def yX2_findBehind : MethodName := ⟨RX2, "findBehind", "(LCountedCells$Picture;)Z"⟩
abbrev cX2_advance : ByteArray := prog_4_method_5_code
def yX2_advance : MethodName := ⟨RX2, "advance", "(LCountedCells$Picture;)Z"⟩
abbrev cX2_sureCells : ByteArray := prog_4_method_6_code
def yX2_sureCells : MethodName := ⟨RX2, "sureCells", "(LCountedCells$Picture;)J"⟩
abbrev cX2_build : ByteArray := prog_4_method_7_code
def yX2_build : MethodName := ⟨RX2, "build", "(LCountedCells$Picture;JJ)Z"⟩
abbrev cX2_hasTooFullLine : ByteArray := prog_4_method_8_code
def yX2_hasTooFullLine : MethodName := ⟨RX2, "hasTooFullLine", "(LCountedCells$Picture;)Z"⟩
abbrev cX2_columnsWithRoom : ByteArray := prog_4_method_9_code
def yX2_columnsWithRoom : MethodName := ⟨RX2, "columnsWithRoom", "(LCountedCells$Picture;)I"⟩
abbrev cX2_settle : ByteArray := prog_4_method_10_code
def yX2_settle : MethodName := ⟨RX2, "settle", "(Z)V"⟩
abbrev cX2_change : ByteArray := prog_4_method_11_code
def yX2_change : MethodName := ⟨RX2, "change", "(I)Z"⟩
abbrev cX2_shift : ByteArray := prog_4_method_12_code
def yX2_shift : MethodName := ⟨RX2, "shift", "(IIJJ)Z"⟩
abbrev cX2_enterRows : ByteArray := prog_4_method_13_code
def yX2_enterRows : MethodName := ⟨RX2, "enterRows", "(IJJI)I"⟩
abbrev cX2_wayToRow : ByteArray := prog_4_method_14_code
def yX2_wayToRow : MethodName := ⟨RX2, "wayToRow", "(I)J"⟩
abbrev cX2_forgetWays : ByteArray := prog_4_method_15_code
def yX2_forgetWays : MethodName := ⟨RX2, "forgetWays", "()V"⟩
def RX3 : String := "CountedCells$History"
def TX3 : u_T := fun k => match k with
  | 0 => ("CountedCells$History", "states", "[LCountedCells$Picture;", true)
  | _ => ("CountedCells$History", "many", "I", false)
def tyX3 : Nat → FieldType := fun k => match k with
  | 0 => .array (.object "CountedCells$Picture")
  | _ => .int
abbrev wsX30 : List Cond := u_ws RX3 TX3 2
theorem nmX3 : ∀ a, a < 2 → ∀ b, b < 2 → a ≠ b → (TX3 a).2.1 ≠ (TX3 b).2.1 := by decide +kernel
theorem tyX3_ok : ∀ k, k < 2 → parseFieldDescriptor (TX3 k).2.2.1 = some (tyX3 k) := by decide +kernel
abbrev cX3_init : ByteArray := prog_5_method_1_code
def yX3_init : MethodName := ⟨RX3, "<init>", "()V"⟩
abbrev cX3_isEmpty : ByteArray := prog_5_method_2_code
def yX3_isEmpty : MethodName := ⟨RX3, "isEmpty", "()Z"⟩
abbrev cX3_forgetAll : ByteArray := prog_5_method_3_code
def yX3_forgetAll : MethodName := ⟨RX3, "forgetAll", "()V"⟩
abbrev cX3_remember : ByteArray := prog_5_method_4_code
def yX3_remember : MethodName := ⟨RX3, "remember", "(LCountedCells$Picture;)V"⟩
abbrev cX3_forgetOldest : ByteArray := prog_5_method_5_code
def yX3_forgetOldest : MethodName := ⟨RX3, "forgetOldest", "()V"⟩
abbrev cX3_takeBack : ByteArray := prog_5_method_6_code
def yX3_takeBack : MethodName := ⟨RX3, "takeBack", "(LCountedCells$Picture;)I"⟩
def RX4 : String := "CountedCells$Picture"
def TX4 : u_T := fun k => match k with
  | 0 => ("CountedCells$Picture", "rows", "I", false)
  | 1 => ("CountedCells$Picture", "columns", "I", false)
  | 2 => ("CountedCells$Picture", "filled", "J", false)
  | 3 => ("CountedCells$Picture", "pinned", "J", false)
  | 4 => ("CountedCells$Picture", "rowWants", "J", false)
  | _ => ("CountedCells$Picture", "columnWants", "J", false)
def tyX4 : Nat → FieldType := fun k => match k with
  | 0 => .int
  | 1 => .int
  | 2 => .long
  | 3 => .long
  | 4 => .long
  | _ => .long
abbrev wsX40 : List Cond := u_ws RX4 TX4 6
theorem nmX4 : ∀ a, a < 6 → ∀ b, b < 6 → a ≠ b → (TX4 a).2.1 ≠ (TX4 b).2.1 := by decide +kernel
theorem tyX4_ok : ∀ k, k < 6 → parseFieldDescriptor (TX4 k).2.2.1 = some (tyX4 k) := by decide +kernel
abbrev cX4_init : ByteArray := prog_6_method_1_code
def yX4_init : MethodName := ⟨RX4, "<init>", "()V"⟩
abbrev cX4_copyFrom : ByteArray := prog_6_method_2_code
def yX4_copyFrom : MethodName := ⟨RX4, "copyFrom", "(LCountedCells$Picture;)V"⟩
abbrev cX4_hasCell : ByteArray := prog_6_method_4_code
def yX4_hasCell : MethodName := ⟨RX4, "hasCell", "(II)Z"⟩
abbrev cX4_hasLine : ByteArray := prog_6_method_5_code
def yX4_hasLine : MethodName := ⟨RX4, "hasLine", "(I)Z"⟩
abbrev cX4_board : ByteArray := prog_6_method_6_code
def yX4_board : MethodName := ⟨RX4, "board", "()J"⟩
abbrev cX4_lineMask : ByteArray := prog_6_method_7_code
def yX4_lineMask : MethodName := ⟨RX4, "lineMask", "(I)J"⟩
abbrev cX4_stepIn : ByteArray := prog_6_method_8_code
def yX4_stepIn : MethodName := ⟨RX4, "stepIn", "(I)I"⟩
abbrev cX4_countFilled : ByteArray := prog_6_method_9_code
def yX4_countFilled : MethodName := ⟨RX4, "countFilled", "()I"⟩
abbrev cX4_countOf : ByteArray := prog_6_method_10_code
def yX4_countOf : MethodName := ⟨RX4, "countOf", "(I)I"⟩
abbrev cX4_wantedOf : ByteArray := prog_6_method_11_code
def yX4_wantedOf : MethodName := ⟨RX4, "wantedOf", "(I)I"⟩
abbrev cX4_wantedOfRows : ByteArray := prog_6_method_12_code
def yX4_wantedOfRows : MethodName := ⟨RX4, "wantedOfRows", "()I"⟩
abbrev cX4_wantedOfColumns : ByteArray := prog_6_method_13_code
def yX4_wantedOfColumns : MethodName := ⟨RX4, "wantedOfColumns", "()I"⟩
abbrev cX4_countWrongLines : ByteArray := prog_6_method_14_code
def yX4_countWrongLines : MethodName := ⟨RX4, "countWrongLines", "()I"⟩
abbrev cX4_isPinned : ByteArray := prog_6_method_15_code
def yX4_isPinned : MethodName := ⟨RX4, "isPinned", "(II)Z"⟩
abbrev cX4_setFilled : ByteArray := prog_6_method_16_code
def yX4_setFilled : MethodName := ⟨RX4, "setFilled", "(IIZ)Z"⟩
abbrev cX4_setPinned : ByteArray := prog_6_method_17_code
def yX4_setPinned : MethodName := ⟨RX4, "setPinned", "(IIZ)Z"⟩
abbrev cX4_setWanted : ByteArray := prog_6_method_18_code
def yX4_setWanted : MethodName := ⟨RX4, "setWanted", "(II)I"⟩
abbrev cX4_wantTheCounts : ByteArray := prog_6_method_19_code
def yX4_wantTheCounts : MethodName := ⟨RX4, "wantTheCounts", "()I"⟩
abbrev cX4_refill : ByteArray := prog_6_method_20_code
def yX4_refill : MethodName := ⟨RX4, "refill", "(J)I"⟩
abbrev cX4_cutTo : ByteArray := prog_6_method_21_code
def yX4_cutTo : MethodName := ⟨RX4, "cutTo", "(II)V"⟩
abbrev cX4_turnQuarter : ByteArray := prog_6_method_22_code
def yX4_turnQuarter : MethodName := ⟨RX4, "turnQuarter", "()V"⟩
abbrev cX4_canExchange : ByteArray := prog_6_method_23_code
def yX4_canExchange : MethodName := ⟨RX4, "canExchange", "(IIII)Z"⟩
abbrev cX4_countExchanges : ByteArray := prog_6_method_24_code
def yX4_countExchanges : MethodName := ⟨RX4, "countExchanges", "()I"⟩
abbrev cX4_countExchangesOf : ByteArray := prog_6_method_25_code
def yX4_countExchangesOf : MethodName := ⟨RX4, "countExchangesOf", "(II)I"⟩
abbrev cX4_exchangeNumbered : ByteArray := prog_6_method_26_code
def yX4_exchangeNumbered : MethodName := ⟨RX4, "exchangeNumbered", "(I)I"⟩
abbrev cX4_exchangedColumns : ByteArray := prog_6_method_27_code
def yX4_exchangedColumns : MethodName := ⟨RX4, "exchangedColumns", "(III)I"⟩
def RX5 : String := "CountedCells$Slots"
def TX5 : u_T := fun k => match k with
  | 0 => ("CountedCells$Slots", "states", "[LCountedCells$Picture;", true)
  | _ => ("CountedCells$Slots", "used", "[Z", true)
def tyX5 : Nat → FieldType := fun k => match k with
  | 0 => .array (.object "CountedCells$Picture")
  | _ => .array .boolean
abbrev wsX50 : List Cond := u_ws RX5 TX5 2
theorem nmX5 : ∀ a, a < 2 → ∀ b, b < 2 → a ≠ b → (TX5 a).2.1 ≠ (TX5 b).2.1 := by decide +kernel
theorem tyX5_ok : ∀ k, k < 2 → parseFieldDescriptor (TX5 k).2.2.1 = some (tyX5 k) := by decide +kernel
abbrev cX5_init : ByteArray := prog_7_method_1_code
def yX5_init : MethodName := ⟨RX5, "<init>", "()V"⟩
abbrev cX5_has : ByteArray := prog_7_method_3_code
def yX5_has : MethodName := ⟨RX5, "has", "(I)Z"⟩
abbrev cX5_put : ByteArray := prog_7_method_4_code
def yX5_put : MethodName := ⟨RX5, "put", "(ILCountedCells$Picture;)V"⟩
abbrev cX5_bringBack : ByteArray := prog_7_method_5_code
def yX5_bringBack : MethodName := ⟨RX5, "bringBack", "(ILCountedCells$Picture;)V"⟩
def RX6 : String := "CountedCells$Text"
def TX6 : u_T := fun k => match k with
  | 0 => ("CountedCells$Text", "signs", "[C", true)
  | _ => ("CountedCells$Text", "length", "I", false)
def tyX6 : Nat → FieldType := fun k => match k with
  | 0 => .array .char
  | _ => .int
abbrev wsX60 : List Cond := u_ws RX6 TX6 2
theorem nmX6 : ∀ a, a < 2 → ∀ b, b < 2 → a ≠ b → (TX6 a).2.1 ≠ (TX6 b).2.1 := by decide +kernel
theorem tyX6_ok : ∀ k, k < 2 → parseFieldDescriptor (TX6 k).2.2.1 = some (tyX6 k) := by decide +kernel
abbrev cX6_init : ByteArray := prog_8_method_1_code
def yX6_init : MethodName := ⟨RX6, "<init>", "()V"⟩
def RX7 : String := "CountedCells"
def TX7 : u_T := fun k => match k with
  | 0 => ("CountedCells", "text", "LCountedCells$Text;", true)
  | 1 => ("CountedCells", "picture", "LCountedCells$Picture;", true)
  | 2 => ("CountedCells", "copy", "LCountedCells$Picture;", true)
  | 3 => ("CountedCells", "history", "LCountedCells$History;", true)
  | 4 => ("CountedCells", "slots", "LCountedCells$Slots;", true)
  | 5 => ("CountedCells", "fitter", "LCountedCells$Fitter;", true)
  | _ => ("CountedCells", "tallies", "[I", true)
def tyX7 : Nat → FieldType := fun k => match k with
  | 0 => .object "CountedCells$Text"
  | 1 => .object "CountedCells$Picture"
  | 2 => .object "CountedCells$Picture"
  | 3 => .object "CountedCells$History"
  | 4 => .object "CountedCells$Slots"
  | 5 => .object "CountedCells$Fitter"
  | _ => .array .int
abbrev wsX70 : List Cond := u_ws RX7 TX7 7
theorem nmX7 : ∀ a, a < 7 → ∀ b, b < 7 → a ≠ b → (TX7 a).2.1 ≠ (TX7 b).2.1 := by decide +kernel
theorem tyX7_ok : ∀ k, k < 7 → parseFieldDescriptor (TX7 k).2.2.1 = some (tyX7 k) := by decide +kernel
abbrev cX7_init : ByteArray := prog_1_method_1_code
def yX7_init : MethodName := ⟨RX7, "<init>", "()V"⟩
abbrev cX7_about : ByteArray := prog_1_method_6_code
def yX7_about : MethodName := ⟨RX7, "about", "(I)I"⟩
abbrev cX7_line : ByteArray := prog_1_method_7_code
def yX7_line : MethodName := ⟨RX7, "line", "(II)I"⟩
abbrev cX7_cell : ByteArray := prog_1_method_8_code
def yX7_cell : MethodName := ⟨RX7, "cell", "(III)I"⟩
abbrev cX7_piece : ByteArray := prog_1_method_9_code
def yX7_piece : MethodName := ⟨RX7, "piece", "(II)I"⟩
abbrev cX7_exchangeAt : ByteArray := prog_1_method_10_code
def yX7_exchangeAt : MethodName := ⟨RX7, "exchangeAt", "(I)I"⟩
abbrev cX7_whyNot : ByteArray := prog_1_method_11_code
def yX7_whyNot : MethodName := ⟨RX7, "whyNot", "(I)I"⟩
abbrev cX7_resize : ByteArray := prog_1_method_12_code
def yX7_resize : MethodName := ⟨RX7, "resize", "(II)I"⟩
abbrev cX7_fill : ByteArray := prog_1_method_13_code
def yX7_fill : MethodName := ⟨RX7, "fill", "(IIZ)Z"⟩
abbrev cX7_pin : ByteArray := prog_1_method_14_code
def yX7_pin : MethodName := ⟨RX7, "pin", "(IIZ)Z"⟩
abbrev cX7_want : ByteArray := prog_1_method_15_code
def yX7_want : MethodName := ⟨RX7, "want", "(II)I"⟩
abbrev cX7_wantAll : ByteArray := prog_1_method_16_code
def yX7_wantAll : MethodName := ⟨RX7, "wantAll", "()I"⟩
abbrev cX7_exchange : ByteArray := prog_1_method_17_code
def yX7_exchange : MethodName := ⟨RX7, "exchange", "(IIII)I"⟩
abbrev cX7_solve : ByteArray := prog_1_method_18_code
def yX7_solve : MethodName := ⟨RX7, "solve", "(I)I"⟩
abbrev cX7_next : ByteArray := prog_1_method_19_code
def yX7_next : MethodName := ⟨RX7, "next", "()I"⟩
abbrev cX7_turn : ByteArray := prog_1_method_20_code
def yX7_turn : MethodName := ⟨RX7, "turn", "()I"⟩
abbrev cX7_undo : ByteArray := prog_1_method_21_code
def yX7_undo : MethodName := ⟨RX7, "undo", "()I"⟩
abbrev cX7_howMany : ByteArray := prog_1_method_22_code
def yX7_howMany : MethodName := ⟨RX7, "howMany", "()I"⟩
abbrev cX7_sure : ByteArray := prog_1_method_23_code
def yX7_sure : MethodName := ⟨RX7, "sure", "(Z)I"⟩
abbrev cX7_split : ByteArray := prog_1_method_24_code
def yX7_split : MethodName := ⟨RX7, "split", "()I"⟩
abbrev cX7_nearest : ByteArray := prog_1_method_25_code
def yX7_nearest : MethodName := ⟨RX7, "nearest", "()I"⟩
abbrev cX7_bestExchange : ByteArray := prog_1_method_26_code
def yX7_bestExchange : MethodName := ⟨RX7, "bestExchange", "()I"⟩
abbrev cX7_save : ByteArray := prog_1_method_29_code
def yX7_save : MethodName := ⟨RX7, "save", "(I)I"⟩
abbrev cX7_restore : ByteArray := prog_1_method_30_code
def yX7_restore : MethodName := ⟨RX7, "restore", "(I)I"⟩
abbrev cX7_checkLine : ByteArray := prog_1_method_31_code
def yX7_checkLine : MethodName := ⟨RX7, "checkLine", "(I)V"⟩
abbrev cX7_checkCell : ByteArray := prog_1_method_32_code
def yX7_checkCell : MethodName := ⟨RX7, "checkCell", "(II)V"⟩
abbrev cX7_checkSlot : ByteArray := prog_1_method_33_code
def yX7_checkSlot : MethodName := ⟨RX7, "checkSlot", "(I)V"⟩
abbrev cX7_oneIf : ByteArray := prog_1_method_34_code
def yX7_oneIf : MethodName := ⟨RX7, "oneIf", "(Z)I"⟩
abbrev cX7_countFitting : ByteArray := prog_1_method_35_code
def yX7_countFitting : MethodName := ⟨RX7, "countFitting", "()I"⟩
abbrev cX7_tallyFitting : ByteArray := prog_1_method_36_code
def yX7_tallyFitting : MethodName := ⟨RX7, "tallyFitting", "()V"⟩
abbrev cX7_bestParted : ByteArray := prog_1_method_37_code
def yX7_bestParted : MethodName := ⟨RX7, "bestParted", "(I)I"⟩
abbrev cX7_leastDistance : ByteArray := prog_1_method_38_code
def yX7_leastDistance : MethodName := ⟨RX7, "leastDistance", "()I"⟩
def RX8 : String := "CountedCellsModel"
def TX8 : u_T := fun k => match k with
  | _ => ("", "", "", false)
def tyX8 : Nat → FieldType := fun k => match k with
  | _ => .int
abbrev wsX80 : List Cond := u_ws RX8 TX8 0
theorem nmX8 : ∀ a, a < 0 → ∀ b, b < 0 → a ≠ b → (TX8 a).2.1 ≠ (TX8 b).2.1 := by decide +kernel
theorem tyX8_ok : ∀ k, k < 0 → parseFieldDescriptor (TX8 k).2.2.1 = some (tyX8 k) := by decide +kernel
def RJ6 : String := "java/lang/Integer"
def TJ6 : u_T := fun k => match k with
  | _ => ("", "", "", false)
def tyJ6 : Nat → FieldType := fun k => match k with
  | _ => .int
abbrev wsJ60 : List Cond := u_ws RJ6 TJ6 0
theorem nmJ6 : ∀ a, a < 0 → ∀ b, b < 0 → a ≠ b → (TJ6 a).2.1 ≠ (TJ6 b).2.1 := by decide +kernel
theorem tyJ6_ok : ∀ k, k < 0 → parseFieldDescriptor (TJ6 k).2.2.1 = some (tyJ6 k) := by decide +kernel
abbrev cJ6_bitCount_0f7a4 : ByteArray := prog_15_method_49_code
def yJ6_bitCount_0f7a4 : MethodName := ⟨RJ6, "bitCount", "(I)I"⟩
def RJ13 : String := "java/lang/Long"
def TJ13 : u_T := fun k => match k with
  | _ => ("", "", "", false)
def tyJ13 : Nat → FieldType := fun k => match k with
  | _ => .int
abbrev wsJ130 : List Cond := u_ws RJ13 TJ13 0
theorem nmJ13 : ∀ a, a < 0 → ∀ b, b < 0 → a ≠ b → (TJ13 a).2.1 ≠ (TJ13 b).2.1 := by decide +kernel
theorem tyJ13_ok : ∀ k, k < 0 → parseFieldDescriptor (TJ13 k).2.2.1 = some (tyJ13 k) := by decide +kernel
abbrev cJ13_bitCount_95d88 : ByteArray := prog_16_method_50_code
def yJ13_bitCount_95d88 : MethodName := ⟨RJ13, "bitCount", "(J)I"⟩
def RJ9 : String := "java/lang/Math"
def TJ9 : u_T := fun k => match k with
  | _ => ("", "", "", false)
def tyJ9 : Nat → FieldType := fun k => match k with
  | _ => .int
abbrev wsJ90 : List Cond := u_ws RJ9 TJ9 0
theorem nmJ9 : ∀ a, a < 0 → ∀ b, b < 0 → a ≠ b → (TJ9 a).2.1 ≠ (TJ9 b).2.1 := by decide +kernel
theorem tyJ9_ok : ∀ k, k < 0 → parseFieldDescriptor (TJ9 k).2.2.1 = some (tyJ9 k) := by decide +kernel
abbrev cJ9_min_7cf53 : ByteArray := prog_17_method_69_code
def yJ9_min_7cf53 : MethodName := ⟨RJ9, "min", "(II)I"⟩
def RJ0 : String := "java/lang/String"
def TJ0 : u_T := fun k => match k with
  | _ => ("", "", "", false)
def tyJ0 : Nat → FieldType := fun k => match k with
  | _ => .int
abbrev wsJ00 : List Cond := u_ws RJ0 TJ0 0
theorem nmJ0 : ∀ a, a < 0 → ∀ b, b < 0 → a ≠ b → (TJ0 a).2.1 ≠ (TJ0 b).2.1 := by decide +kernel
theorem tyJ0_ok : ∀ k, k < 0 → parseFieldDescriptor (TJ0 k).2.2.1 = some (tyJ0 k) := by decide +kernel
def RL : String := "CountedCellsLaw"
abbrev cL_cell : ByteArray := method_2_code
def yL_cell : MethodName := ⟨RL, "cell", "([II)I"⟩
abbrev cL_up : ByteArray := method_3_code
def yL_up : MethodName := ⟨RL, "up", "(II)I"⟩
abbrev cL_ones : ByteArray := method_4_code
def yL_ones : MethodName := ⟨RL, "ones", "(J)I"⟩
abbrev cL_solveOr : ByteArray := method_5_code
def yL_solveOr : MethodName := ⟨RL, "solveOr", "(LCountedCells;I)I"⟩
abbrev cL_nextOr : ByteArray := method_6_code
def yL_nextOr : MethodName := ⟨RL, "nextOr", "(LCountedCells;)I"⟩
abbrev cL_nearestOr : ByteArray := method_7_code
def yL_nearestOr : MethodName := ⟨RL, "nearestOr", "(LCountedCells;)I"⟩
abbrev cL_undoOr : ByteArray := method_8_code
def yL_undoOr : MethodName := ⟨RL, "undoOr", "(LCountedCells;)I"⟩
abbrev cL_bits : ByteArray := method_9_code
def yL_bits : MethodName := ⟨RL, "bits", "(LCountedCells;I)J"⟩
abbrev cL_at : ByteArray := method_10_code
def yL_at : MethodName := ⟨RL, "at", "(JII)I"⟩
abbrev cL_lines : ByteArray := method_11_code
def yL_lines : MethodName := ⟨RL, "lines", "(LCountedCells;)Z"⟩
abbrev cL_pieces : ByteArray := method_12_code
def yL_pieces : MethodName := ⟨RL, "pieces", "(LCountedCells;)Z"⟩
abbrev cL_hull : ByteArray := method_13_code
def yL_hull : MethodName := ⟨RL, "hull", "(LCountedCells;)Z"⟩
abbrev cL_exchanges : ByteArray := method_14_code
def yL_exchanges : MethodName := ⟨RL, "exchanges", "(LCountedCells;I)Z"⟩
abbrev cL_fits : ByteArray := method_15_code
def yL_fits : MethodName := ⟨RL, "fits", "(LCountedCells;)Z"⟩
abbrev cL_sound : ByteArray := method_16_code
def yL_sound : MethodName := ⟨RL, "sound", "(LCountedCells;I)Z"⟩
abbrev cL_law : ByteArray := code
def yL_law : MethodName := ⟨RL, "law", "([I)Z"⟩
abbrev vwCl : List vw_C := [(RX2, TX2, 3), (RX3, TX3, 2), (RX4, TX4, 6), (RX5, TX5, 2), (RX6, TX6, 2), (RX7, TX7, 7)]
