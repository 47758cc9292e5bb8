/-! names: classes, fields, methods (out of the printed names) -/
def RX0 : String := "FoldedRows$Folds"
def TX0 : u_T := fun k => match k with
  | 0 => ("FoldedRows$Folds", "count", "I", false)
  | 1 => ("FoldedRows$Folds", "firsts", "[I", true)
  | 2 => ("FoldedRows$Folds", "lasts", "[I", true)
  | _ => ("FoldedRows$Folds", "shuts", "[I", true)
def tyX0 : Nat → FieldType := fun k => match k with
  | 0 => .int
  | 1 => .array .int
  | 2 => .array .int
  | _ => .array .int
theorem nmX0 : ∀ a, a < 4 → ∀ b, b < 4 → a ≠ b → (TX0 a).2.1 ≠ (TX0 b).2.1 := by decide +kernel
theorem tyX0_ok : ∀ k, k < 4 → parseFieldDescriptor (TX0 k).2.2.1 = some (tyX0 k) := by decide +kernel
abbrev cX0_init : ByteArray := prog_2_method_1_code
def yX0_init : MethodName := ⟨RX0, "<init>", "()V"⟩
abbrev cX0_has : ByteArray := prog_2_method_2_code
def yX0_has : MethodName := ⟨RX0, "has", "(I)Z"⟩
abbrev cX0_firstOf : ByteArray := prog_2_method_3_code
def yX0_firstOf : MethodName := ⟨RX0, "firstOf", "(I)I"⟩
abbrev cX0_lastOf : ByteArray := prog_2_method_4_code
def yX0_lastOf : MethodName := ⟨RX0, "lastOf", "(I)I"⟩
abbrev cX0_isShut : ByteArray := prog_2_method_5_code
def yX0_isShut : MethodName := ⟨RX0, "isShut", "(I)Z"⟩
abbrev cX0_setShut : ByteArray := prog_2_method_6_code
def yX0_setShut : MethodName := ⟨RX0, "setShut", "(II)V"⟩
abbrev cX0_shutCount : ByteArray := prog_2_method_7_code
def yX0_shutCount : MethodName := ⟨RX0, "shutCount", "()I"⟩
abbrev cX0_depthOf : ByteArray := prog_2_method_8_code
def yX0_depthOf : MethodName := ⟨RX0, "depthOf", "(I)I"⟩
abbrev cX0_hides : ByteArray := prog_2_method_9_code
def yX0_hides : MethodName := ⟨RX0, "hides", "(I)Z"⟩
abbrev cX0_shutsBehind : ByteArray := prog_2_method_10_code
def yX0_shutsBehind : MethodName := ⟨RX0, "shutsBehind", "(I)Z"⟩
abbrev cX0_clash : ByteArray := prog_2_method_11_code
def yX0_clash : MethodName := ⟨RX0, "clash", "(II)Z"⟩
abbrev cX0_add : ByteArray := prog_2_method_12_code
def yX0_add : MethodName := ⟨RX0, "add", "(II)I"⟩
abbrev cX0_clear : ByteArray := prog_2_method_14_code
def yX0_clear : MethodName := ⟨RX0, "clear", "()V"⟩
abbrev cX0_followSplit : ByteArray := prog_2_method_15_code
def yX0_followSplit : MethodName := ⟨RX0, "followSplit", "(I)V"⟩
abbrev cX0_followJoin : ByteArray := prog_2_method_16_code
def yX0_followJoin : MethodName := ⟨RX0, "followJoin", "(I)V"⟩
abbrev cX0_copyFrom : ByteArray := prog_2_method_17_code
def yX0_copyFrom : MethodName := ⟨RX0, "copyFrom", "(LFoldedRows$Folds;)V"⟩
abbrev cX0_areAtOdds : ByteArray := prog_2_method_18_code
def yX0_areAtOdds : MethodName := ⟨RX0, "areAtOdds", "(IIII)Z"⟩
abbrev cX0_comeAhead : ByteArray := prog_2_method_19_code
def yX0_comeAhead : MethodName := ⟨RX0, "comeAhead", "(IIII)Z"⟩
abbrev cX0_write : ByteArray := prog_2_method_20_code
def yX0_write : MethodName := ⟨RX0, "write", "(IIII)V"⟩
def RX1 : String := "FoldedRows$Frame"
def TX1 : u_T := fun k => match k with
  | 0 => ("FoldedRows$Frame", "lines", "LFoldedRows$Lines;", true)
  | 1 => ("FoldedRows$Frame", "folds", "LFoldedRows$Folds;", true)
  | 2 => ("FoldedRows$Frame", "caretLine", "I", false)
  | _ => ("FoldedRows$Frame", "caretPlace", "I", false)
def tyX1 : Nat → FieldType := fun k => match k with
  | 0 => .object "FoldedRows$Lines"
  | 1 => .object "FoldedRows$Folds"
  | 2 => .int
  | _ => .int
theorem nmX1 : ∀ a, a < 4 → ∀ b, b < 4 → a ≠ b → (TX1 a).2.1 ≠ (TX1 b).2.1 := by decide +kernel
theorem tyX1_ok : ∀ k, k < 4 → parseFieldDescriptor (TX1 k).2.2.1 = some (tyX1 k) := by decide +kernel
abbrev cX1_init : ByteArray := prog_3_method_1_code
def yX1_init : MethodName := ⟨RX1, "<init>", "()V"⟩
abbrev cX1_clear : ByteArray := prog_3_method_2_code
def yX1_clear : MethodName := ⟨RX1, "clear", "()V"⟩
abbrev cX1_copyFrom : ByteArray := prog_3_method_3_code
def yX1_copyFrom : MethodName := ⟨RX1, "copyFrom", "(LFoldedRows$Frame;)V"⟩
abbrev cX1_hiddenLines : ByteArray := prog_3_method_4_code
def yX1_hiddenLines : MethodName := ⟨RX1, "hiddenLines", "()I"⟩
abbrev cX1_shownLineAhead : ByteArray := prog_3_method_5_code
def yX1_shownLineAhead : MethodName := ⟨RX1, "shownLineAhead", "()I"⟩
abbrev cX1_shownLineBehind : ByteArray := prog_3_method_6_code
def yX1_shownLineBehind : MethodName := ⟨RX1, "shownLineBehind", "()I"⟩
def RX2 : String := "FoldedRows$History"
def TX2 : u_T := fun k => match k with
  | 0 => ("FoldedRows$History", "slots", "[LFoldedRows$Frame;", true)
  | 1 => ("FoldedRows$History", "done", "I", false)
  | _ => ("FoldedRows$History", "undone", "I", false)
def tyX2 : Nat → FieldType := fun k => match k with
  | 0 => .array (.object "FoldedRows$Frame")
  | 1 => .int
  | _ => .int
theorem nmX2 : ∀ a, a < 3 → ∀ b, b < 3 → a ≠ b → (TX2 a).2.1 ≠ (TX2 b).2.1 := by decide +kernel
theorem tyX2_ok : ∀ k, k < 3 → parseFieldDescriptor (TX2 k).2.2.1 = some (tyX2 k) := by decide +kernel
abbrev cX2_init : ByteArray := prog_4_method_1_code
def yX2_init : MethodName := ⟨RX2, "<init>", "()V"⟩
abbrev cX2_forget : ByteArray := prog_4_method_2_code
def yX2_forget : MethodName := ⟨RX2, "forget", "()V"⟩
abbrev cX2_remember : ByteArray := prog_4_method_3_code
def yX2_remember : MethodName := ⟨RX2, "remember", "(LFoldedRows$Frame;)V"⟩
abbrev cX2_takeBack : ByteArray := prog_4_method_4_code
def yX2_takeBack : MethodName := ⟨RX2, "takeBack", "(LFoldedRows$Frame;)LFoldedRows$Frame;"⟩
abbrev cX2_doAgain : ByteArray := prog_4_method_5_code
def yX2_doAgain : MethodName := ⟨RX2, "doAgain", "(LFoldedRows$Frame;)LFoldedRows$Frame;"⟩
abbrev cX2_exchange : ByteArray := prog_4_method_6_code
def yX2_exchange : MethodName := ⟨RX2, "exchange", "(ILFoldedRows$Frame;)LFoldedRows$Frame;"⟩
abbrev cX2_dropOldest : ByteArray := prog_4_method_7_code
def yX2_dropOldest : MethodName := ⟨RX2, "dropOldest", "()V"⟩
def RX3 : String := "FoldedRows$Image"
def TX3 : u_T := fun k => match k with
  | 0 => ("FoldedRows$Image", "frame", "LFoldedRows$Frame;", true)
  | 1 => ("FoldedRows$Image", "settings", "LFoldedRows$Settings;", true)
  | _ => ("FoldedRows$Image", "there", "Z", false)
def tyX3 : Nat → FieldType := fun k => match k with
  | 0 => .object "FoldedRows$Frame"
  | 1 => .object "FoldedRows$Settings"
  | _ => .boolean
theorem nmX3 : ∀ a, a < 3 → ∀ b, b < 3 → a ≠ b → (TX3 a).2.1 ≠ (TX3 b).2.1 := by decide +kernel
theorem tyX3_ok : ∀ k, k < 3 → parseFieldDescriptor (TX3 k).2.2.1 = some (tyX3 k) := by decide +kernel
abbrev cX3_init : ByteArray := prog_5_method_1_code
def yX3_init : MethodName := ⟨RX3, "<init>", "()V"⟩
def RX4 : String := "FoldedRows$LaidLine"
def TX4 : u_T := fun k => match k with
  | 0 => ("FoldedRows$LaidLine", "size", "I", false)
  | 1 => ("FoldedRows$LaidLine", "rows", "I", false)
  | 2 => ("FoldedRows$LaidLine", "indent", "I", false)
  | 3 => ("FoldedRows$LaidLine", "rowOfPlace", "[I", true)
  | 4 => ("FoldedRows$LaidLine", "columnOfPlace", "[I", true)
  | 5 => ("FoldedRows$LaidLine", "cellsOfSign", "[I", true)
  | 6 => ("FoldedRows$LaidLine", "hangs", "[I", true)
  | 7 => ("FoldedRows$LaidLine", "stops", "[I", true)
  | 8 => ("FoldedRows$LaidLine", "breaks", "[I", true)
  | 9 => ("FoldedRows$LaidLine", "rowBegins", "[I", true)
  | _ => ("FoldedRows$LaidLine", "columnsBehind", "[I", true)
def tyX4 : Nat → FieldType := fun k => match k with
  | 0 => .int
  | 1 => .int
  | 2 => .int
  | 3 => .array .int
  | 4 => .array .int
  | 5 => .array .int
  | 6 => .array .int
  | 7 => .array .int
  | 8 => .array .int
  | 9 => .array .int
  | _ => .array .int
theorem nmX4 : ∀ a, a < 11 → ∀ b, b < 11 → a ≠ b → (TX4 a).2.1 ≠ (TX4 b).2.1 := by decide +kernel
theorem tyX4_ok : ∀ k, k < 11 → parseFieldDescriptor (TX4 k).2.2.1 = some (tyX4 k) := by decide +kernel
abbrev cX4_init : ByteArray := prog_6_method_1_code
def yX4_init : MethodName := ⟨RX4, "<init>", "()V"⟩
abbrev cX4_arrange : ByteArray := prog_6_method_2_code
def yX4_arrange : MethodName := ⟨RX4, "arrange", "(LFoldedRows$Lines;ILFoldedRows$Settings;)V"⟩
abbrev cX4_stopCount : ByteArray := prog_6_method_3_code
def yX4_stopCount : MethodName := ⟨RX4, "stopCount", "()I"⟩
abbrev cX4_breakCount : ByteArray := prog_6_method_4_code
def yX4_breakCount : MethodName := ⟨RX4, "breakCount", "()I"⟩
abbrev cX4_hangCount : ByteArray := prog_6_method_5_code
def yX4_hangCount : MethodName := ⟨RX4, "hangCount", "()I"⟩
abbrev cX4_isStop : ByteArray := prog_6_method_6_code
def yX4_isStop : MethodName := ⟨RX4, "isStop", "(I)Z"⟩
abbrev cX4_isBreak : ByteArray := prog_6_method_7_code
def yX4_isBreak : MethodName := ⟨RX4, "isBreak", "(I)Z"⟩
abbrev cX4_rowOf : ByteArray := prog_6_method_8_code
def yX4_rowOf : MethodName := ⟨RX4, "rowOf", "(I)I"⟩
abbrev cX4_columnOf : ByteArray := prog_6_method_9_code
def yX4_columnOf : MethodName := ⟨RX4, "columnOf", "(I)I"⟩
abbrev cX4_firstPlace : ByteArray := prog_6_method_10_code
def yX4_firstPlace : MethodName := ⟨RX4, "firstPlace", "(I)I"⟩
abbrev cX4_firstColumn : ByteArray := prog_6_method_11_code
def yX4_firstColumn : MethodName := ⟨RX4, "firstColumn", "(I)I"⟩
abbrev cX4_columnBehind : ByteArray := prog_6_method_12_code
def yX4_columnBehind : MethodName := ⟨RX4, "columnBehind", "(I)I"⟩
abbrev cX4_placeCovering : ByteArray := prog_6_method_13_code
def yX4_placeCovering : MethodName := ⟨RX4, "placeCovering", "(II)I"⟩
abbrev cX4_placeNear : ByteArray := prog_6_method_14_code
def yX4_placeNear : MethodName := ⟨RX4, "placeNear", "(II)I"⟩
abbrev cX4_stopFrom : ByteArray := prog_6_method_15_code
def yX4_stopFrom : MethodName := ⟨RX4, "stopFrom", "(I)I"⟩
abbrev cX4_stopBehind : ByteArray := prog_6_method_16_code
def yX4_stopBehind : MethodName := ⟨RX4, "stopBehind", "(I)I"⟩
abbrev cX4_stopAhead : ByteArray := prog_6_method_17_code
def yX4_stopAhead : MethodName := ⟨RX4, "stopAhead", "(I)I"⟩
abbrev cX4_leadingCells : ByteArray := prog_6_method_18_code
def yX4_leadingCells : MethodName := ⟨RX4, "leadingCells", "(LFoldedRows$Lines;ILFoldedRows$Settings;)I"⟩
abbrev cX4_findBreaks : ByteArray := prog_6_method_19_code
def yX4_findBreaks : MethodName := ⟨RX4, "findBreaks", "(LFoldedRows$Lines;I)V"⟩
abbrev cX4_findStops : ByteArray := prog_6_method_20_code
def yX4_findStops : MethodName := ⟨RX4, "findStops", "(LFoldedRows$Lines;I)V"⟩
abbrev cX4_fillRow : ByteArray := prog_6_method_21_code
def yX4_fillRow : MethodName := ⟨RX4, "fillRow", "(LFoldedRows$Lines;IILFoldedRows$Settings;)I"⟩
abbrev cX4_rowEnd : ByteArray := prog_6_method_22_code
def yX4_rowEnd : MethodName := ⟨RX4, "rowEnd", "(II)I"⟩
def RX5 : String := "FoldedRows$Lines"
def TX5 : u_T := fun k => match k with
  | 0 => ("FoldedRows$Lines", "count", "I", false)
  | 1 => ("FoldedRows$Lines", "lengths", "[I", true)
  | _ => ("FoldedRows$Lines", "signs", "[I", true)
def tyX5 : Nat → FieldType := fun k => match k with
  | 0 => .int
  | 1 => .array .int
  | _ => .array .int
theorem nmX5 : ∀ a, a < 3 → ∀ b, b < 3 → a ≠ b → (TX5 a).2.1 ≠ (TX5 b).2.1 := by decide +kernel
theorem tyX5_ok : ∀ k, k < 3 → parseFieldDescriptor (TX5 k).2.2.1 = some (tyX5 k) := by decide +kernel
abbrev cX5_init : ByteArray := prog_7_method_1_code
def yX5_init : MethodName := ⟨RX5, "<init>", "()V"⟩
abbrev cX5_has : ByteArray := prog_7_method_2_code
def yX5_has : MethodName := ⟨RX5, "has", "(I)Z"⟩
abbrev cX5_hasPlace : ByteArray := prog_7_method_3_code
def yX5_hasPlace : MethodName := ⟨RX5, "hasPlace", "(II)Z"⟩
abbrev cX5_length : ByteArray := prog_7_method_4_code
def yX5_length : MethodName := ⟨RX5, "length", "(I)I"⟩
abbrev cX5_total : ByteArray := prog_7_method_5_code
def yX5_total : MethodName := ⟨RX5, "total", "()I"⟩
abbrev cX5_signOf : ByteArray := prog_7_method_6_code
def yX5_signOf : MethodName := ⟨RX5, "signOf", "(II)I"⟩
abbrev cX5_clear : ByteArray := prog_7_method_7_code
def yX5_clear : MethodName := ⟨RX5, "clear", "()V"⟩
abbrev cX5_addLine : ByteArray := prog_7_method_8_code
def yX5_addLine : MethodName := ⟨RX5, "addLine", "()V"⟩
abbrev cX5_append : ByteArray := prog_7_method_9_code
def yX5_append : MethodName := ⟨RX5, "append", "(II)V"⟩
abbrev cX5_insert : ByteArray := prog_7_method_10_code
def yX5_insert : MethodName := ⟨RX5, "insert", "(III)V"⟩
abbrev cX5_remove : ByteArray := prog_7_method_11_code
def yX5_remove : MethodName := ⟨RX5, "remove", "(III)V"⟩
abbrev cX5_divide : ByteArray := prog_7_method_12_code
def yX5_divide : MethodName := ⟨RX5, "divide", "(II)V"⟩
abbrev cX5_joinWithNext : ByteArray := prog_7_method_13_code
def yX5_joinWithNext : MethodName := ⟨RX5, "joinWithNext", "(I)V"⟩
abbrev cX5_copyFrom : ByteArray := prog_7_method_14_code
def yX5_copyFrom : MethodName := ⟨RX5, "copyFrom", "(LFoldedRows$Lines;)V"⟩
abbrev cX5_copyLine : ByteArray := prog_7_method_15_code
def yX5_copyLine : MethodName := ⟨RX5, "copyLine", "(II)V"⟩
abbrev cX5_appendPart : ByteArray := prog_7_method_16_code
def yX5_appendPart : MethodName := ⟨RX5, "appendPart", "(III)V"⟩
abbrev cX5_writeSign : ByteArray := prog_7_method_17_code
def yX5_writeSign : MethodName := ⟨RX5, "writeSign", "(III)V"⟩
def RX6 : String := "FoldedRows$Numbers"
def TX6 : u_T := fun k => match k with
  | _ => ("", "", "", false)
def tyX6 : Nat → FieldType := fun k => match k with
  | _ => .int
theorem nmX6 : ∀ a, a < 0 → ∀ b, b < 0 → a ≠ b → (TX6 a).2.1 ≠ (TX6 b).2.1 := by decide +kernel
theorem tyX6_ok : ∀ k, k < 0 → parseFieldDescriptor (TX6 k).2.2.1 = some (tyX6 k) := by decide +kernel
abbrev cX6_pick : ByteArray := prog_8_method_2_code
def yX6_pick : MethodName := ⟨RX6, "pick", "([II)I"⟩
abbrev cX6_put : ByteArray := prog_8_method_3_code
def yX6_put : MethodName := ⟨RX6, "put", "([III)V"⟩
abbrev cX6_copy : ByteArray := prog_8_method_4_code
def yX6_copy : MethodName := ⟨RX6, "copy", "([I[I)V"⟩
abbrev cX6_sum : ByteArray := prog_8_method_5_code
def yX6_sum : MethodName := ⟨RX6, "sum", "([II)I"⟩
def RX7 : String := "FoldedRows$Screen"
def TX7 : u_T := fun k => match k with
  | 0 => ("FoldedRows$Screen", "laid", "[LFoldedRows$LaidLine;", true)
  | _ => ("FoldedRows$Screen", "nowhere", "LFoldedRows$LaidLine;", true)
def tyX7 : Nat → FieldType := fun k => match k with
  | 0 => .array (.object "FoldedRows$LaidLine")
  | _ => .object "FoldedRows$LaidLine"
theorem nmX7 : ∀ a, a < 2 → ∀ b, b < 2 → a ≠ b → (TX7 a).2.1 ≠ (TX7 b).2.1 := by decide +kernel
theorem tyX7_ok : ∀ k, k < 2 → parseFieldDescriptor (TX7 k).2.2.1 = some (tyX7 k) := by decide +kernel
abbrev cX7_init : ByteArray := prog_9_method_1_code
def yX7_init : MethodName := ⟨RX7, "<init>", "()V"⟩
abbrev cX7_laidLine : ByteArray := prog_9_method_2_code
def yX7_laidLine : MethodName := ⟨RX7, "laidLine", "(I)LFoldedRows$LaidLine;"⟩
abbrev cX7_layLines : ByteArray := prog_9_method_3_code
def yX7_layLines : MethodName := ⟨RX7, "layLines", "(LFoldedRows$Lines;LFoldedRows$Settings;)V"⟩
abbrev cX7_rowCount : ByteArray := prog_9_method_4_code
def yX7_rowCount : MethodName := ⟨RX7, "rowCount", "(LFoldedRows$Frame;)I"⟩
abbrev cX7_firstRowOf : ByteArray := prog_9_method_5_code
def yX7_firstRowOf : MethodName := ⟨RX7, "firstRowOf", "(LFoldedRows$Frame;I)I"⟩
abbrev cX7_rowOf : ByteArray := prog_9_method_6_code
def yX7_rowOf : MethodName := ⟨RX7, "rowOf", "(LFoldedRows$Frame;II)I"⟩
abbrev cX7_lineOfRow : ByteArray := prog_9_method_7_code
def yX7_lineOfRow : MethodName := ⟨RX7, "lineOfRow", "(LFoldedRows$Frame;I)I"⟩
def RX8 : String := "FoldedRows$Settings"
def TX8 : u_T := fun k => match k with
  | 0 => ("FoldedRows$Settings", "width", "I", false)
  | 1 => ("FoldedRows$Settings", "tabs", "I", false)
  | 2 => ("FoldedRows$Settings", "mode", "I", false)
  | _ => ("FoldedRows$Settings", "extra", "I", false)
def tyX8 : Nat → FieldType := fun k => match k with
  | 0 => .int
  | 1 => .int
  | 2 => .int
  | _ => .int
theorem nmX8 : ∀ a, a < 4 → ∀ b, b < 4 → a ≠ b → (TX8 a).2.1 ≠ (TX8 b).2.1 := by decide +kernel
theorem tyX8_ok : ∀ k, k < 4 → parseFieldDescriptor (TX8 k).2.2.1 = some (tyX8 k) := by decide +kernel
abbrev cX8_init : ByteArray := prog_10_method_1_code
def yX8_init : MethodName := ⟨RX8, "<init>", "()V"⟩
abbrev cX8_allows : ByteArray := prog_10_method_2_code
def yX8_allows : MethodName := ⟨RX8, "allows", "(II)Z"⟩
abbrev cX8_change : ByteArray := prog_10_method_3_code
def yX8_change : MethodName := ⟨RX8, "change", "(II)I"⟩
abbrev cX8_copyFrom : ByteArray := prog_10_method_4_code
def yX8_copyFrom : MethodName := ⟨RX8, "copyFrom", "(LFoldedRows$Settings;)V"⟩
abbrev cX8_cellsToTabStop : ByteArray := prog_10_method_5_code
def yX8_cellsToTabStop : MethodName := ⟨RX8, "cellsToTabStop", "(I)I"⟩
abbrev cX8_cellsOf : ByteArray := prog_10_method_6_code
def yX8_cellsOf : MethodName := ⟨RX8, "cellsOf", "(III)I"⟩
abbrev cX8_fits : ByteArray := prog_10_method_7_code
def yX8_fits : MethodName := ⟨RX8, "fits", "(III)Z"⟩
def RX9 : String := "FoldedRows$Sheet"
def TX9 : u_T := fun k => match k with
  | 0 => ("FoldedRows$Sheet", "there", "Z", false)
  | 1 => ("FoldedRows$Sheet", "lane", "I", false)
  | 2 => ("FoldedRows$Sheet", "size", "I", false)
  | _ => ("FoldedRows$Sheet", "cells", "[I", true)
def tyX9 : Nat → FieldType := fun k => match k with
  | 0 => .boolean
  | 1 => .int
  | 2 => .int
  | _ => .array .int
theorem nmX9 : ∀ a, a < 4 → ∀ b, b < 4 → a ≠ b → (TX9 a).2.1 ≠ (TX9 b).2.1 := by decide +kernel
theorem tyX9_ok : ∀ k, k < 4 → parseFieldDescriptor (TX9 k).2.2.1 = some (tyX9 k) := by decide +kernel
abbrev cX9_init : ByteArray := prog_11_method_1_code
def yX9_init : MethodName := ⟨RX9, "<init>", "()V"⟩
def RX10 : String := "FoldedRows$Tape"
def TX10 : u_T := fun k => match k with
  | 0 => ("FoldedRows$Tape", "bytes", "[I", true)
  | 1 => ("FoldedRows$Tape", "begun", "[I", true)
  | 2 => ("FoldedRows$Tape", "size", "I", false)
  | 3 => ("FoldedRows$Tape", "faultPlace", "I", false)
  | 4 => ("FoldedRows$Tape", "open", "I", false)
  | _ => ("FoldedRows$Tape", "begunInAll", "I", false)
def tyX10 : Nat → FieldType := fun k => match k with
  | 0 => .array .int
  | 1 => .array .int
  | 2 => .int
  | 3 => .int
  | 4 => .int
  | _ => .int
theorem nmX10 : ∀ a, a < 6 → ∀ b, b < 6 → a ≠ b → (TX10 a).2.1 ≠ (TX10 b).2.1 := by decide +kernel
theorem tyX10_ok : ∀ k, k < 6 → parseFieldDescriptor (TX10 k).2.2.1 = some (tyX10 k) := by decide +kernel
abbrev cX10_init : ByteArray := prog_12_method_1_code
def yX10_init : MethodName := ⟨RX10, "<init>", "()V"⟩
abbrev cX10_append : ByteArray := prog_12_method_2_code
def yX10_append : MethodName := ⟨RX10, "append", "(I)Z"⟩
abbrev cX10_readInto : ByteArray := prog_12_method_3_code
def yX10_readInto : MethodName := ⟨RX10, "readInto", "(LFoldedRows$Frame;)I"⟩
abbrev cX10_readByte : ByteArray := prog_12_method_4_code
def yX10_readByte : MethodName := ⟨RX10, "readByte", "(ILFoldedRows$Frame;)I"⟩
abbrev cX10_endLine : ByteArray := prog_12_method_5_code
def yX10_endLine : MethodName := ⟨RX10, "endLine", "(LFoldedRows$Lines;)I"⟩
abbrev cX10_beginFold : ByteArray := prog_12_method_6_code
def yX10_beginFold : MethodName := ⟨RX10, "beginFold", "(I)I"⟩
abbrev cX10_endFold : ByteArray := prog_12_method_7_code
def yX10_endFold : MethodName := ⟨RX10, "endFold", "(LFoldedRows$Folds;I)I"⟩
def RX11 : String := "FoldedRows"
def TX11 : u_T := fun k => match k with
  | 0 => ("FoldedRows", "tape", "LFoldedRows$Tape;", true)
  | 1 => ("FoldedRows", "settings", "LFoldedRows$Settings;", true)
  | 2 => ("FoldedRows", "history", "LFoldedRows$History;", true)
  | 3 => ("FoldedRows", "screen", "LFoldedRows$Screen;", true)
  | 4 => ("FoldedRows", "images", "[LFoldedRows$Image;", true)
  | 5 => ("FoldedRows", "sheets", "[LFoldedRows$Sheet;", true)
  | 6 => ("FoldedRows", "now", "LFoldedRows$Frame;", false)
  | 7 => ("FoldedRows", "spare", "LFoldedRows$Frame;", false)
  | 8 => ("FoldedRows", "goal", "I", false)
  | _ => ("FoldedRows", "latestFault", "I", false)
def tyX11 : Nat → FieldType := fun k => match k with
  | 0 => .object "FoldedRows$Tape"
  | 1 => .object "FoldedRows$Settings"
  | 2 => .object "FoldedRows$History"
  | 3 => .object "FoldedRows$Screen"
  | 4 => .array (.object "FoldedRows$Image")
  | 5 => .array (.object "FoldedRows$Sheet")
  | 6 => .object "FoldedRows$Frame"
  | 7 => .object "FoldedRows$Frame"
  | 8 => .int
  | _ => .int
theorem nmX11 : ∀ a, a < 10 → ∀ b, b < 10 → a ≠ b → (TX11 a).2.1 ≠ (TX11 b).2.1 := by decide +kernel
theorem tyX11_ok : ∀ k, k < 10 → parseFieldDescriptor (TX11 k).2.2.1 = some (tyX11 k) := by decide +kernel
abbrev cX11_init : ByteArray := prog_1_method_1_code
def yX11_init : MethodName := ⟨RX11, "<init>", "()V"⟩
abbrev cX11_feed : ByteArray := prog_1_method_2_code
def yX11_feed : MethodName := ⟨RX11, "feed", "(I)I"⟩
abbrev cX11_text : ByteArray := prog_1_method_4_code
def yX11_text : MethodName := ⟨RX11, "text", "()I"⟩
abbrev cX11_fault : ByteArray := prog_1_method_5_code
def yX11_fault : MethodName := ⟨RX11, "fault", "()I"⟩
abbrev cX11_rule : ByteArray := prog_1_method_6_code
def yX11_rule : MethodName := ⟨RX11, "rule", "(I)I"⟩
abbrev cX11_sign : ByteArray := prog_1_method_7_code
def yX11_sign : MethodName := ⟨RX11, "sign", "(II)I"⟩
abbrev cX11_line : ByteArray := prog_1_method_8_code
def yX11_line : MethodName := ⟨RX11, "line", "(II)I"⟩
abbrev cX11_row : ByteArray := prog_1_method_9_code
def yX11_row : MethodName := ⟨RX11, "row", "(II)I"⟩
abbrev cX11_cell : ByteArray := prog_1_method_10_code
def yX11_cell : MethodName := ⟨RX11, "cell", "(II)I"⟩
abbrev cX11_at : ByteArray := prog_1_method_11_code
def yX11_at : MethodName := ⟨RX11, "at", "(III)I"⟩
abbrev cX11_to : ByteArray := prog_1_method_12_code
def yX11_to : MethodName := ⟨RX11, "to", "(II)I"⟩
abbrev cX11_fold : ByteArray := prog_1_method_13_code
def yX11_fold : MethodName := ⟨RX11, "fold", "(II)I"⟩
abbrev cX11_caret : ByteArray := prog_1_method_14_code
def yX11_caret : MethodName := ⟨RX11, "caret", "(I)I"⟩
abbrev cX11_step : ByteArray := prog_1_method_16_code
def yX11_step : MethodName := ⟨RX11, "step", "(I)I"⟩
abbrev cX11_down : ByteArray := prog_1_method_17_code
def yX11_down : MethodName := ⟨RX11, "down", "(I)I"⟩
abbrev cX11_edge : ByteArray := prog_1_method_18_code
def yX11_edge : MethodName := ⟨RX11, "edge", "(I)I"⟩
abbrev cX11_type : ByteArray := prog_1_method_19_code
def yX11_type : MethodName := ⟨RX11, "type", "(I)I"⟩
abbrev cX11_erase : ByteArray := prog_1_method_20_code
def yX11_erase : MethodName := ⟨RX11, "erase", "()I"⟩
abbrev cX11_split : ByteArray := prog_1_method_21_code
def yX11_split : MethodName := ⟨RX11, "split", "()I"⟩
abbrev cX11_undo : ByteArray := prog_1_method_22_code
def yX11_undo : MethodName := ⟨RX11, "undo", "()I"⟩
abbrev cX11_redo : ByteArray := prog_1_method_23_code
def yX11_redo : MethodName := ⟨RX11, "redo", "()I"⟩
abbrev cX11_wrap : ByteArray := prog_1_method_24_code
def yX11_wrap : MethodName := ⟨RX11, "wrap", "(II)I"⟩
abbrev cX11_shut : ByteArray := prog_1_method_25_code
def yX11_shut : MethodName := ⟨RX11, "shut", "(II)I"⟩
abbrev cX11_set : ByteArray := prog_1_method_27_code
def yX11_set : MethodName := ⟨RX11, "set", "(II)I"⟩
abbrev cX11_keep : ByteArray := prog_1_method_28_code
def yX11_keep : MethodName := ⟨RX11, "keep", "(I)I"⟩
abbrev cX11_back : ByteArray := prog_1_method_29_code
def yX11_back : MethodName := ⟨RX11, "back", "(I)I"⟩
abbrev cX11_joinWithLineAhead : ByteArray := prog_1_method_33_code
def yX11_joinWithLineAhead : MethodName := ⟨RX11, "joinWithLineAhead", "()I"⟩
abbrev cX11_layAll : ByteArray := prog_1_method_34_code
def yX11_layAll : MethodName := ⟨RX11, "layAll", "()V"⟩
abbrev cX11_layCaretLine : ByteArray := prog_1_method_35_code
def yX11_layCaretLine : MethodName := ⟨RX11, "layCaretLine", "()V"⟩
abbrev cX11_settleCaret : ByteArray := prog_1_method_36_code
def yX11_settleCaret : MethodName := ⟨RX11, "settleCaret", "()V"⟩
abbrev cX11_moveCaret : ByteArray := prog_1_method_37_code
def yX11_moveCaret : MethodName := ⟨RX11, "moveCaret", "(II)V"⟩
abbrev cX11_caretRow : ByteArray := prog_1_method_38_code
def yX11_caretRow : MethodName := ⟨RX11, "caretRow", "()I"⟩
abbrev cX11_caretColumn : ByteArray := prog_1_method_39_code
def yX11_caretColumn : MethodName := ⟨RX11, "caretColumn", "()I"⟩
abbrev cX11_imageCount : ByteArray := prog_1_method_40_code
def yX11_imageCount : MethodName := ⟨RX11, "imageCount", "()I"⟩
abbrev cX11_forgetImage : ByteArray := prog_1_method_41_code
def yX11_forgetImage : MethodName := ⟨RX11, "forgetImage", "(I)V"⟩
abbrev cX11_imageOf : ByteArray := prog_1_method_42_code
def yX11_imageOf : MethodName := ⟨RX11, "imageOf", "(I)LFoldedRows$Image;"⟩
abbrev cX11_isWide : ByteArray := prog_1_method_44_code
def yX11_isWide : MethodName := ⟨RX11, "isWide", "(I)Z"⟩
abbrev cX11_isGap : ByteArray := prog_1_method_45_code
def yX11_isGap : MethodName := ⟨RX11, "isGap", "(I)Z"⟩
abbrev cX11_isSign : ByteArray := prog_1_method_46_code
def yX11_isSign : MethodName := ⟨RX11, "isSign", "(I)Z"⟩
abbrev cX11_letsBreakBehind : ByteArray := prog_1_method_47_code
def yX11_letsBreakBehind : MethodName := ⟨RX11, "letsBreakBehind", "(I)Z"⟩
def RX12 : String := "FoldedRowsModel"
def TX12 : u_T := fun k => match k with
  | _ => ("", "", "", false)
def tyX12 : Nat → FieldType := fun k => match k with
  | _ => .int
theorem nmX12 : ∀ a, a < 0 → ∀ b, b < 0 → a ≠ b → (TX12 a).2.1 ≠ (TX12 b).2.1 := by decide +kernel
theorem tyX12_ok : ∀ k, k < 0 → parseFieldDescriptor (TX12 k).2.2.1 = some (tyX12 k) := by decide +kernel
def RL : String := "FoldedRowsLaw"
abbrev cL_part : ByteArray := method_2_code
def yL_part : MethodName := ⟨RL, "part", "(II)I"⟩
abbrev cL_cell : ByteArray := method_3_code
def yL_cell : MethodName := ⟨RL, "cell", "([II)I"⟩
abbrev cL_signOf : ByteArray := method_4_code
def yL_signOf : MethodName := ⟨RL, "signOf", "(I)I"⟩
abbrev cL_put : ByteArray := method_7_code
def yL_put : MethodName := ⟨RL, "put", "([JIII)V"⟩
abbrev cL_cross : ByteArray := method_8_code
def yL_cross : MethodName := ⟨RL, "cross", "(IIII)Z"⟩
abbrev cL_clashes : ByteArray := method_9_code
def yL_clashes : MethodName := ⟨RL, "clashes", "([IIII)Z"⟩
abbrev cL_comes : ByteArray := method_10_code
def yL_comes : MethodName := ⟨RL, "comes", "([III)I"⟩
abbrev cL_tell : ByteArray := method_12_code
def yL_tell : MethodName := ⟨RL, "tell", "(LFoldedRows;[J[I[II)Z"⟩
abbrev cL_all : ByteArray := method_14_code
def yL_all : MethodName := ⟨RL, "all", "(LFoldedRows;)I"⟩
abbrev cL_steady : ByteArray := method_15_code
def yL_steady : MethodName := ⟨RL, "steady", "(LFoldedRows;)Z"⟩
abbrev cL_nested : ByteArray := method_16_code
def yL_nested : MethodName := ⟨RL, "nested", "(LFoldedRows;)Z"⟩
abbrev cL_acts : ByteArray := method_17_code
def yL_acts : MethodName := ⟨RL, "acts", "(LFoldedRows;I)Z"⟩
abbrev cL_takes : ByteArray := method_18_code
def yL_takes : MethodName := ⟨RL, "takes", "(LFoldedRows;I)Z"⟩
abbrev cL_sets : ByteArray := method_19_code
def yL_sets : MethodName := ⟨RL, "sets", "(LFoldedRows;I)Z"⟩
abbrev cL_law : ByteArray := code
def yL_law : MethodName := ⟨RL, "law", "([I)Z"⟩
abbrev vwCl : List vw_C := [(RX0, TX0, 4), (RX1, TX1, 4), (RX2, TX2, 3), (RX3, TX3, 3), (RX4, TX4, 11), (RX5, TX5, 3), (RX7, TX7, 2), (RX8, TX8, 4), (RX9, TX9, 4), (RX10, TX10, 6), (RX11, TX11, 10)]
theorem zi_mem {big ws : List Jvm.Cond} (ps : List Nat) (h : ws.map some = ps.map (fun i => big[i]?)) : ∀ w ∈ ws, w ∈ big := by
  intro w hw
  have h1 : some w ∈ ws.map some := List.mem_map.mpr ⟨w, hw, rfl⟩
  rw [h] at h1
  obtain ⟨i, -, hi⟩ := List.mem_map.mp h1
  exact List.mem_of_getElem? hi
/-- the words that a callee may be told -/
def zi_tb : List Jvm.Cond := lw_tbl.filter goodWord
theorem zi_tb_of {w : Jvm.Cond} (h : w ∈ lw_tbl) (g : goodWord w = true) : w ∈ zi_tb := List.mem_filter.mpr ⟨h, g⟩
theorem zi_mem2 {ws : List Jvm.Cond} (ps : List Nat) (h : ws.map some = ps.map (fun i => lw_tbl[i]?)) (g : ws.all goodWord = true) : ∀ w ∈ ws, w ∈ zi_tb := fun w hw => zi_tb_of (zi_mem ps h w hw) (List.all_eq_true.mp g w hw)
theorem zi_inX0 : ∀ w ∈ u_ws RX0 TX0 4, w ∈ zi_tb := zi_mem2 [146, 148, 150, 152] (by decide +kernel) (by decide +kernel)
theorem zi_inX1 : ∀ w ∈ u_ws RX1 TX1 4, w ∈ zi_tb := zi_mem2 [167, 169, 171, 173] (by decide +kernel) (by decide +kernel)
theorem zi_inX2 : ∀ w ∈ u_ws RX2 TX2 3, w ∈ zi_tb := zi_mem2 [181, 183, 185] (by decide +kernel) (by decide +kernel)
theorem zi_inX3 : ∀ w ∈ u_ws RX3 TX3 3, w ∈ zi_tb := zi_mem2 [266, 268, 270] (by decide +kernel) (by decide +kernel)
theorem zi_inX4 : ∀ w ∈ u_ws RX4 TX4 11, w ∈ zi_tb := zi_mem2 [215, 217, 219, 221, 223, 225, 227, 229, 231, 233, 235] (by decide +kernel) (by decide +kernel)
theorem zi_inX5 : ∀ w ∈ u_ws RX5 TX5 3, w ∈ zi_tb := zi_mem2 [128, 130, 132] (by decide +kernel) (by decide +kernel)
theorem zi_inX7 : ∀ w ∈ u_ws RX7 TX7 2, w ∈ zi_tb := zi_mem2 [240, 242] (by decide +kernel) (by decide +kernel)
theorem zi_inX8 : ∀ w ∈ u_ws RX8 TX8 4, w ∈ zi_tb := zi_mem2 [93, 95, 97, 99] (by decide +kernel) (by decide +kernel)
theorem zi_inX9 : ∀ w ∈ u_ws RX9 TX9 4, w ∈ zi_tb := zi_mem2 [282, 284, 286, 288] (by decide +kernel) (by decide +kernel)
theorem zi_inX10 : ∀ w ∈ u_ws RX10 TX10 6, w ∈ zi_tb := zi_mem2 [62, 64, 66, 68, 70, 72] (by decide +kernel) (by decide +kernel)
theorem zi_inX11 : ∀ w ∈ u_ws RX11 TX11 10, w ∈ zi_tb := zi_mem2 [422, 424, 426, 428, 430, 432, 434, 436, 438, 440] (by decide +kernel) (by decide +kernel)
/-- what is known of a class of objects, by its kind -/
def zi_tk (k : Nat) (ty : FieldType) : Prop := match k with
  | 1 => ty = .int
  | 2 => ty = .boolean
  | 3 => (∃ C, ty = .object C) ∨ ∃ t, ty = .array t
  | _ => False
def zi_ck1 (a : Nat) (q : vw_C) : Prop := (∀ w ∈ u_ws q.1 q.2.1 q.2.2, w ∈ zi_tb) ∧ ∃ ty : Nat → FieldType, (∀ k, k < q.2.2 → parseFieldDescriptor (q.2.1 k).2.2.1 = some (ty k)) ∧ (∀ a, a < q.2.2 → ∀ b, b < q.2.2 → a ≠ b → (q.2.1 a).2.1 ≠ (q.2.1 b).2.1) ∧ (∀ k, k < q.2.2 → zi_tk (zi_ft a k) (ty k)) ∧ ∀ k, k < q.2.2 → (q.2.1 k).1 = q.1
theorem zi_lt_cases {P : Nat → Prop} : ∀ {n : Nat}, (∀ k, k < n → P k) → P n → ∀ k, k < n + 1 → P k := fun h1 h2 k hk => by
  rcases Nat.lt_succ_iff_lt_or_eq.mp hk with h | h
  · exact h1 k h
  · exact h ▸ h2
theorem zi_lt0 {P : Nat → Prop} : ∀ k, k < 0 → P k := fun k h => absurd h (Nat.not_lt_zero k)
theorem zi_clX0 : zi_ck1 0 (RX0, TX0, 4) := ⟨zi_inX0, tyX0, tyX0_ok, nmX0, (zi_lt_cases (zi_lt_cases (zi_lt_cases (zi_lt_cases zi_lt0 rfl) (Or.inr ⟨_, rfl⟩)) (Or.inr ⟨_, rfl⟩)) (Or.inr ⟨_, rfl⟩)), (zi_lt_cases (zi_lt_cases (zi_lt_cases (zi_lt_cases zi_lt0 rfl) rfl) rfl) rfl)⟩
theorem zi_clX1 : zi_ck1 1 (RX1, TX1, 4) := ⟨zi_inX1, tyX1, tyX1_ok, nmX1, (zi_lt_cases (zi_lt_cases (zi_lt_cases (zi_lt_cases zi_lt0 (Or.inl ⟨_, rfl⟩)) (Or.inl ⟨_, rfl⟩)) rfl) rfl), (zi_lt_cases (zi_lt_cases (zi_lt_cases (zi_lt_cases zi_lt0 rfl) rfl) rfl) rfl)⟩
theorem zi_clX2 : zi_ck1 2 (RX2, TX2, 3) := ⟨zi_inX2, tyX2, tyX2_ok, nmX2, (zi_lt_cases (zi_lt_cases (zi_lt_cases zi_lt0 (Or.inr ⟨_, rfl⟩)) rfl) rfl), (zi_lt_cases (zi_lt_cases (zi_lt_cases zi_lt0 rfl) rfl) rfl)⟩
theorem zi_clX3 : zi_ck1 3 (RX3, TX3, 3) := ⟨zi_inX3, tyX3, tyX3_ok, nmX3, (zi_lt_cases (zi_lt_cases (zi_lt_cases zi_lt0 (Or.inl ⟨_, rfl⟩)) (Or.inl ⟨_, rfl⟩)) rfl), (zi_lt_cases (zi_lt_cases (zi_lt_cases zi_lt0 rfl) rfl) rfl)⟩
theorem zi_clX4 : zi_ck1 4 (RX4, TX4, 11) := ⟨zi_inX4, tyX4, tyX4_ok, nmX4, (zi_lt_cases (zi_lt_cases (zi_lt_cases (zi_lt_cases (zi_lt_cases (zi_lt_cases (zi_lt_cases (zi_lt_cases (zi_lt_cases (zi_lt_cases (zi_lt_cases zi_lt0 rfl) rfl) rfl) (Or.inr ⟨_, rfl⟩)) (Or.inr ⟨_, rfl⟩)) (Or.inr ⟨_, rfl⟩)) (Or.inr ⟨_, rfl⟩)) (Or.inr ⟨_, rfl⟩)) (Or.inr ⟨_, rfl⟩)) (Or.inr ⟨_, rfl⟩)) (Or.inr ⟨_, rfl⟩)), (zi_lt_cases (zi_lt_cases (zi_lt_cases (zi_lt_cases (zi_lt_cases (zi_lt_cases (zi_lt_cases (zi_lt_cases (zi_lt_cases (zi_lt_cases (zi_lt_cases zi_lt0 rfl) rfl) rfl) rfl) rfl) rfl) rfl) rfl) rfl) rfl) rfl)⟩
theorem zi_clX5 : zi_ck1 5 (RX5, TX5, 3) := ⟨zi_inX5, tyX5, tyX5_ok, nmX5, (zi_lt_cases (zi_lt_cases (zi_lt_cases zi_lt0 rfl) (Or.inr ⟨_, rfl⟩)) (Or.inr ⟨_, rfl⟩)), (zi_lt_cases (zi_lt_cases (zi_lt_cases zi_lt0 rfl) rfl) rfl)⟩
theorem zi_clX7 : zi_ck1 6 (RX7, TX7, 2) := ⟨zi_inX7, tyX7, tyX7_ok, nmX7, (zi_lt_cases (zi_lt_cases zi_lt0 (Or.inr ⟨_, rfl⟩)) (Or.inl ⟨_, rfl⟩)), (zi_lt_cases (zi_lt_cases zi_lt0 rfl) rfl)⟩
theorem zi_clX8 : zi_ck1 7 (RX8, TX8, 4) := ⟨zi_inX8, tyX8, tyX8_ok, nmX8, (zi_lt_cases (zi_lt_cases (zi_lt_cases (zi_lt_cases zi_lt0 rfl) rfl) rfl) rfl), (zi_lt_cases (zi_lt_cases (zi_lt_cases (zi_lt_cases zi_lt0 rfl) rfl) rfl) rfl)⟩
theorem zi_clX9 : zi_ck1 8 (RX9, TX9, 4) := ⟨zi_inX9, tyX9, tyX9_ok, nmX9, (zi_lt_cases (zi_lt_cases (zi_lt_cases (zi_lt_cases zi_lt0 rfl) rfl) rfl) (Or.inr ⟨_, rfl⟩)), (zi_lt_cases (zi_lt_cases (zi_lt_cases (zi_lt_cases zi_lt0 rfl) rfl) rfl) rfl)⟩
theorem zi_clX10 : zi_ck1 9 (RX10, TX10, 6) := ⟨zi_inX10, tyX10, tyX10_ok, nmX10, (zi_lt_cases (zi_lt_cases (zi_lt_cases (zi_lt_cases (zi_lt_cases (zi_lt_cases zi_lt0 (Or.inr ⟨_, rfl⟩)) (Or.inr ⟨_, rfl⟩)) rfl) rfl) rfl) rfl), (zi_lt_cases (zi_lt_cases (zi_lt_cases (zi_lt_cases (zi_lt_cases (zi_lt_cases zi_lt0 rfl) rfl) rfl) rfl) rfl) rfl)⟩
theorem zi_clX11 : zi_ck1 10 (RX11, TX11, 10) := ⟨zi_inX11, tyX11, tyX11_ok, nmX11, (zi_lt_cases (zi_lt_cases (zi_lt_cases (zi_lt_cases (zi_lt_cases (zi_lt_cases (zi_lt_cases (zi_lt_cases (zi_lt_cases (zi_lt_cases zi_lt0 (Or.inl ⟨_, rfl⟩)) (Or.inl ⟨_, rfl⟩)) (Or.inl ⟨_, rfl⟩)) (Or.inl ⟨_, rfl⟩)) (Or.inr ⟨_, rfl⟩)) (Or.inr ⟨_, rfl⟩)) (Or.inl ⟨_, rfl⟩)) (Or.inl ⟨_, rfl⟩)) rfl) rfl), (zi_lt_cases (zi_lt_cases (zi_lt_cases (zi_lt_cases (zi_lt_cases (zi_lt_cases (zi_lt_cases (zi_lt_cases (zi_lt_cases (zi_lt_cases zi_lt0 rfl) rfl) rfl) rfl) rfl) rfl) rfl) rfl) rfl) rfl)⟩
theorem zi_cls {a : Nat} {q : vw_C} (h : vwCl[a]? = some q) : zi_ck1 a q := by
  match a, h with
  | 0, h => cases h; exact zi_clX0
  | 1, h => cases h; exact zi_clX1
  | 2, h => cases h; exact zi_clX2
  | 3, h => cases h; exact zi_clX3
  | 4, h => cases h; exact zi_clX4
  | 5, h => cases h; exact zi_clX5
  | 6, h => cases h; exact zi_clX7
  | 7, h => cases h; exact zi_clX8
  | 8, h => cases h; exact zi_clX9
  | 9, h => cases h; exact zi_clX10
  | 10, h => cases h; exact zi_clX11
  | a + 11, h => simp [vwCl] at h
