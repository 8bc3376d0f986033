def RX0 : String := "BentGardens$Buffer"
def TX0 : u_T := fun k => match k with
  | 0 => ("BentGardens$Buffer", "length", "I", false)
  | _ => ("BentGardens$Buffer", "codes", "[I", true)
def tyX0 : Nat → FieldType := fun k => match k with
  | 0 => .int
  | _ => .array .int
abbrev wsX00 : List Cond := u_ws RX0 TX0 2
theorem nmX0 : ∀ a, a < 2 → ∀ b, b < 2 → a ≠ b → (TX0 a).2.1 ≠ (TX0 b).2.1 := by decide +kernel
theorem tyX0_ok : ∀ k, k < 2 → parseFieldDescriptor (TX0 k).2.2.1 = some (tyX0 k) := by decide +kernel
abbrev cX0_init : ByteArray := prog_2_method_1_code
def yX0_init : MethodName := ⟨RX0, "<init>", "()V"⟩
abbrev cX0_isFull : ByteArray := prog_2_method_2_code
def yX0_isFull : MethodName := ⟨RX0, "isFull", "()Z"⟩
abbrev cX0_add : ByteArray := prog_2_method_3_code
def yX0_add : MethodName := ⟨RX0, "add", "(I)V"⟩
abbrev cX0_codeAt : ByteArray := prog_2_method_4_code
def yX0_codeAt : MethodName := ⟨RX0, "codeAt", "(I)I"⟩
abbrev cX0_readInto : ByteArray := prog_2_method_5_code
def yX0_readInto : MethodName := ⟨RX0, "readInto", "(LBentGardens$Reader;)I"⟩
def RX1 : String := "BentGardens$Garden"
def TX1 : u_T := fun k => match k with
  | 0 => ("BentGardens$Garden", "wide", "I", false)
  | 1 => ("BentGardens$Garden", "high", "I", false)
  | 2 => ("BentGardens$Garden", "pondPlace", "I", false)
  | 3 => ("BentGardens$Garden", "walls", "J", false)
  | 4 => ("BentGardens$Garden", "paved", "J", false)
  | 5 => ("BentGardens$Garden", "tripleCount", "I", false)
  | 6 => ("BentGardens$Garden", "flips", "I", false)
  | 7 => ("BentGardens$Garden", "refused", "I", false)
  | _ => ("BentGardens$Garden", "names", "[I", true)
def tyX1 : Nat → FieldType := fun k => match k with
  | 0 => .int
  | 1 => .int
  | 2 => .int
  | 3 => .long
  | 4 => .long
  | 5 => .int
  | 6 => .int
  | 7 => .int
  | _ => .array .int
abbrev wsX10 : List Cond := u_ws RX1 TX1 9
theorem nmX1 : ∀ a, a < 9 → ∀ b, b < 9 → a ≠ b → (TX1 a).2.1 ≠ (TX1 b).2.1 := by decide +kernel
theorem tyX1_ok : ∀ k, k < 9 → parseFieldDescriptor (TX1 k).2.2.1 = some (tyX1 k) := by decide +kernel
abbrev cX1_init : ByteArray := prog_3_method_1_code
def yX1_init : MethodName := ⟨RX1, "<init>", "()V"⟩
abbrev cX1_copied : ByteArray := prog_3_method_2_code
def yX1_copied : MethodName := ⟨RX1, "copied", "()LBentGardens$Garden;"⟩
abbrev cX1_layOut : ByteArray := prog_3_method_3_code
def yX1_layOut : MethodName := ⟨RX1, "layOut", "(IIIJ)V"⟩
abbrev cX1_hasBlock : ByteArray := prog_3_method_4_code
def yX1_hasBlock : MethodName := ⟨RX1, "hasBlock", "(IIII)Z"⟩
abbrev cX1_pondCell : ByteArray := prog_3_method_5_code
def yX1_pondCell : MethodName := ⟨RX1, "pondCell", "()J"⟩
abbrev cX1_freeCells : ByteArray := prog_3_method_6_code
def yX1_freeCells : MethodName := ⟨RX1, "freeCells", "()J"⟩
abbrev cX1_blockCells : ByteArray := prog_3_method_7_code
def yX1_blockCells : MethodName := ⟨RX1, "blockCells", "(IIII)J"⟩
abbrev cX1_kindOf : ByteArray := prog_3_method_8_code
def yX1_kindOf : MethodName := ⟨RX1, "kindOf", "(J)I"⟩
abbrev cX1_whyRefused : ByteArray := prog_3_method_9_code
def yX1_whyRefused : MethodName := ⟨RX1, "whyRefused", "(III)I"⟩
abbrev cX1_putTriple : ByteArray := prog_3_method_10_code
def yX1_putTriple : MethodName := ⟨RX1, "putTriple", "(III)V"⟩
abbrev cX1_takeTriple : ByteArray := prog_3_method_11_code
def yX1_takeTriple : MethodName := ⟨RX1, "takeTriple", "(I)V"⟩
abbrev cX1_tripleName : ByteArray := prog_3_method_12_code
def yX1_tripleName : MethodName := ⟨RX1, "tripleName", "(I)I"⟩
abbrev cX1_tripleCells : ByteArray := prog_3_method_13_code
def yX1_tripleCells : MethodName := ⟨RX1, "tripleCells", "(I)J"⟩
abbrev cX1_tripleOver : ByteArray := prog_3_method_14_code
def yX1_tripleOver : MethodName := ⟨RX1, "tripleOver", "(J)I"⟩
abbrev cX1_layableTriples : ByteArray := prog_3_method_15_code
def yX1_layableTriples : MethodName := ⟨RX1, "layableTriples", "()I"⟩
abbrev cX1_coverX : ByteArray := prog_3_method_16_code
def yX1_coverX : MethodName := ⟨RX1, "coverX", "(II)I"⟩
abbrev cX1_coverY : ByteArray := prog_3_method_17_code
def yX1_coverY : MethodName := ⟨RX1, "coverY", "(II)I"⟩
abbrev cX1_couldCover : ByteArray := prog_3_method_18_code
def yX1_couldCover : MethodName := ⟨RX1, "couldCover", "(II)Z"⟩
abbrev cX1_coverCount : ByteArray := prog_3_method_19_code
def yX1_coverCount : MethodName := ⟨RX1, "coverCount", "(I)I"⟩
abbrev cX1_firstCover : ByteArray := prog_3_method_20_code
def yX1_firstCover : MethodName := ⟨RX1, "firstCover", "(I)I"⟩
abbrev cX1_firstFreeWith : ByteArray := prog_3_method_21_code
def yX1_firstFreeWith : MethodName := ⟨RX1, "firstFreeWith", "(I)I"⟩
abbrev cX1_hasFlipBlock : ByteArray := prog_3_method_22_code
def yX1_hasFlipBlock : MethodName := ⟨RX1, "hasFlipBlock", "(IIZ)Z"⟩
abbrev cX1_isFlippable : ByteArray := prog_3_method_23_code
def yX1_isFlippable : MethodName := ⟨RX1, "isFlippable", "(IIZ)Z"⟩
abbrev cX1_lastFlipCell : ByteArray := prog_3_method_24_code
def yX1_lastFlipCell : MethodName := ⟨RX1, "lastFlipCell", "(IIZ)J"⟩
abbrev cX1_flipBlock : ByteArray := prog_3_method_25_code
def yX1_flipBlock : MethodName := ⟨RX1, "flipBlock", "(IIZ)V"⟩
abbrev cX1_flippableBlocks : ByteArray := prog_3_method_26_code
def yX1_flippableBlocks : MethodName := ⟨RX1, "flippableBlocks", "()I"⟩
abbrev cX1_isHalvable : ByteArray := prog_3_method_27_code
def yX1_isHalvable : MethodName := ⟨RX1, "isHalvable", "()Z"⟩
abbrev cX1_paveSquares : ByteArray := prog_3_method_28_code
def yX1_paveSquares : MethodName := ⟨RX1, "paveSquares", "()V"⟩
abbrev cX1_paveSquare : ByteArray := prog_3_method_29_code
def yX1_paveSquare : MethodName := ⟨RX1, "paveSquare", "(LBentGardens$Garden;IIII)V"⟩
abbrev cX1_quarterTurn : ByteArray := prog_3_method_30_code
def yX1_quarterTurn : MethodName := ⟨RX1, "quarterTurn", "(ZZ)I"⟩
def RX2 : String := "BentGardens$Paver"
def TX2 : u_T := fun k => match k with
  | 0 => ("BentGardens$Paver", "rest", "[[I", true)
  | 1 => ("BentGardens$Paver", "takes", "[I", true)
  | 2 => ("BentGardens$Paver", "here", "LBentGardens$Reached;", false)
  | _ => ("BentGardens$Paver", "next", "LBentGardens$Reached;", false)
def tyX2 : Nat → FieldType := fun k => match k with
  | 0 => .array (.array .int)
  | 1 => .array .int
  | 2 => .object "BentGardens$Reached"
  | _ => .object "BentGardens$Reached"
abbrev wsX20 : List Cond := u_ws RX2 TX2 4
theorem nmX2 : ∀ a, a < 4 → ∀ b, b < 4 → a ≠ b → (TX2 a).2.1 ≠ (TX2 b).2.1 := by decide +kernel
theorem tyX2_ok : ∀ k, k < 4 → parseFieldDescriptor (TX2 k).2.2.1 = some (tyX2 k) := by decide +kernel
abbrev cX2_init : ByteArray := prog_4_method_1_code
def yX2_init : MethodName := ⟨RX2, "<init>", "()V"⟩
abbrev cX2_waysToPave : ByteArray := prog_4_method_2_code
def yX2_waysToPave : MethodName := ⟨RX2, "waysToPave", "(J)I"⟩
abbrev cX2_endOf : ByteArray := prog_4_method_3_code
def yX2_endOf : MethodName := ⟨RX2, "endOf", "(J)I"⟩
abbrev cX2_begin : ByteArray := prog_4_method_4_code
def yX2_begin : MethodName := ⟨RX2, "begin", "()V"⟩
abbrev cX2_goOn : ByteArray := prog_4_method_5_code
def yX2_goOn : MethodName := ⟨RX2, "goOn", "(JI)V"⟩
abbrev cX2_goOnByTurns : ByteArray := prog_4_method_6_code
def yX2_goOnByTurns : MethodName := ⟨RX2, "goOnByTurns", "(I)V"⟩
abbrev cX2_findTakes : ByteArray := prog_4_method_7_code
def yX2_findTakes : MethodName := ⟨RX2, "findTakes", "(JI)V"⟩
abbrev cX2_blockColumn : ByteArray := prog_4_method_8_code
def yX2_blockColumn : MethodName := ⟨RX2, "blockColumn", "(II)I"⟩
abbrev cX2_isOpen : ByteArray := prog_4_method_9_code
def yX2_isOpen : MethodName := ⟨RX2, "isOpen", "(II)Z"⟩
abbrev cX2_windowAfter : ByteArray := prog_4_method_10_code
def yX2_windowAfter : MethodName := ⟨RX2, "windowAfter", "(II)I"⟩
abbrev cX2_countRest : ByteArray := prog_4_method_11_code
def yX2_countRest : MethodName := ⟨RX2, "countRest", "(J)V"⟩
abbrev cX2_restOf : ByteArray := prog_4_method_12_code
def yX2_restOf : MethodName := ⟨RX2, "restOf", "(I)[I"⟩
abbrev cX2_countPlace : ByteArray := prog_4_method_13_code
def yX2_countPlace : MethodName := ⟨RX2, "countPlace", "(Z[I[I)V"⟩
abbrev cX2_countTurns : ByteArray := prog_4_method_14_code
def yX2_countTurns : MethodName := ⟨RX2, "countTurns", "(I[I)I"⟩
abbrev cX2_restFrom : ByteArray := prog_4_method_15_code
def yX2_restFrom : MethodName := ⟨RX2, "restFrom", "(II)I"⟩
abbrev cX2_paveFirstWay : ByteArray := prog_4_method_16_code
def yX2_paveFirstWay : MethodName := ⟨RX2, "paveFirstWay", "(LBentGardens$Garden;)V"⟩
abbrev cX2_leastTurn : ByteArray := prog_4_method_17_code
def yX2_leastTurn : MethodName := ⟨RX2, "leastTurn", "(II)I"⟩
abbrev cX2_bestGap : ByteArray := prog_4_method_18_code
def yX2_bestGap : MethodName := ⟨RX2, "bestGap", "(J)I"⟩
abbrev cX2_waysAround : ByteArray := prog_4_method_19_code
def yX2_waysAround : MethodName := ⟨RX2, "waysAround", "(I)I"⟩
def RX6 : String := "BentGardens$Reached"
def TX6 : u_T := fun k => match k with
  | 0 => ("BentGardens$Reached", "size", "I", false)
  | 1 => ("BentGardens$Reached", "windows", "[I", true)
  | _ => ("BentGardens$Reached", "ways", "[I", true)
def tyX6 : Nat → FieldType := fun k => match k with
  | 0 => .int
  | 1 => .array .int
  | _ => .array .int
abbrev wsX60 : List Cond := u_ws RX6 TX6 3
theorem nmX6 : ∀ a, a < 3 → ∀ b, b < 3 → a ≠ b → (TX6 a).2.1 ≠ (TX6 b).2.1 := by decide +kernel
theorem tyX6_ok : ∀ k, k < 3 → parseFieldDescriptor (TX6 k).2.2.1 = some (tyX6 k) := by decide +kernel
abbrev cX6_init : ByteArray := prog_5_method_1_code
def yX6_init : MethodName := ⟨RX6, "<init>", "()V"⟩
abbrev cX6_clear : ByteArray := prog_5_method_2_code
def yX6_clear : MethodName := ⟨RX6, "clear", "()V"⟩
abbrev cX6_add : ByteArray := prog_5_method_3_code
def yX6_add : MethodName := ⟨RX6, "add", "(II)V"⟩
abbrev cX6_windowAt : ByteArray := prog_5_method_4_code
def yX6_windowAt : MethodName := ⟨RX6, "windowAt", "(I)I"⟩
abbrev cX6_waysTo : ByteArray := prog_5_method_5_code
def yX6_waysTo : MethodName := ⟨RX6, "waysTo", "(I)I"⟩
def RX3 : String := "BentGardens$Reader"
def TX3 : u_T := fun k => match k with
  | 0 => ("BentGardens$Reader", "wide", "I", false)
  | 1 => ("BentGardens$Reader", "row", "I", false)
  | 2 => ("BentGardens$Reader", "pondPlace", "I", false)
  | 3 => ("BentGardens$Reader", "walls", "J", false)
  | _ => ("BentGardens$Reader", "column", "I", false)
def tyX3 : Nat → FieldType := fun k => match k with
  | 0 => .int
  | 1 => .int
  | 2 => .int
  | 3 => .long
  | _ => .int
abbrev wsX30 : List Cond := u_ws RX3 TX3 5
theorem nmX3 : ∀ a, a < 5 → ∀ b, b < 5 → a ≠ b → (TX3 a).2.1 ≠ (TX3 b).2.1 := by decide +kernel
theorem tyX3_ok : ∀ k, k < 5 → parseFieldDescriptor (TX3 k).2.2.1 = some (tyX3 k) := by decide +kernel
abbrev cX3_init : ByteArray := prog_6_method_1_code
def yX3_init : MethodName := ⟨RX3, "<init>", "()V"⟩
abbrev cX3_isNext : ByteArray := prog_6_method_2_code
def yX3_isNext : MethodName := ⟨RX3, "isNext", "(I)Z"⟩
abbrev cX3_isRowWhole : ByteArray := prog_6_method_3_code
def yX3_isRowWhole : MethodName := ⟨RX3, "isRowWhole", "()Z"⟩
abbrev cX3_isLastForPond : ByteArray := prog_6_method_4_code
def yX3_isLastForPond : MethodName := ⟨RX3, "isLastForPond", "()Z"⟩
abbrev cX3_take : ByteArray := prog_6_method_5_code
def yX3_take : MethodName := ⟨RX3, "take", "(I)V"⟩
abbrev cX3_isWhole : ByteArray := prog_6_method_6_code
def yX3_isWhole : MethodName := ⟨RX3, "isWhole", "()Z"⟩
def RX4 : String := "BentGardens"
def TX4 : u_T := fun k => match k with
  | 0 => ("BentGardens", "saved", "Ljava/util/ArrayList;", true)
  | 1 => ("BentGardens", "slots", "[LBentGardens$Garden;", true)
  | 2 => ("BentGardens", "buffer", "LBentGardens$Buffer;", true)
  | 3 => ("BentGardens", "paver", "LBentGardens$Paver;", true)
  | _ => ("BentGardens", "now", "LBentGardens$Garden;", false)
def tyX4 : Nat → FieldType := fun k => match k with
  | 0 => .object "java/util/ArrayList"
  | 1 => .array (.object "BentGardens$Garden")
  | 2 => .object "BentGardens$Buffer"
  | 3 => .object "BentGardens$Paver"
  | _ => .object "BentGardens$Garden"
abbrev wsX40 : List Cond := u_ws RX4 TX4 5
theorem nmX4 : ∀ a, a < 5 → ∀ b, b < 5 → a ≠ b → (TX4 a).2.1 ≠ (TX4 b).2.1 := by decide +kernel
theorem tyX4_ok : ∀ k, k < 5 → parseFieldDescriptor (TX4 k).2.2.1 = some (tyX4 k) := by decide +kernel
abbrev cX4_init : ByteArray := prog_1_method_1_code
def yX4_init : MethodName := ⟨RX4, "<init>", "()V"⟩
abbrev cX4_garden : ByteArray := prog_1_method_2_code
def yX4_garden : MethodName := ⟨RX4, "garden", "(II)I"⟩
abbrev cX4_pond : ByteArray := prog_1_method_3_code
def yX4_pond : MethodName := ⟨RX4, "pond", "(II)I"⟩
abbrev cX4_wall : ByteArray := prog_1_method_4_code
def yX4_wall : MethodName := ⟨RX4, "wall", "(II)I"⟩
abbrev cX4_lay : ByteArray := prog_1_method_5_code
def yX4_lay : MethodName := ⟨RX4, "lay", "(III)I"⟩
abbrev cX4_lift : ByteArray := prog_1_method_6_code
def yX4_lift : MethodName := ⟨RX4, "lift", "(II)I"⟩
abbrev cX4_flip : ByteArray := prog_1_method_7_code
def yX4_flip : MethodName := ⟨RX4, "flip", "(IIZ)I"⟩
abbrev cX4_fill : ByteArray := prog_1_method_8_code
def yX4_fill : MethodName := ⟨RX4, "fill", "()I"⟩
abbrev cX4_halve : ByteArray := prog_1_method_9_code
def yX4_halve : MethodName := ⟨RX4, "halve", "()I"⟩
abbrev cX4_append : ByteArray := prog_1_method_10_code
def yX4_append : MethodName := ⟨RX4, "append", "(I)I"⟩
abbrev cX4_firstError : ByteArray := prog_1_method_12_code
def yX4_firstError : MethodName := ⟨RX4, "firstError", "()I"⟩
abbrev cX4_load : ByteArray := prog_1_method_13_code
def yX4_load : MethodName := ⟨RX4, "load", "()I"⟩
abbrev cX4_keep : ByteArray := prog_1_method_14_code
def yX4_keep : MethodName := ⟨RX4, "keep", "(I)I"⟩
abbrev cX4_goBack : ByteArray := prog_1_method_15_code
def yX4_goBack : MethodName := ⟨RX4, "goBack", "(I)I"⟩
abbrev cX4_undo : ByteArray := prog_1_method_16_code
def yX4_undo : MethodName := ⟨RX4, "undo", "()I"⟩
abbrev cX4_cell : ByteArray := prog_1_method_17_code
def yX4_cell : MethodName := ⟨RX4, "cell", "(III)I"⟩
abbrev cX4_triple : ByteArray := prog_1_method_18_code
def yX4_triple : MethodName := ⟨RX4, "triple", "(II)I"⟩
abbrev cX4_row : ByteArray := prog_1_method_19_code
def yX4_row : MethodName := ⟨RX4, "row", "(II)I"⟩
abbrev cX4_count : ByteArray := prog_1_method_20_code
def yX4_count : MethodName := ⟨RX4, "count", "(I)I"⟩
abbrev cX4_whyNot : ByteArray := prog_1_method_21_code
def yX4_whyNot : MethodName := ⟨RX4, "whyNot", "(III)I"⟩
abbrev cX4_ways : ByteArray := prog_1_method_22_code
def yX4_ways : MethodName := ⟨RX4, "ways", "()I"⟩
abbrev cX4_waysWith : ByteArray := prog_1_method_23_code
def yX4_waysWith : MethodName := ⟨RX4, "waysWith", "(III)I"⟩
abbrev cX4_forced : ByteArray := prog_1_method_24_code
def yX4_forced : MethodName := ⟨RX4, "forced", "(I)I"⟩
abbrev cX4_lonely : ByteArray := prog_1_method_25_code
def yX4_lonely : MethodName := ⟨RX4, "lonely", "()I"⟩
abbrev cX4_bestPond : ByteArray := prog_1_method_26_code
def yX4_bestPond : MethodName := ⟨RX4, "bestPond", "()I"⟩
abbrev cX4_isSide : ByteArray := prog_1_method_36_code
def yX4_isSide : MethodName := ⟨RX4, "isSide", "(I)Z"⟩
abbrev cX4_requireCell : ByteArray := prog_1_method_37_code
def yX4_requireCell : MethodName := ⟨RX4, "requireCell", "(II)V"⟩
abbrev cX4_requireTurn : ByteArray := prog_1_method_38_code
def yX4_requireTurn : MethodName := ⟨RX4, "requireTurn", "(I)V"⟩
abbrev cX4_requireProperty : ByteArray := prog_1_method_39_code
def yX4_requireProperty : MethodName := ⟨RX4, "requireProperty", "(I)V"⟩
abbrev cX4_requireSlot : ByteArray := prog_1_method_40_code
def yX4_requireSlot : MethodName := ⟨RX4, "requireSlot", "(I)V"⟩
abbrev cX4_saveState : ByteArray := prog_1_method_41_code
def yX4_saveState : MethodName := ⟨RX4, "saveState", "()V"⟩
abbrev cX4_placeOf : ByteArray := prog_1_method_42_code
def yX4_placeOf : MethodName := ⟨RX4, "placeOf", "(II)I"⟩
abbrev cX4_cellAt : ByteArray := prog_1_method_43_code
def yX4_cellAt : MethodName := ⟨RX4, "cellAt", "(II)J"⟩
abbrev cX4_holds : ByteArray := prog_1_method_44_code
def yX4_holds : MethodName := ⟨RX4, "holds", "(JI)Z"⟩
abbrev cX4_rowMask : ByteArray := prog_1_method_45_code
def yX4_rowMask : MethodName := ⟨RX4, "rowMask", "(JI)I"⟩
abbrev cX4_cellsOf : ByteArray := prog_1_method_46_code
def yX4_cellsOf : MethodName := ⟨RX4, "cellsOf", "(III)J"⟩
abbrev cX4_cellName : ByteArray := prog_1_method_47_code
def yX4_cellName : MethodName := ⟨RX4, "cellName", "(I)I"⟩
abbrev cX4_nameOf : ByteArray := prog_1_method_48_code
def yX4_nameOf : MethodName := ⟨RX4, "nameOf", "(III)I"⟩
abbrev cX4_columnOf : ByteArray := prog_1_method_49_code
def yX4_columnOf : MethodName := ⟨RX4, "columnOf", "(I)I"⟩
abbrev cX4_rowOf : ByteArray := prog_1_method_50_code
def yX4_rowOf : MethodName := ⟨RX4, "rowOf", "(I)I"⟩
abbrev cX4_turnOf : ByteArray := prog_1_method_51_code
def yX4_turnOf : MethodName := ⟨RX4, "turnOf", "(I)I"⟩
def RX5 : String := "BentGardensModel"
def TX5 : u_T := fun k => match k with
  | _ => ("", "", "", false)
def tyX5 : Nat → FieldType := fun k => match k with
  | _ => .int
abbrev wsX50 : List Cond := u_ws RX5 TX5 0
theorem nmX5 : ∀ a, a < 0 → ∀ b, b < 0 → a ≠ b → (TX5 a).2.1 ≠ (TX5 b).2.1 := by decide +kernel
theorem tyX5_ok : ∀ k, k < 0 → parseFieldDescriptor (TX5 k).2.2.1 = some (tyX5 k) := by decide +kernel
def RJx145de : String := "java/io/Serializable"
def TJx145de : u_T := fun k => match k with
  | _ => ("", "", "", false)
def tyJx145de : Nat → FieldType := fun k => match k with
  | _ => .int
abbrev wsJx145de0 : List Cond := u_ws RJx145de TJx145de 0
theorem nmJx145de : ∀ a, a < 0 → ∀ b, b < 0 → a ≠ b → (TJx145de a).2.1 ≠ (TJx145de b).2.1 := by decide +kernel
theorem tyJx145de_ok : ∀ k, k < 0 → parseFieldDescriptor (TJx145de k).2.2.1 = some (tyJx145de k) := by decide +kernel
def RJx8e188 : String := "java/lang/Cloneable"
def TJx8e188 : u_T := fun k => match k with
  | _ => ("", "", "", false)
def tyJx8e188 : Nat → FieldType := fun k => match k with
  | _ => .int
abbrev wsJx8e1880 : List Cond := u_ws RJx8e188 TJx8e188 0
theorem nmJx8e188 : ∀ a, a < 0 → ∀ b, b < 0 → a ≠ b → (TJx8e188 a).2.1 ≠ (TJx8e188 b).2.1 := by decide +kernel
theorem tyJx8e188_ok : ∀ k, k < 0 → parseFieldDescriptor (TJx8e188 k).2.2.1 = some (tyJx8e188 k) := by decide +kernel
def RJxb160c : String := "java/lang/Comparable"
def TJxb160c : u_T := fun k => match k with
  | _ => ("", "", "", false)
def tyJxb160c : Nat → FieldType := fun k => match k with
  | _ => .int
abbrev wsJxb160c0 : List Cond := u_ws RJxb160c TJxb160c 0
theorem nmJxb160c : ∀ a, a < 0 → ∀ b, b < 0 → a ≠ b → (TJxb160c a).2.1 ≠ (TJxb160c b).2.1 := by decide +kernel
theorem tyJxb160c_ok : ∀ k, k < 0 → parseFieldDescriptor (TJxb160c k).2.2.1 = some (tyJxb160c k) := by decide +kernel
def RJ6 : String := "java/lang/Integer"
def TJ6 : u_T := fun k => match k with
  | _ => ("", "", "", false)
def tyJ6 : Nat → FieldType := fun k => match k with
  | _ => .int
abbrev wsJ60 : List Cond := u_ws RJ6 TJ6 0
theorem nmJ6 : ∀ a, a < 0 → ∀ b, b < 0 → a ≠ b → (TJ6 a).2.1 ≠ (TJ6 b).2.1 := by decide +kernel
theorem tyJ6_ok : ∀ k, k < 0 → parseFieldDescriptor (TJ6 k).2.2.1 = some (tyJ6 k) := by decide +kernel
abbrev cJ6_numberOfLeadingZeros_0f7a4 : ByteArray := prog_16_method_47_code
def yJ6_numberOfLeadingZeros_0f7a4 : MethodName := ⟨RJ6, "numberOfLeadingZeros", "(I)I"⟩
abbrev cJ6_numberOfTrailingZeros_0f7a4 : ByteArray := prog_16_method_48_code
def yJ6_numberOfTrailingZeros_0f7a4 : MethodName := ⟨RJ6, "numberOfTrailingZeros", "(I)I"⟩
def RJxab1ab : String := "java/lang/Iterable"
def TJxab1ab : u_T := fun k => match k with
  | _ => ("", "", "", false)
def tyJxab1ab : Nat → FieldType := fun k => match k with
  | _ => .int
abbrev wsJxab1ab0 : List Cond := u_ws RJxab1ab TJxab1ab 0
theorem nmJxab1ab : ∀ a, a < 0 → ∀ b, b < 0 → a ≠ b → (TJxab1ab a).2.1 ≠ (TJxab1ab b).2.1 := by decide +kernel
theorem tyJxab1ab_ok : ∀ k, k < 0 → parseFieldDescriptor (TJxab1ab k).2.2.1 = some (tyJxab1ab k) := by decide +kernel
def RJ13 : String := "java/lang/Long"
def TJ13 : u_T := fun k => match k with
  | _ => ("", "", "", false)
def tyJ13 : Nat → FieldType := fun k => match k with
  | _ => .int
abbrev wsJ130 : List Cond := u_ws RJ13 TJ13 0
theorem nmJ13 : ∀ a, a < 0 → ∀ b, b < 0 → a ≠ b → (TJ13 a).2.1 ≠ (TJ13 b).2.1 := by decide +kernel
theorem tyJ13_ok : ∀ k, k < 0 → parseFieldDescriptor (TJ13 k).2.2.1 = some (tyJ13 k) := by decide +kernel
abbrev cJ13_numberOfLeadingZeros_95d88 : ByteArray := prog_18_method_48_code
def yJ13_numberOfLeadingZeros_95d88 : MethodName := ⟨RJ13, "numberOfLeadingZeros", "(J)I"⟩
abbrev cJ13_numberOfTrailingZeros_95d88 : ByteArray := prog_18_method_49_code
def yJ13_numberOfTrailingZeros_95d88 : MethodName := ⟨RJ13, "numberOfTrailingZeros", "(J)I"⟩
abbrev cJ13_bitCount_95d88 : ByteArray := prog_18_method_50_code
def yJ13_bitCount_95d88 : MethodName := ⟨RJ13, "bitCount", "(J)I"⟩
def RJ9 : String := "java/lang/Math"
def TJ9 : u_T := fun k => match k with
  | _ => ("", "", "", false)
def tyJ9 : Nat → FieldType := fun k => match k with
  | _ => .int
abbrev wsJ90 : List Cond := u_ws RJ9 TJ9 0
theorem nmJ9 : ∀ a, a < 0 → ∀ b, b < 0 → a ≠ b → (TJ9 a).2.1 ≠ (TJ9 b).2.1 := by decide +kernel
theorem tyJ9_ok : ∀ k, k < 0 → parseFieldDescriptor (TJ9 k).2.2.1 = some (tyJ9 k) := by decide +kernel
abbrev cJ9_max_7cf53 : ByteArray := prog_19_method_65_code
def yJ9_max_7cf53 : MethodName := ⟨RJ9, "max", "(II)I"⟩
abbrev cJ9_min_7cf53 : ByteArray := prog_19_method_69_code
def yJ9_min_7cf53 : MethodName := ⟨RJ9, "min", "(II)I"⟩
def RJxd2413 : String := "java/lang/Number"
def TJxd2413 : u_T := fun k => match k with
  | _ => ("", "", "", false)
def tyJxd2413 : Nat → FieldType := fun k => match k with
  | _ => .int
abbrev wsJxd24130 : List Cond := u_ws RJxd2413 TJxd2413 0
theorem nmJxd2413 : ∀ a, a < 0 → ∀ b, b < 0 → a ≠ b → (TJxd2413 a).2.1 ≠ (TJxd2413 b).2.1 := by decide +kernel
theorem tyJxd2413_ok : ∀ k, k < 0 → parseFieldDescriptor (TJxd2413 k).2.2.1 = some (tyJxd2413 k) := by decide +kernel
def RJ0 : String := "java/lang/String"
def TJ0 : u_T := fun k => match k with
  | _ => ("", "", "", false)
def tyJ0 : Nat → FieldType := fun k => match k with
  | _ => .int
abbrev wsJ00 : List Cond := u_ws RJ0 TJ0 0
theorem nmJ0 : ∀ a, a < 0 → ∀ b, b < 0 → a ≠ b → (TJ0 a).2.1 ≠ (TJ0 b).2.1 := by decide +kernel
theorem tyJ0_ok : ∀ k, k < 0 → parseFieldDescriptor (TJ0 k).2.2.1 = some (tyJ0 k) := by decide +kernel
def RJ10 : String := "java/lang/System"
def TJ10 : u_T := fun k => match k with
  | _ => ("", "", "", false)
def tyJ10 : Nat → FieldType := fun k => match k with
  | _ => .int
abbrev wsJ100 : List Cond := u_ws RJ10 TJ10 0
theorem nmJ10 : ∀ a, a < 0 → ∀ b, b < 0 → a ≠ b → (TJ10 a).2.1 ≠ (TJ10 b).2.1 := by decide +kernel
theorem tyJ10_ok : ∀ k, k < 0 → parseFieldDescriptor (TJ10 k).2.2.1 = some (tyJ10 k) := by decide +kernel
def RJxfd54e : String := "java/lang/constant/Constable"
def TJxfd54e : u_T := fun k => match k with
  | _ => ("", "", "", false)
def tyJxfd54e : Nat → FieldType := fun k => match k with
  | _ => .int
abbrev wsJxfd54e0 : List Cond := u_ws RJxfd54e TJxfd54e 0
theorem nmJxfd54e : ∀ a, a < 0 → ∀ b, b < 0 → a ≠ b → (TJxfd54e a).2.1 ≠ (TJxfd54e b).2.1 := by decide +kernel
theorem tyJxfd54e_ok : ∀ k, k < 0 → parseFieldDescriptor (TJxfd54e k).2.2.1 = some (tyJxfd54e k) := by decide +kernel
def RJx3cf43 : String := "java/lang/constant/ConstantDesc"
def TJx3cf43 : u_T := fun k => match k with
  | _ => ("", "", "", false)
def tyJx3cf43 : Nat → FieldType := fun k => match k with
  | _ => .int
abbrev wsJx3cf430 : List Cond := u_ws RJx3cf43 TJx3cf43 0
theorem nmJx3cf43 : ∀ a, a < 0 → ∀ b, b < 0 → a ≠ b → (TJx3cf43 a).2.1 ≠ (TJx3cf43 b).2.1 := by decide +kernel
theorem tyJx3cf43_ok : ∀ k, k < 0 → parseFieldDescriptor (TJx3cf43 k).2.2.1 = some (tyJx3cf43 k) := by decide +kernel
def RJxa1e45 : String := "java/util/AbstractCollection"
def TJxa1e45 : u_T := fun k => match k with
  | _ => ("", "", "", false)
def tyJxa1e45 : Nat → FieldType := fun k => match k with
  | _ => .int
abbrev wsJxa1e450 : List Cond := u_ws RJxa1e45 TJxa1e45 0
theorem nmJxa1e45 : ∀ a, a < 0 → ∀ b, b < 0 → a ≠ b → (TJxa1e45 a).2.1 ≠ (TJxa1e45 b).2.1 := by decide +kernel
theorem tyJxa1e45_ok : ∀ k, k < 0 → parseFieldDescriptor (TJxa1e45 k).2.2.1 = some (tyJxa1e45 k) := by decide +kernel
abbrev cJxa1e45_init_da8c8 : ByteArray := prog_27_method_1_code
def yJxa1e45_init_da8c8 : MethodName := ⟨RJxa1e45, "<init>", "()V"⟩
def RJxc12de : String := "java/util/AbstractList"
def TJxc12de : u_T := fun k => match k with
  | _ => ("", "", "", false)
def tyJxc12de : Nat → FieldType := fun k => match k with
  | _ => .int
abbrev wsJxc12de0 : List Cond := u_ws RJxc12de TJxc12de 0
theorem nmJxc12de : ∀ a, a < 0 → ∀ b, b < 0 → a ≠ b → (TJxc12de a).2.1 ≠ (TJxc12de b).2.1 := by decide +kernel
theorem tyJxc12de_ok : ∀ k, k < 0 → parseFieldDescriptor (TJxc12de k).2.2.1 = some (tyJxc12de k) := by decide +kernel
abbrev cJxc12de_init_da8c8 : ByteArray := prog_28_method_1_code
def yJxc12de_init_da8c8 : MethodName := ⟨RJxc12de, "<init>", "()V"⟩
def RJx4a65c : String := "java/util/ArrayList"
def TJx4a65c : u_T := fun k => match k with
  | 0 => ("java/util/AbstractList", "modCount", "I", false)
  | 1 => ("java/util/ArrayList", "elementData", "[Ljava/lang/Object;", false)
  | _ => ("java/util/ArrayList", "size", "I", false)
def tyJx4a65c : Nat → FieldType := fun k => match k with
  | 0 => .int
  | 1 => .array (.object "java/lang/Object")
  | _ => .int
abbrev wsJx4a65c0 : List Cond := u_ws RJx4a65c TJx4a65c 3
theorem nmJx4a65c : ∀ a, a < 3 → ∀ b, b < 3 → a ≠ b → (TJx4a65c a).2.1 ≠ (TJx4a65c b).2.1 := by decide +kernel
theorem tyJx4a65c_ok : ∀ k, k < 3 → parseFieldDescriptor (TJx4a65c k).2.2.1 = some (tyJx4a65c k) := by decide +kernel
abbrev cJx4a65c_init_da8c8 : ByteArray := prog_29_method_2_code
def yJx4a65c_init_da8c8 : MethodName := ⟨RJx4a65c, "<init>", "()V"⟩
abbrev cJx4a65c_grow_92f84 : ByteArray := prog_29_method_6_code
def yJx4a65c_grow_92f84 : MethodName := ⟨RJx4a65c, "grow", "(I)[Ljava/lang/Object;"⟩
abbrev cJx4a65c_grow_d5877 : ByteArray := prog_29_method_7_code
def yJx4a65c_grow_d5877 : MethodName := ⟨RJx4a65c, "grow", "()[Ljava/lang/Object;"⟩
abbrev cJx4a65c_size_8abf5 : ByteArray := prog_29_method_8_code
def yJx4a65c_size_8abf5 : MethodName := ⟨RJx4a65c, "size", "()I"⟩
abbrev cJx4a65c_elementData_915e3 : ByteArray := prog_29_method_18_code
def yJx4a65c_elementData_915e3 : MethodName := ⟨RJx4a65c, "elementData", "(I)Ljava/lang/Object;"⟩
abbrev cJx4a65c_get_915e3 : ByteArray := prog_29_method_20_code
def yJx4a65c_get_915e3 : MethodName := ⟨RJx4a65c, "get", "(I)Ljava/lang/Object;"⟩
abbrev cJx4a65c_add_72be8 : ByteArray := prog_29_method_24_code
def yJx4a65c_add_72be8 : MethodName := ⟨RJx4a65c, "add", "(Ljava/lang/Object;[Ljava/lang/Object;I)V"⟩
abbrev cJx4a65c_add_9ea2d : ByteArray := prog_29_method_25_code
def yJx4a65c_add_9ea2d : MethodName := ⟨RJx4a65c, "add", "(Ljava/lang/Object;)Z"⟩
abbrev cJx4a65c_remove_915e3 : ByteArray := prog_29_method_29_code
def yJx4a65c_remove_915e3 : MethodName := ⟨RJx4a65c, "remove", "(I)Ljava/lang/Object;"⟩
abbrev cJx4a65c_fastRemove_b59b0 : ByteArray := prog_29_method_39_code
def yJx4a65c_fastRemove_b59b0 : MethodName := ⟨RJx4a65c, "fastRemove", "([Ljava/lang/Object;I)V"⟩
def RJ7 : String := "java/util/Arrays"
def TJ7 : u_T := fun k => match k with
  | _ => ("", "", "", false)
def tyJ7 : Nat → FieldType := fun k => match k with
  | _ => .int
abbrev wsJ70 : List Cond := u_ws RJ7 TJ7 0
theorem nmJ7 : ∀ a, a < 0 → ∀ b, b < 0 → a ≠ b → (TJ7 a).2.1 ≠ (TJ7 b).2.1 := by decide +kernel
theorem tyJ7_ok : ∀ k, k < 0 → parseFieldDescriptor (TJ7 k).2.2.1 = some (tyJ7 k) := by decide +kernel
abbrev cJ7_fill_53178 : ByteArray := prog_30_method_103_code
def yJ7_fill_53178 : MethodName := ⟨RJ7, "fill", "([II)V"⟩
abbrev cJ7_copyOf_1904c : ByteArray := prog_30_method_119_code
def yJ7_copyOf_1904c : MethodName := ⟨RJ7, "copyOf", "([Ljava/lang/Object;I)[Ljava/lang/Object;"⟩
abbrev cJ7_copyOf_6403c : ByteArray := prog_30_method_120_code
def yJ7_copyOf_6403c : MethodName := ⟨RJ7, "copyOf", "([Ljava/lang/Object;ILjava/lang/Class;)[Ljava/lang/Object;"⟩
def RJx5ef63 : String := "java/util/Collection"
def TJx5ef63 : u_T := fun k => match k with
  | _ => ("", "", "", false)
def tyJx5ef63 : Nat → FieldType := fun k => match k with
  | _ => .int
abbrev wsJx5ef630 : List Cond := u_ws RJx5ef63 TJx5ef63 0
theorem nmJx5ef63 : ∀ a, a < 0 → ∀ b, b < 0 → a ≠ b → (TJx5ef63 a).2.1 ≠ (TJx5ef63 b).2.1 := by decide +kernel
theorem tyJx5ef63_ok : ∀ k, k < 0 → parseFieldDescriptor (TJx5ef63 k).2.2.1 = some (tyJx5ef63 k) := by decide +kernel
def RJxbd725 : String := "java/util/List"
def TJxbd725 : u_T := fun k => match k with
  | _ => ("", "", "", false)
def tyJxbd725 : Nat → FieldType := fun k => match k with
  | _ => .int
abbrev wsJxbd7250 : List Cond := u_ws RJxbd725 TJxbd725 0
theorem nmJxbd725 : ∀ a, a < 0 → ∀ b, b < 0 → a ≠ b → (TJxbd725 a).2.1 ≠ (TJxbd725 b).2.1 := by decide +kernel
theorem tyJxbd725_ok : ∀ k, k < 0 → parseFieldDescriptor (TJxbd725 k).2.2.1 = some (tyJxbd725 k) := by decide +kernel
def RJ15 : String := "java/util/Objects"
def TJ15 : u_T := fun k => match k with
  | _ => ("", "", "", false)
def tyJ15 : Nat → FieldType := fun k => match k with
  | _ => .int
abbrev wsJ150 : List Cond := u_ws RJ15 TJ15 0
theorem nmJ15 : ∀ a, a < 0 → ∀ b, b < 0 → a ≠ b → (TJ15 a).2.1 ≠ (TJ15 b).2.1 := by decide +kernel
theorem tyJ15_ok : ∀ k, k < 0 → parseFieldDescriptor (TJ15 k).2.2.1 = some (tyJ15 k) := by decide +kernel
abbrev cJ15_checkIndex_7cf53 : ByteArray := prog_33_method_17_code
def yJ15_checkIndex_7cf53 : MethodName := ⟨RJ15, "checkIndex", "(II)I"⟩
def RJxf0a74 : String := "java/util/RandomAccess"
def TJxf0a74 : u_T := fun k => match k with
  | _ => ("", "", "", false)
def tyJxf0a74 : Nat → FieldType := fun k => match k with
  | _ => .int
abbrev wsJxf0a740 : List Cond := u_ws RJxf0a74 TJxf0a74 0
theorem nmJxf0a74 : ∀ a, a < 0 → ∀ b, b < 0 → a ≠ b → (TJxf0a74 a).2.1 ≠ (TJxf0a74 b).2.1 := by decide +kernel
theorem tyJxf0a74_ok : ∀ k, k < 0 → parseFieldDescriptor (TJxf0a74 k).2.2.1 = some (tyJxf0a74 k) := by decide +kernel
def RJxa66e6 : String := "java/util/SequencedCollection"
def TJxa66e6 : u_T := fun k => match k with
  | _ => ("", "", "", false)
def tyJxa66e6 : Nat → FieldType := fun k => match k with
  | _ => .int
abbrev wsJxa66e60 : List Cond := u_ws RJxa66e6 TJxa66e6 0
theorem nmJxa66e6 : ∀ a, a < 0 → ∀ b, b < 0 → a ≠ b → (TJxa66e6 a).2.1 ≠ (TJxa66e6 b).2.1 := by decide +kernel
theorem tyJxa66e6_ok : ∀ k, k < 0 → parseFieldDescriptor (TJxa66e6 k).2.2.1 = some (tyJxa66e6 k) := by decide +kernel
def RJ8 : String := "jdk/internal/util/ArraysSupport"
def TJ8 : u_T := fun k => match k with
  | _ => ("", "", "", false)
def tyJ8 : Nat → FieldType := fun k => match k with
  | _ => .int
abbrev wsJ80 : List Cond := u_ws RJ8 TJ8 0
theorem nmJ8 : ∀ a, a < 0 → ∀ b, b < 0 → a ≠ b → (TJ8 a).2.1 ≠ (TJ8 b).2.1 := by decide +kernel
theorem tyJ8_ok : ∀ k, k < 0 → parseFieldDescriptor (TJ8 k).2.2.1 = some (tyJ8 k) := by decide +kernel
abbrev cJ8_newLength_cabcc : ByteArray := prog_36_method_27_code
def yJ8_newLength_cabcc : MethodName := ⟨RJ8, "newLength", "(III)I"⟩
abbrev cJ8_hugeLength_7cf53 : ByteArray := prog_36_method_28_code
def yJ8_hugeLength_7cf53 : MethodName := ⟨RJ8, "hugeLength", "(II)I"⟩
def RJ3 : String := "jdk/internal/util/Preconditions"
def TJ3 : u_T := fun k => match k with
  | _ => ("", "", "", false)
def tyJ3 : Nat → FieldType := fun k => match k with
  | _ => .int
abbrev wsJ30 : List Cond := u_ws RJ3 TJ3 0
theorem nmJ3 : ∀ a, a < 0 → ∀ b, b < 0 → a ≠ b → (TJ3 a).2.1 ≠ (TJ3 b).2.1 := by decide +kernel
theorem tyJ3_ok : ∀ k, k < 0 → parseFieldDescriptor (TJ3 k).2.2.1 = some (tyJ3 k) := by decide +kernel
abbrev cJ3_checkIndex_8e157 : ByteArray := prog_37_method_11_code
def yJ3_checkIndex_8e157 : MethodName := ⟨RJ3, "checkIndex", "(IILjava/util/function/BiFunction;)I"⟩
def RL : String := "BentGardensLaw"
abbrev cL_cell : ByteArray := method_2_code
def yL_cell : MethodName := ⟨RL, "cell", "([II)I"⟩
abbrev cL_garden : ByteArray := method_3_code
def yL_garden : MethodName := ⟨RL, "garden", "(LBentGardens;II)I"⟩
abbrev cL_pond : ByteArray := method_4_code
def yL_pond : MethodName := ⟨RL, "pond", "(LBentGardens;II)I"⟩
abbrev cL_wall : ByteArray := method_5_code
def yL_wall : MethodName := ⟨RL, "wall", "(LBentGardens;II)I"⟩
abbrev cL_lay : ByteArray := method_6_code
def yL_lay : MethodName := ⟨RL, "lay", "(LBentGardens;III)I"⟩
abbrev cL_lift : ByteArray := method_7_code
def yL_lift : MethodName := ⟨RL, "lift", "(LBentGardens;II)I"⟩
abbrev cL_flip : ByteArray := method_8_code
def yL_flip : MethodName := ⟨RL, "flip", "(LBentGardens;IIZ)I"⟩
abbrev cL_fill : ByteArray := method_9_code
def yL_fill : MethodName := ⟨RL, "fill", "(LBentGardens;)I"⟩
abbrev cL_halve : ByteArray := method_10_code
def yL_halve : MethodName := ⟨RL, "halve", "(LBentGardens;)I"⟩
abbrev cL_append : ByteArray := method_11_code
def yL_append : MethodName := ⟨RL, "append", "(LBentGardens;I)I"⟩
abbrev cL_load : ByteArray := method_12_code
def yL_load : MethodName := ⟨RL, "load", "(LBentGardens;)I"⟩
abbrev cL_keep : ByteArray := method_13_code
def yL_keep : MethodName := ⟨RL, "keep", "(LBentGardens;I)I"⟩
abbrev cL_goBack : ByteArray := method_14_code
def yL_goBack : MethodName := ⟨RL, "goBack", "(LBentGardens;I)I"⟩
abbrev cL_undo : ByteArray := method_15_code
def yL_undo : MethodName := ⟨RL, "undo", "(LBentGardens;)I"⟩
abbrev cL_cellOf : ByteArray := method_16_code
def yL_cellOf : MethodName := ⟨RL, "cellOf", "(LBentGardens;III)I"⟩
abbrev cL_triple : ByteArray := method_17_code
def yL_triple : MethodName := ⟨RL, "triple", "(LBentGardens;II)I"⟩
abbrev cL_row : ByteArray := method_18_code
def yL_row : MethodName := ⟨RL, "row", "(LBentGardens;II)I"⟩
abbrev cL_count : ByteArray := method_19_code
def yL_count : MethodName := ⟨RL, "count", "(LBentGardens;I)I"⟩
abbrev cL_whyNot : ByteArray := method_20_code
def yL_whyNot : MethodName := ⟨RL, "whyNot", "(LBentGardens;III)I"⟩
abbrev cL_waysWith : ByteArray := method_21_code
def yL_waysWith : MethodName := ⟨RL, "waysWith", "(LBentGardens;III)I"⟩
abbrev cL_forced : ByteArray := method_22_code
def yL_forced : MethodName := ⟨RL, "forced", "(LBentGardens;I)I"⟩
abbrev cL_acts : ByteArray := method_23_code
def yL_acts : MethodName := ⟨RL, "acts", "(LBentGardens;I)I"⟩
abbrev cL_bits : ByteArray := method_24_code
def yL_bits : MethodName := ⟨RL, "bits", "(I)I"⟩
abbrev cL_hangs : ByteArray := method_25_code
def yL_hangs : MethodName := ⟨RL, "hangs", "(LBentGardens;)Z"⟩
abbrev cL_addsUp : ByteArray := method_26_code
def yL_addsUp : MethodName := ⟨RL, "addsUp", "(LBentGardens;)Z"⟩
abbrev cL_law : ByteArray := code
def yL_law : MethodName := ⟨RL, "law", "([I)Z"⟩
abbrev vwCl : List vw_C := [(RJx4a65c, TJx4a65c, 3), (RX0, TX0, 2), (RX1, TX1, 9), (RX2, TX2, 4), (RX3, TX3, 5), (RX4, TX4, 5), (RX6, TX6, 3)]
