/-! ===== BEGIN printed: names, fields, word lists, decode rows ===== -/
def RX0 : String := "WidowWatch$Book"
def TX0 : u_T := fun k => match k with
  | 0 => ("WidowWatch$Book", "width", "I", false)
  | 1 => ("WidowWatch$Book", "height", "I", false)
  | 2 => ("WidowWatch$Book", "slack", "I", false)
  | 3 => ("WidowWatch$Book", "limit", "I", false)
  | 4 => ("WidowWatch$Book", "paragraphs", "I", false)
  | 5 => ("WidowWatch$Book", "costs", "[I", true)
  | _ => ("WidowWatch$Book", "rows", "[I", true)
def tyX0 : Nat → FieldType := fun k => match k with
  | 0 => .int
  | 1 => .int
  | 2 => .int
  | 3 => .int
  | 4 => .int
  | 5 => .array .int
  | _ => .array .int
abbrev wsX00 : List Cond := u_ws RX0 TX0 7
theorem nmX0 : ∀ a, a < 7 → ∀ b, b < 7 → a ≠ b → (TX0 a).2.1 ≠ (TX0 b).2.1 := by decide +kernel
theorem tyX0_ok : ∀ k, k < 7 → parseFieldDescriptor (TX0 k).2.2.1 = some (tyX0 k) := by decide +kernel
abbrev cX0_init : ByteArray := prog_2_method_1_code
def yX0_init : MethodName := ⟨RX0, "<init>", "()V"⟩
abbrev cX0_reset : ByteArray := prog_2_method_2_code
def yX0_reset : MethodName := ⟨RX0, "reset", "()V"⟩
abbrev cX0_copyFrom : ByteArray := prog_2_method_3_code
def yX0_copyFrom : MethodName := ⟨RX0, "copyFrom", "(LWidowWatch$Book;)V"⟩
abbrev cX0_numberOf : ByteArray := prog_2_method_4_code
def yX0_numberOf : MethodName := ⟨RX0, "numberOf", "(I)I"⟩
abbrev cX0_allWords : ByteArray := prog_2_method_5_code
def yX0_allWords : MethodName := ⟨RX0, "allWords", "()I"⟩
abbrev cX0_allFixed : ByteArray := prog_2_method_6_code
def yX0_allFixed : MethodName := ⟨RX0, "allFixed", "()I"⟩
abbrev cX0_costOf : ByteArray := prog_2_method_7_code
def yX0_costOf : MethodName := ⟨RX0, "costOf", "(I)I"⟩
abbrev cX0_setCostOf : ByteArray := prog_2_method_8_code
def yX0_setCostOf : MethodName := ⟨RX0, "setCostOf", "(II)V"⟩
abbrev cX0_longestWord : ByteArray := prog_2_method_9_code
def yX0_longestWord : MethodName := ⟨RX0, "longestWord", "()I"⟩
abbrev cX0_lineHolds : ByteArray := prog_2_method_10_code
def yX0_lineHolds : MethodName := ⟨RX0, "lineHolds", "(I)I"⟩
abbrev cX0_wordsOf : ByteArray := prog_2_method_11_code
def yX0_wordsOf : MethodName := ⟨RX0, "wordsOf", "(I)I"⟩
abbrev cX0_wordAt : ByteArray := prog_2_method_12_code
def yX0_wordAt : MethodName := ⟨RX0, "wordAt", "(II)I"⟩
abbrev cX0_isHeading : ByteArray := prog_2_method_13_code
def yX0_isHeading : MethodName := ⟨RX0, "isHeading", "(I)Z"⟩
abbrev cX0_beginsPage : ByteArray := prog_2_method_14_code
def yX0_beginsPage : MethodName := ⟨RX0, "beginsPage", "(I)Z"⟩
abbrev cX0_fixedTo : ByteArray := prog_2_method_15_code
def yX0_fixedTo : MethodName := ⟨RX0, "fixedTo", "(I)I"⟩
abbrev cX0_setBeginsPage : ByteArray := prog_2_method_16_code
def yX0_setBeginsPage : MethodName := ⟨RX0, "setBeginsPage", "(IZ)V"⟩
abbrev cX0_fixTo : ByteArray := prog_2_method_17_code
def yX0_fixTo : MethodName := ⟨RX0, "fixTo", "(II)V"⟩
abbrev cX0_setWord : ByteArray := prog_2_method_18_code
def yX0_setWord : MethodName := ⟨RX0, "setWord", "(III)V"⟩
abbrev cX0_addWord : ByteArray := prog_2_method_19_code
def yX0_addWord : MethodName := ⟨RX0, "addWord", "(II)V"⟩
abbrev cX0_takeWordOut : ByteArray := prog_2_method_20_code
def yX0_takeWordOut : MethodName := ⟨RX0, "takeWordOut", "(II)V"⟩
abbrev cX0_openParagraph : ByteArray := prog_2_method_21_code
def yX0_openParagraph : MethodName := ⟨RX0, "openParagraph", "(IZZ)V"⟩
abbrev cX0_closeParagraph : ByteArray := prog_2_method_22_code
def yX0_closeParagraph : MethodName := ⟨RX0, "closeParagraph", "(I)V"⟩
abbrev cX0_mustEnd : ByteArray := prog_2_method_23_code
def yX0_mustEnd : MethodName := ⟨RX0, "mustEnd", "(IZ)Z"⟩
abbrev cX0_canEnd : ByteArray := prog_2_method_24_code
def yX0_canEnd : MethodName := ⟨RX0, "canEnd", "(I)Z"⟩
abbrev cX0_endCost : ByteArray := prog_2_method_25_code
def yX0_endCost : MethodName := ⟨RX0, "endCost", "(IZ)I"⟩
abbrev cX0_beginCost : ByteArray := prog_2_method_26_code
def yX0_beginCost : MethodName := ⟨RX0, "beginCost", "(IIZ)I"⟩
abbrev cX0_settingCost : ByteArray := prog_2_method_27_code
def yX0_settingCost : MethodName := ⟨RX0, "settingCost", "(II)I"⟩
def RX1 : String := "WidowWatch$History"
def TX1 : u_T := fun k => match k with
  | 0 => ("WidowWatch$History", "books", "[LWidowWatch$Book;", true)
  | 1 => ("WidowWatch$History", "next", "I", false)
  | _ => ("WidowWatch$History", "kept", "I", false)
def tyX1 : Nat → FieldType := fun k => match k with
  | 0 => .array (.object "WidowWatch$Book")
  | 1 => .int
  | _ => .int
abbrev wsX10 : List Cond := u_ws RX1 TX1 3
theorem nmX1 : ∀ a, a < 3 → ∀ b, b < 3 → a ≠ b → (TX1 a).2.1 ≠ (TX1 b).2.1 := by decide +kernel
theorem tyX1_ok : ∀ k, k < 3 → parseFieldDescriptor (TX1 k).2.2.1 = some (tyX1 k) := by decide +kernel
abbrev cX1_init : ByteArray := prog_3_method_1_code
def yX1_init : MethodName := ⟨RX1, "<init>", "()V"⟩
abbrev cX1_keep : ByteArray := prog_3_method_2_code
def yX1_keep : MethodName := ⟨RX1, "keep", "(LWidowWatch$Book;)V"⟩
abbrev cX1_bringBack : ByteArray := prog_3_method_3_code
def yX1_bringBack : MethodName := ⟨RX1, "bringBack", "(LWidowWatch$Book;)V"⟩
abbrev cX1_bookAt : ByteArray := prog_3_method_4_code
def yX1_bookAt : MethodName := ⟨RX1, "bookAt", "(I)LWidowWatch$Book;"⟩
def RX2 : String := "WidowWatch$Lines"
def TX2 : u_T := fun k => match k with
  | 0 => ("WidowWatch$Lines", "counts", "[I", true)
  | _ => ("WidowWatch$Lines", "taken", "[I", true)
def tyX2 : Nat → FieldType := fun k => match k with
  | 0 => .array .int
  | _ => .array .int
abbrev wsX20 : List Cond := u_ws RX2 TX2 2
theorem nmX2 : ∀ a, a < 2 → ∀ b, b < 2 → a ≠ b → (TX2 a).2.1 ≠ (TX2 b).2.1 := by decide +kernel
theorem tyX2_ok : ∀ k, k < 2 → parseFieldDescriptor (TX2 k).2.2.1 = some (tyX2 k) := by decide +kernel
abbrev cX2_init : ByteArray := prog_4_method_1_code
def yX2_init : MethodName := ⟨RX2, "<init>", "()V"⟩
abbrev cX2_isWidow : ByteArray := prog_4_method_2_code
def yX2_isWidow : MethodName := ⟨RX2, "isWidow", "(II)Z"⟩
abbrev cX2_isOrphan : ByteArray := prog_4_method_3_code
def yX2_isOrphan : MethodName := ⟨RX2, "isOrphan", "(II)Z"⟩
abbrev cX2_countOf : ByteArray := prog_4_method_4_code
def yX2_countOf : MethodName := ⟨RX2, "countOf", "(II)I"⟩
abbrev cX2_takenBy : ByteArray := prog_4_method_5_code
def yX2_takenBy : MethodName := ⟨RX2, "takenBy", "(III)I"⟩
abbrev cX2_breakAll : ByteArray := prog_4_method_6_code
def yX2_breakAll : MethodName := ⟨RX2, "breakAll", "(LWidowWatch$Book;)V"⟩
abbrev cX2_breakUp : ByteArray := prog_4_method_7_code
def yX2_breakUp : MethodName := ⟨RX2, "breakUp", "(LWidowWatch$Book;II)V"⟩
def RX3 : String := "WidowWatch$Plan"
def TX3 : u_T := fun k => match k with
  | 0 => ("WidowWatch$Plan", "pages", "I", false)
  | 1 => ("WidowWatch$Plan", "paragraphs", "I", false)
  | 2 => ("WidowWatch$Plan", "settings", "[I", true)
  | 3 => ("WidowWatch$Plan", "counts", "[I", true)
  | 4 => ("WidowWatch$Plan", "firstParagraphs", "[I", true)
  | 5 => ("WidowWatch$Plan", "firstLines", "[I", true)
  | _ => ("WidowWatch$Plan", "sizes", "[I", true)
def tyX3 : Nat → FieldType := fun k => match k with
  | 0 => .int
  | 1 => .int
  | 2 => .array .int
  | 3 => .array .int
  | 4 => .array .int
  | 5 => .array .int
  | _ => .array .int
abbrev wsX30 : List Cond := u_ws RX3 TX3 7
theorem nmX3 : ∀ a, a < 7 → ∀ b, b < 7 → a ≠ b → (TX3 a).2.1 ≠ (TX3 b).2.1 := by decide +kernel
theorem tyX3_ok : ∀ k, k < 7 → parseFieldDescriptor (TX3 k).2.2.1 = some (tyX3 k) := by decide +kernel
abbrev cX3_init : ByteArray := prog_5_method_1_code
def yX3_init : MethodName := ⟨RX3, "<init>", "()V"⟩
abbrev cX3_clear : ByteArray := prog_5_method_2_code
def yX3_clear : MethodName := ⟨RX3, "clear", "()V"⟩
abbrev cX3_setParagraph : ByteArray := prog_5_method_3_code
def yX3_setParagraph : MethodName := ⟨RX3, "setParagraph", "(III)V"⟩
abbrev cX3_addLine : ByteArray := prog_5_method_4_code
def yX3_addLine : MethodName := ⟨RX3, "addLine", "(IIZ)V"⟩
abbrev cX3_linesOnLastPage : ByteArray := prog_5_method_5_code
def yX3_linesOnLastPage : MethodName := ⟨RX3, "linesOnLastPage", "()I"⟩
abbrev cX3_settingOf : ByteArray := prog_5_method_6_code
def yX3_settingOf : MethodName := ⟨RX3, "settingOf", "(I)I"⟩
abbrev cX3_linesOf : ByteArray := prog_5_method_7_code
def yX3_linesOf : MethodName := ⟨RX3, "linesOf", "(I)I"⟩
abbrev cX3_firstParagraph : ByteArray := prog_5_method_8_code
def yX3_firstParagraph : MethodName := ⟨RX3, "firstParagraph", "(I)I"⟩
abbrev cX3_firstLine : ByteArray := prog_5_method_9_code
def yX3_firstLine : MethodName := ⟨RX3, "firstLine", "(I)I"⟩
abbrev cX3_pageWith : ByteArray := prog_5_method_10_code
def yX3_pageWith : MethodName := ⟨RX3, "pageWith", "(II)I"⟩
abbrev cX3_isWidow : ByteArray := prog_5_method_11_code
def yX3_isWidow : MethodName := ⟨RX3, "isWidow", "(I)Z"⟩
abbrev cX3_isOrphan : ByteArray := prog_5_method_12_code
def yX3_isOrphan : MethodName := ⟨RX3, "isOrphan", "(I)Z"⟩
abbrev cX3_isBehindHeading : ByteArray := prog_5_method_13_code
def yX3_isBehindHeading : MethodName := ⟨RX3, "isBehindHeading", "(LWidowWatch$Book;I)Z"⟩
abbrev cX3_beginCost : ByteArray := prog_5_method_14_code
def yX3_beginCost : MethodName := ⟨RX3, "beginCost", "(LWidowWatch$Book;I)I"⟩
abbrev cX3_endCost : ByteArray := prog_5_method_15_code
def yX3_endCost : MethodName := ⟨RX3, "endCost", "(LWidowWatch$Book;I)I"⟩
abbrev cX3_missingLines : ByteArray := prog_5_method_16_code
def yX3_missingLines : MethodName := ⟨RX3, "missingLines", "(LWidowWatch$Book;I)I"⟩
abbrev cX3_settingCosts : ByteArray := prog_5_method_17_code
def yX3_settingCosts : MethodName := ⟨RX3, "settingCosts", "(LWidowWatch$Book;)I"⟩
abbrev cX3_pageNumber : ByteArray := prog_5_method_18_code
def yX3_pageNumber : MethodName := ⟨RX3, "pageNumber", "(LWidowWatch$Book;II)I"⟩
abbrev cX3_numberOf : ByteArray := prog_5_method_19_code
def yX3_numberOf : MethodName := ⟨RX3, "numberOf", "(LWidowWatch$Book;I)I"⟩
def RX4 : String := "WidowWatch$Planner"
def TX4 : u_T := fun k => match k with
  | 0 => ("WidowWatch$Planner", "restOfBook", "[I", true)
  | 1 => ("WidowWatch$Planner", "chosen", "[I", true)
  | 2 => ("WidowWatch$Planner", "rest", "[I", true)
  | _ => ("WidowWatch$Planner", "ends", "[I", true)
def tyX4 : Nat → FieldType := fun k => match k with
  | 0 => .array .int
  | 1 => .array .int
  | 2 => .array .int
  | _ => .array .int
abbrev wsX40 : List Cond := u_ws RX4 TX4 4
theorem nmX4 : ∀ a, a < 4 → ∀ b, b < 4 → a ≠ b → (TX4 a).2.1 ≠ (TX4 b).2.1 := by decide +kernel
theorem tyX4_ok : ∀ k, k < 4 → parseFieldDescriptor (TX4 k).2.2.1 = some (tyX4 k) := by decide +kernel
abbrev cX4_init : ByteArray := prog_6_method_1_code
def yX4_init : MethodName := ⟨RX4, "<init>", "()V"⟩
abbrev cX4_lay : ByteArray := prog_6_method_2_code
def yX4_lay : MethodName := ⟨RX4, "lay", "(LWidowWatch$Book;LWidowWatch$Lines;LWidowWatch$Plan;)V"⟩
abbrev cX4_chooseSettings : ByteArray := prog_6_method_3_code
def yX4_chooseSettings : MethodName := ⟨RX4, "chooseSettings", "(LWidowWatch$Book;LWidowWatch$Lines;I)V"⟩
abbrev cX4_weigh : ByteArray := prog_6_method_4_code
def yX4_weigh : MethodName := ⟨RX4, "weigh", "(LWidowWatch$Book;II)V"⟩
def RX5 : String := "WidowWatch$Reader"
def TX5 : u_T := fun k => match k with
  | 0 => ("WidowWatch$Reader", "draft", "LWidowWatch$Book;", true)
  | 1 => ("WidowWatch$Reader", "text", "[I", false)
  | 2 => ("WidowWatch$Reader", "length", "I", false)
  | 3 => ("WidowWatch$Reader", "at", "I", false)
  | 4 => ("WidowWatch$Reader", "error", "I", false)
  | 5 => ("WidowWatch$Reader", "errorOffset", "I", false)
  | 6 => ("WidowWatch$Reader", "hasCosts", "Z", false)
  | _ => ("WidowWatch$Reader", "hasLimit", "Z", false)
def tyX5 : Nat → FieldType := fun k => match k with
  | 0 => .object "WidowWatch$Book"
  | 1 => .array .int
  | 2 => .int
  | 3 => .int
  | 4 => .int
  | 5 => .int
  | 6 => .boolean
  | _ => .boolean
abbrev wsX50 : List Cond := u_ws RX5 TX5 8
theorem nmX5 : ∀ a, a < 8 → ∀ b, b < 8 → a ≠ b → (TX5 a).2.1 ≠ (TX5 b).2.1 := by decide +kernel
theorem tyX5_ok : ∀ k, k < 8 → parseFieldDescriptor (TX5 k).2.2.1 = some (tyX5 k) := by decide +kernel
abbrev cX5_init : ByteArray := prog_7_method_1_code
def yX5_init : MethodName := ⟨RX5, "<init>", "()V"⟩
abbrev cX5_read : ByteArray := prog_7_method_2_code
def yX5_read : MethodName := ⟨RX5, "read", "([II)V"⟩
abbrev cX5_readHead : ByteArray := prog_7_method_3_code
def yX5_readHead : MethodName := ⟨RX5, "readHead", "()V"⟩
abbrev cX5_readStatement : ByteArray := prog_7_method_4_code
def yX5_readStatement : MethodName := ⟨RX5, "readStatement", "()V"⟩
abbrev cX5_readCosts : ByteArray := prog_7_method_5_code
def yX5_readCosts : MethodName := ⟨RX5, "readCosts", "(I)V"⟩
abbrev cX5_readLimit : ByteArray := prog_7_method_6_code
def yX5_readLimit : MethodName := ⟨RX5, "readLimit", "(I)V"⟩
abbrev cX5_readParagraph : ByteArray := prog_7_method_7_code
def yX5_readParagraph : MethodName := ⟨RX5, "readParagraph", "(IZ)V"⟩
abbrev cX5_nextByte : ByteArray := prog_7_method_8_code
def yX5_nextByte : MethodName := ⟨RX5, "nextByte", "()I"⟩
abbrev cX5_takesWord : ByteArray := prog_7_method_9_code
def yX5_takesWord : MethodName := ⟨RX5, "takesWord", "(Ljava/lang/String;)Z"⟩
abbrev cX5_takeNumber : ByteArray := prog_7_method_10_code
def yX5_takeNumber : MethodName := ⟨RX5, "takeNumber", "(II)I"⟩
abbrev cX5_takeSemicolon : ByteArray := prog_7_method_11_code
def yX5_takeSemicolon : MethodName := ⟨RX5, "takeSemicolon", "()V"⟩
abbrev cX5_fail : ByteArray := prog_7_method_12_code
def yX5_fail : MethodName := ⟨RX5, "fail", "(II)V"⟩
abbrev cX5_isDigit : ByteArray := prog_7_method_13_code
def yX5_isDigit : MethodName := ⟨RX5, "isDigit", "(I)Z"⟩
abbrev cX5_isLetter : ByteArray := prog_7_method_14_code
def yX5_isLetter : MethodName := ⟨RX5, "isLetter", "(I)Z"⟩
def RX6 : String := "WidowWatch"
def TX6 : u_T := fun k => match k with
  | 0 => ("WidowWatch", "buffer", "[I", true)
  | 1 => ("WidowWatch", "bufferLength", "I", false)
  | 2 => ("WidowWatch", "latestErrorOffset", "I", false)
  | 3 => ("WidowWatch", "book", "LWidowWatch$Book;", true)
  | 4 => ("WidowWatch", "history", "LWidowWatch$History;", true)
  | 5 => ("WidowWatch", "reader", "LWidowWatch$Reader;", true)
  | 6 => ("WidowWatch", "lines", "LWidowWatch$Lines;", true)
  | 7 => ("WidowWatch", "planner", "LWidowWatch$Planner;", true)
  | 8 => ("WidowWatch", "plainPlan", "LWidowWatch$Plan;", true)
  | 9 => ("WidowWatch", "bestPlan", "LWidowWatch$Plan;", true)
  | 10 => ("WidowWatch", "trialPlan", "LWidowWatch$Plan;", true)
  | 11 => ("WidowWatch", "isPlainFresh", "Z", false)
  | _ => ("WidowWatch", "isBestFresh", "Z", false)
def tyX6 : Nat → FieldType := fun k => match k with
  | 0 => .array .int
  | 1 => .int
  | 2 => .int
  | 3 => .object "WidowWatch$Book"
  | 4 => .object "WidowWatch$History"
  | 5 => .object "WidowWatch$Reader"
  | 6 => .object "WidowWatch$Lines"
  | 7 => .object "WidowWatch$Planner"
  | 8 => .object "WidowWatch$Plan"
  | 9 => .object "WidowWatch$Plan"
  | 10 => .object "WidowWatch$Plan"
  | 11 => .boolean
  | _ => .boolean
abbrev wsX60 : List Cond := u_ws RX6 TX6 13
theorem nmX6 : ∀ a, a < 13 → ∀ b, b < 13 → a ≠ b → (TX6 a).2.1 ≠ (TX6 b).2.1 := by decide +kernel
theorem tyX6_ok : ∀ k, k < 13 → parseFieldDescriptor (TX6 k).2.2.1 = some (tyX6 k) := by decide +kernel
abbrev cX6_init : ByteArray := prog_1_method_1_code
def yX6_init : MethodName := ⟨RX6, "<init>", "()V"⟩
abbrev cX6_append : ByteArray := prog_1_method_2_code
def yX6_append : MethodName := ⟨RX6, "append", "(IIIII)I"⟩
abbrev cX6_load : ByteArray := prog_1_method_3_code
def yX6_load : MethodName := ⟨RX6, "load", "(I)I"⟩
abbrev cX6_errorOffset : ByteArray := prog_1_method_4_code
def yX6_errorOffset : MethodName := ⟨RX6, "errorOffset", "()I"⟩
abbrev cX6_state : ByteArray := prog_1_method_5_code
def yX6_state : MethodName := ⟨RX6, "state", "(I)I"⟩
abbrev cX6_paragraph : ByteArray := prog_1_method_6_code
def yX6_paragraph : MethodName := ⟨RX6, "paragraph", "(II)I"⟩
abbrev cX6_word : ByteArray := prog_1_method_7_code
def yX6_word : MethodName := ⟨RX6, "word", "(II)I"⟩
abbrev cX6_lineLength : ByteArray := prog_1_method_8_code
def yX6_lineLength : MethodName := ⟨RX6, "lineLength", "(III)I"⟩
abbrev cX6_plan : ByteArray := prog_1_method_9_code
def yX6_plan : MethodName := ⟨RX6, "plan", "(ZI)I"⟩
abbrev cX6_page : ByteArray := prog_1_method_10_code
def yX6_page : MethodName := ⟨RX6, "page", "(ZII)I"⟩
abbrev cX6_pageOf : ByteArray := prog_1_method_11_code
def yX6_pageOf : MethodName := ⟨RX6, "pageOf", "(ZII)I"⟩
abbrev cX6_help : ByteArray := prog_1_method_12_code
def yX6_help : MethodName := ⟨RX6, "help", "(I)I"⟩
abbrev cX6_fix : ByteArray := prog_1_method_15_code
def yX6_fix : MethodName := ⟨RX6, "fix", "(II)I"⟩
abbrev cX6_begin : ByteArray := prog_1_method_16_code
def yX6_begin : MethodName := ⟨RX6, "begin", "(IZ)Z"⟩
abbrev cX6_insert : ByteArray := prog_1_method_17_code
def yX6_insert : MethodName := ⟨RX6, "insert", "(III)I"⟩
abbrev cX6_remove : ByteArray := prog_1_method_18_code
def yX6_remove : MethodName := ⟨RX6, "remove", "(I)I"⟩
abbrev cX6_retouch : ByteArray := prog_1_method_19_code
def yX6_retouch : MethodName := ⟨RX6, "retouch", "(III)I"⟩
abbrev cX6_setCost : ByteArray := prog_1_method_20_code
def yX6_setCost : MethodName := ⟨RX6, "setCost", "(II)I"⟩
abbrev cX6_undo : ByteArray := prog_1_method_21_code
def yX6_undo : MethodName := ⟨RX6, "undo", "()I"⟩
abbrev cX6_checksum : ByteArray := prog_1_method_22_code
def yX6_checksum : MethodName := ⟨RX6, "checksum", "()J"⟩
abbrev cX6_withPlan : ByteArray := prog_1_method_23_code
def yX6_withPlan : MethodName := ⟨RX6, "withPlan", "(JLWidowWatch$Plan;)J"⟩
abbrev cX6_addBytes : ByteArray := prog_1_method_24_code
def yX6_addBytes : MethodName := ⟨RX6, "addBytes", "(I)V"⟩
abbrev cX6_requireParagraph : ByteArray := prog_1_method_25_code
def yX6_requireParagraph : MethodName := ⟨RX6, "requireParagraph", "(I)V"⟩
abbrev cX6_requirePage : ByteArray := prog_1_method_26_code
def yX6_requirePage : MethodName := ⟨RX6, "requirePage", "(LWidowWatch$Plan;I)V"⟩
abbrev cX6_requireWhat : ByteArray := prog_1_method_27_code
def yX6_requireWhat : MethodName := ⟨RX6, "requireWhat", "(II)V"⟩
abbrev cX6_paragraphNumber : ByteArray := prog_1_method_28_code
def yX6_paragraphNumber : MethodName := ⟨RX6, "paragraphNumber", "(II)I"⟩
abbrev cX6_noteChange : ByteArray := prog_1_method_29_code
def yX6_noteChange : MethodName := ⟨RX6, "noteChange", "()V"⟩
abbrev cX6_upToDate : ByteArray := prog_1_method_30_code
def yX6_upToDate : MethodName := ⟨RX6, "upToDate", "(Z)LWidowWatch$Plan;"⟩
abbrev cX6_layPlain : ByteArray := prog_1_method_31_code
def yX6_layPlain : MethodName := ⟨RX6, "layPlain", "(LWidowWatch$Plan;II)V"⟩
abbrev cX6_helps : ByteArray := prog_1_method_32_code
def yX6_helps : MethodName := ⟨RX6, "helps", "(III)Z"⟩
abbrev cX6_get : ByteArray := prog_1_method_33_code
def yX6_get : MethodName := ⟨RX6, "get", "([II)I"⟩
abbrev cX6_put : ByteArray := prog_1_method_34_code
def yX6_put : MethodName := ⟨RX6, "put", "([III)V"⟩
abbrev cX6_copyRow : ByteArray := prog_1_method_35_code
def yX6_copyRow : MethodName := ⟨RX6, "copyRow", "([I[I)V"⟩
def RX7 : String := "WidowWatchLaw$Book"
def TX7 : u_T := fun k => match k with
  | 0 => ("WidowWatchLaw$Book", "width", "I", false)
  | 1 => ("WidowWatchLaw$Book", "height", "I", false)
  | 2 => ("WidowWatchLaw$Book", "slack", "I", false)
  | 3 => ("WidowWatchLaw$Book", "limit", "I", false)
  | 4 => ("WidowWatchLaw$Book", "costs", "[I", false)
  | 5 => ("WidowWatchLaw$Book", "paras", "[LWidowWatchLaw$Para;", false)
  | 6 => ("WidowWatchLaw$Book", "best", "LWidowWatchLaw$Plan;", false)
  | 7 => ("WidowWatchLaw$Book", "settings", "[I", false)
  | 8 => ("WidowWatchLaw$Book", "starts", "[I", true)
  | _ => ("WidowWatchLaw$Book", "startMany", "I", false)
def tyX7 : Nat → FieldType := fun k => match k with
  | 0 => .int
  | 1 => .int
  | 2 => .int
  | 3 => .int
  | 4 => .array .int
  | 5 => .array (.object "WidowWatchLaw$Para")
  | 6 => .object "WidowWatchLaw$Plan"
  | 7 => .array .int
  | 8 => .array .int
  | _ => .int
abbrev wsX70 : List Cond := u_ws RX7 TX7 10
theorem nmX7 : ∀ a, a < 10 → ∀ b, b < 10 → a ≠ b → (TX7 a).2.1 ≠ (TX7 b).2.1 := by decide +kernel
theorem tyX7_ok : ∀ k, k < 10 → parseFieldDescriptor (TX7 k).2.2.1 = some (tyX7 k) := by decide +kernel
abbrev cX7_init : ByteArray := prog_9_method_1_code
def yX7_init : MethodName := ⟨RX7, "<init>", "()V"⟩
abbrev cX7_copy : ByteArray := prog_9_method_2_code
def yX7_copy : MethodName := ⟨RX7, "copy", "()LWidowWatchLaw$Book;"⟩
abbrev cX7_adds : ByteArray := prog_9_method_3_code
def yX7_adds : MethodName := ⟨RX7, "adds", "(ILWidowWatchLaw$Para;)V"⟩
abbrev cX7_drops : ByteArray := prog_9_method_4_code
def yX7_drops : MethodName := ⟨RX7, "drops", "(I)V"⟩
abbrev cX7_many : ByteArray := prog_9_method_6_code
def yX7_many : MethodName := ⟨RX7, "many", "(II)I"⟩
abbrev cX7_beginning : ByteArray := prog_9_method_7_code
def yX7_beginning : MethodName := ⟨RX7, "beginning", "(III)I"⟩
abbrev cX7_paragraph : ByteArray := prog_9_method_8_code
def yX7_paragraph : MethodName := ⟨RX7, "paragraph", "(IIII)V"⟩
abbrev cX7_line : ByteArray := prog_9_method_9_code
def yX7_line : MethodName := ⟨RX7, "line", "(IIIIII)V"⟩
abbrev cX7_best : ByteArray := prog_9_method_10_code
def yX7_best : MethodName := ⟨RX7, "best", "()LWidowWatchLaw$Plan;"⟩
abbrev cX7_plain : ByteArray := prog_9_method_11_code
def yX7_plain : MethodName := ⟨RX7, "plain", "([I)LWidowWatchLaw$Plan;"⟩
abbrev cX7_plan : ByteArray := prog_9_method_12_code
def yX7_plan : MethodName := ⟨RX7, "plan", "(Z)LWidowWatchLaw$Plan;"⟩
abbrev cX7_place : ByteArray := prog_9_method_13_code
def yX7_place : MethodName := ⟨RX7, "place", "(LWidowWatchLaw$Plan;I)I"⟩
abbrev cX7_allLines : ByteArray := prog_9_method_14_code
def yX7_allLines : MethodName := ⟨RX7, "allLines", "(LWidowWatchLaw$Plan;)I"⟩
abbrev cX7_isWidow : ByteArray := prog_9_method_15_code
def yX7_isWidow : MethodName := ⟨RX7, "isWidow", "(LWidowWatchLaw$Plan;I)Z"⟩
abbrev cX7_ofPage : ByteArray := prog_9_method_16_code
def yX7_ofPage : MethodName := ⟨RX7, "ofPage", "(LWidowWatchLaw$Plan;II)I"⟩
abbrev cX7_ofPlan : ByteArray := prog_9_method_17_code
def yX7_ofPlan : MethodName := ⟨RX7, "ofPlan", "(LWidowWatchLaw$Plan;I)I"⟩
abbrev cX7_told : ByteArray := prog_9_method_19_code
def yX7_told : MethodName := ⟨RX7, "told", "(I)I"⟩
abbrev cX7_of : ByteArray := prog_9_method_20_code
def yX7_of : MethodName := ⟨RX7, "of", "(IILWidowWatchLaw$Plan;)I"⟩
abbrev cX7_checksum : ByteArray := prog_9_method_21_code
def yX7_checksum : MethodName := ⟨RX7, "checksum", "()J"⟩
def RX8 : String := "WidowWatchLaw$Para"
def TX8 : u_T := fun k => match k with
  | 0 => ("WidowWatchLaw$Para", "isHeading", "Z", false)
  | 1 => ("WidowWatchLaw$Para", "isPage", "Z", false)
  | 2 => ("WidowWatchLaw$Para", "fixed", "I", false)
  | _ => ("WidowWatchLaw$Para", "words", "[I", false)
def tyX8 : Nat → FieldType := fun k => match k with
  | 0 => .boolean
  | 1 => .boolean
  | 2 => .int
  | _ => .array .int
abbrev wsX80 : List Cond := u_ws RX8 TX8 4
theorem nmX8 : ∀ a, a < 4 → ∀ b, b < 4 → a ≠ b → (TX8 a).2.1 ≠ (TX8 b).2.1 := by decide +kernel
theorem tyX8_ok : ∀ k, k < 4 → parseFieldDescriptor (TX8 k).2.2.1 = some (tyX8 k) := by decide +kernel
abbrev cX8_init : ByteArray := prog_10_method_1_code
def yX8_init : MethodName := ⟨RX8, "<init>", "()V"⟩
abbrev cX8_copy : ByteArray := prog_10_method_2_code
def yX8_copy : MethodName := ⟨RX8, "copy", "()LWidowWatchLaw$Para;"⟩
def RX9 : String := "WidowWatchLaw$Plan"
def TX9 : u_T := fun k => match k with
  | 0 => ("WidowWatchLaw$Plan", "costs", "I", false)
  | 1 => ("WidowWatchLaw$Plan", "settings", "[I", false)
  | _ => ("WidowWatchLaw$Plan", "starts", "[I", false)
def tyX9 : Nat → FieldType := fun k => match k with
  | 0 => .int
  | 1 => .array .int
  | _ => .array .int
abbrev wsX90 : List Cond := u_ws RX9 TX9 3
theorem nmX9 : ∀ a, a < 3 → ∀ b, b < 3 → a ≠ b → (TX9 a).2.1 ≠ (TX9 b).2.1 := by decide +kernel
theorem tyX9_ok : ∀ k, k < 3 → parseFieldDescriptor (TX9 k).2.2.1 = some (tyX9 k) := by decide +kernel
abbrev cX9_init : ByteArray := prog_11_method_1_code
def yX9_init : MethodName := ⟨RX9, "<init>", "()V"⟩
def RX10 : String := "WidowWatchLaw$Random"
def TX10 : u_T := fun k => match k with
  | _ => ("WidowWatchLaw$Random", "seed", "I", false)
def tyX10 : Nat → FieldType := fun k => match k with
  | _ => .int
abbrev wsX100 : List Cond := u_ws RX10 TX10 1
theorem nmX10 : ∀ a, a < 1 → ∀ b, b < 1 → a ≠ b → (TX10 a).2.1 ≠ (TX10 b).2.1 := by decide +kernel
theorem tyX10_ok : ∀ k, k < 1 → parseFieldDescriptor (TX10 k).2.2.1 = some (tyX10 k) := by decide +kernel
abbrev cX10_init : ByteArray := prog_12_method_1_code
def yX10_init : MethodName := ⟨RX10, "<init>", "(I)V"⟩
abbrev cX10_below : ByteArray := prog_12_method_2_code
def yX10_below : MethodName := ⟨RX10, "below", "(I)I"⟩
def RX11 : String := "WidowWatchModel"
def TX11 : u_T := fun k => match k with
  | _ => ("", "", "", false)
def tyX11 : Nat → FieldType := fun k => match k with
  | _ => .int
abbrev wsX110 : List Cond := u_ws RX11 TX11 0
theorem nmX11 : ∀ a, a < 0 → ∀ b, b < 0 → a ≠ b → (TX11 a).2.1 ≠ (TX11 b).2.1 := by decide +kernel
theorem tyX11_ok : ∀ k, k < 0 → parseFieldDescriptor (TX11 k).2.2.1 = some (tyX11 k) := by decide +kernel
def RJx145de : String := "java/io/Serializable"
def TJx145de : u_T := fun k => match k with
  | _ => ("", "", "", false)
def tyJx145de : Nat → FieldType := fun k => match k with
  | _ => .int
abbrev wsJx145de0 : List Cond := u_ws RJx145de TJx145de 0
theorem nmJx145de : ∀ a, a < 0 → ∀ b, b < 0 → a ≠ b → (TJx145de a).2.1 ≠ (TJx145de b).2.1 := by decide +kernel
theorem tyJx145de_ok : ∀ k, k < 0 → parseFieldDescriptor (TJx145de k).2.2.1 = some (tyJx145de k) := by decide +kernel
def RJ5 : String := "java/lang/AbstractStringBuilder"
def TJ5 : u_T := fun k => match k with
  | _ => ("", "", "", false)
def tyJ5 : Nat → FieldType := fun k => match k with
  | _ => .int
abbrev wsJ50 : List Cond := u_ws RJ5 TJ5 0
theorem nmJ5 : ∀ a, a < 0 → ∀ b, b < 0 → a ≠ b → (TJ5 a).2.1 ≠ (TJ5 b).2.1 := by decide +kernel
theorem tyJ5_ok : ∀ k, k < 0 → parseFieldDescriptor (TJ5 k).2.2.1 = some (tyJ5 k) := by decide +kernel
abbrev cJ5_init_d00df : ByteArray := prog_15_method_2_code
def yJ5_init_d00df : MethodName := ⟨RJ5, "<init>", "(I)V"⟩
abbrev cJ5_length_8abf5 : ByteArray := prog_15_method_6_code
def yJ5_length_8abf5 : MethodName := ⟨RJ5, "length", "()I"⟩
abbrev cJ5_ensureCapacityInternal_d00df : ByteArray := prog_15_method_9_code
def yJ5_ensureCapacityInternal_d00df : MethodName := ⟨RJ5, "ensureCapacityInternal", "(I)V"⟩
abbrev cJ5_newCapacity_0f7a4 : ByteArray := prog_15_method_10_code
def yJ5_newCapacity_0f7a4 : MethodName := ⟨RJ5, "newCapacity", "(I)I"⟩
abbrev cJ5_inflate_da8c8 : ByteArray := prog_15_method_11_code
def yJ5_inflate_da8c8 : MethodName := ⟨RJ5, "inflate", "()V"⟩
abbrev cJ5_append_cf1ce : ByteArray := prog_15_method_22_code
def yJ5_append_cf1ce : MethodName := ⟨RJ5, "append", "(Ljava/lang/String;)Ljava/lang/AbstractStringBuilder;"⟩
abbrev cJ5_appendNull_278bc : ByteArray := prog_15_method_26_code
def yJ5_appendNull_278bc : MethodName := ⟨RJ5, "appendNull", "()Ljava/lang/AbstractStringBuilder;"⟩
abbrev cJ5_append_c97b9 : ByteArray := prog_15_method_32_code
def yJ5_append_c97b9 : MethodName := ⟨RJ5, "append", "(I)Ljava/lang/AbstractStringBuilder;"⟩
abbrev cJ5_getValue_6d5f1 : ByteArray := prog_15_method_64_code
def yJ5_getValue_6d5f1 : MethodName := ⟨RJ5, "getValue", "()[B"⟩
abbrev cJ5_isLatin1_aae02 : ByteArray := prog_15_method_68_code
def yJ5_isLatin1_aae02 : MethodName := ⟨RJ5, "isLatin1", "()Z"⟩
abbrev cJ5_inflateIfNeededFor_a7421 : ByteArray := prog_15_method_71_code
def yJ5_inflateIfNeededFor_a7421 : MethodName := ⟨RJ5, "inflateIfNeededFor", "(Ljava/lang/String;)V"⟩
abbrev cJ5_putStringAt_47b60 : ByteArray := prog_15_method_73_code
def yJ5_putStringAt_47b60 : MethodName := ⟨RJ5, "putStringAt", "(ILjava/lang/String;)V"⟩
def RJx2cfe8 : String := "java/lang/Appendable"
def TJx2cfe8 : u_T := fun k => match k with
  | _ => ("", "", "", false)
def tyJx2cfe8 : Nat → FieldType := fun k => match k with
  | _ => .int
abbrev wsJx2cfe80 : List Cond := u_ws RJx2cfe8 TJx2cfe8 0
theorem nmJx2cfe8 : ∀ a, a < 0 → ∀ b, b < 0 → a ≠ b → (TJx2cfe8 a).2.1 ≠ (TJx2cfe8 b).2.1 := by decide +kernel
theorem tyJx2cfe8_ok : ∀ k, k < 0 → parseFieldDescriptor (TJx2cfe8 k).2.2.1 = some (tyJx2cfe8 k) := by decide +kernel
def RJx9f9b0 : String := "java/lang/CharSequence"
def TJx9f9b0 : u_T := fun k => match k with
  | _ => ("", "", "", false)
def tyJx9f9b0 : Nat → FieldType := fun k => match k with
  | _ => .int
abbrev wsJx9f9b00 : List Cond := u_ws RJx9f9b0 TJx9f9b0 0
theorem nmJx9f9b0 : ∀ a, a < 0 → ∀ b, b < 0 → a ≠ b → (TJx9f9b0 a).2.1 ≠ (TJx9f9b0 b).2.1 := by decide +kernel
theorem tyJx9f9b0_ok : ∀ k, k < 0 → parseFieldDescriptor (TJx9f9b0 k).2.2.1 = some (tyJx9f9b0 k) := by decide +kernel
def RJx8e188 : String := "java/lang/Cloneable"
def TJx8e188 : u_T := fun k => match k with
  | _ => ("", "", "", false)
def tyJx8e188 : Nat → FieldType := fun k => match k with
  | _ => .int
abbrev wsJx8e1880 : List Cond := u_ws RJx8e188 TJx8e188 0
theorem nmJx8e188 : ∀ a, a < 0 → ∀ b, b < 0 → a ≠ b → (TJx8e188 a).2.1 ≠ (TJx8e188 b).2.1 := by decide +kernel
theorem tyJx8e188_ok : ∀ k, k < 0 → parseFieldDescriptor (TJx8e188 k).2.2.1 = some (tyJx8e188 k) := by decide +kernel
def RJxb160c : String := "java/lang/Comparable"
def TJxb160c : u_T := fun k => match k with
  | _ => ("", "", "", false)
def tyJxb160c : Nat → FieldType := fun k => match k with
  | _ => .int
abbrev wsJxb160c0 : List Cond := u_ws RJxb160c TJxb160c 0
theorem nmJxb160c : ∀ a, a < 0 → ∀ b, b < 0 → a ≠ b → (TJxb160c a).2.1 ≠ (TJxb160c b).2.1 := by decide +kernel
theorem tyJxb160c_ok : ∀ k, k < 0 → parseFieldDescriptor (TJxb160c k).2.2.1 = some (tyJxb160c k) := by decide +kernel
def RJ6 : String := "java/lang/Integer"
def TJ6 : u_T := fun k => match k with
  | _ => ("", "", "", false)
def tyJ6 : Nat → FieldType := fun k => match k with
  | _ => .int
abbrev wsJ60 : List Cond := u_ws RJ6 TJ6 0
theorem nmJ6 : ∀ a, a < 0 → ∀ b, b < 0 → a ≠ b → (TJ6 a).2.1 ≠ (TJ6 b).2.1 := by decide +kernel
theorem tyJ6_ok : ∀ k, k < 0 → parseFieldDescriptor (TJ6 k).2.2.1 = some (tyJ6 k) := by decide +kernel
abbrev cJ6_getChars_ba4f3 : ByteArray := prog_24_method_12_code
def yJ6_getChars_ba4f3 : MethodName := ⟨RJ6, "getChars", "(II[B)I"⟩
abbrev cJ6_stringSize_0f7a4 : ByteArray := prog_24_method_13_code
def yJ6_stringSize_0f7a4 : MethodName := ⟨RJ6, "stringSize", "(I)I"⟩
def RJ9 : String := "java/lang/Math"
def TJ9 : u_T := fun k => match k with
  | _ => ("", "", "", false)
def tyJ9 : Nat → FieldType := fun k => match k with
  | _ => .int
abbrev wsJ90 : List Cond := u_ws RJ9 TJ9 0
theorem nmJ9 : ∀ a, a < 0 → ∀ b, b < 0 → a ≠ b → (TJ9 a).2.1 ≠ (TJ9 b).2.1 := by decide +kernel
theorem tyJ9_ok : ∀ k, k < 0 → parseFieldDescriptor (TJ9 k).2.2.1 = some (tyJ9 k) := by decide +kernel
abbrev cJ9_max_7cf53 : ByteArray := prog_25_method_65_code
def yJ9_max_7cf53 : MethodName := ⟨RJ9, "max", "(II)I"⟩
abbrev cJ9_min_7cf53 : ByteArray := prog_25_method_69_code
def yJ9_min_7cf53 : MethodName := ⟨RJ9, "min", "(II)I"⟩
def RJxd2413 : String := "java/lang/Number"
def TJxd2413 : u_T := fun k => match k with
  | _ => ("", "", "", false)
def tyJxd2413 : Nat → FieldType := fun k => match k with
  | _ => .int
abbrev wsJxd24130 : List Cond := u_ws RJxd2413 TJxd2413 0
theorem nmJxd2413 : ∀ a, a < 0 → ∀ b, b < 0 → a ≠ b → (TJxd2413 a).2.1 ≠ (TJxd2413 b).2.1 := by decide +kernel
theorem tyJxd2413_ok : ∀ k, k < 0 → parseFieldDescriptor (TJxd2413 k).2.2.1 = some (tyJxd2413 k) := by decide +kernel
def RJ0 : String := "java/lang/String"
def TJ0 : u_T := fun k => match k with
  | 0 => ("java/lang/String", "value", "[B", true)
  | 1 => ("java/lang/String", "coder", "B", true)
  | 2 => ("java/lang/String", "hash", "I", false)
  | _ => ("java/lang/String", "hashIsZero", "Z", false)
def tyJ0 : Nat → FieldType := fun k => match k with
  | 0 => .array .byte
  | 1 => .byte
  | 2 => .int
  | _ => .boolean
abbrev wsJ00 : List Cond := u_ws RJ0 TJ0 4
theorem nmJ0 : ∀ a, a < 4 → ∀ b, b < 4 → a ≠ b → (TJ0 a).2.1 ≠ (TJ0 b).2.1 := by decide +kernel
theorem tyJ0_ok : ∀ k, k < 4 → parseFieldDescriptor (TJ0 k).2.2.1 = some (tyJ0 k) := by decide +kernel
abbrev cJ0_init_81219 : ByteArray := prog_28_method_53_code
def yJ0_init_81219 : MethodName := ⟨RJ0, "<init>", "(Ljava/lang/StringBuilder;)V"⟩
abbrev cJ0_length_8abf5 : ByteArray := prog_28_method_54_code
def yJ0_length_8abf5 : MethodName := ⟨RJ0, "length", "()I"⟩
abbrev cJ0_charAt_5068e : ByteArray := prog_28_method_56_code
def yJ0_charAt_5068e : MethodName := ⟨RJ0, "charAt", "(I)C"⟩
abbrev cJ0_getBytes_840e7 : ByteArray := prog_28_method_147_code
def yJ0_getBytes_840e7 : MethodName := ⟨RJ0, "getBytes", "([BIB)V"⟩
abbrev cJ0_init_db425 : ByteArray := prog_28_method_150_code
def yJ0_init_db425 : MethodName := ⟨RJ0, "<init>", "(Ljava/lang/AbstractStringBuilder;Ljava/lang/Void;)V"⟩
abbrev cJ0_coder_7d493 : ByteArray := prog_28_method_152_code
def yJ0_coder_7d493 : MethodName := ⟨RJ0, "coder", "()B"⟩
abbrev cJ0_isLatin1_aae02 : ByteArray := prog_28_method_154_code
def yJ0_isLatin1_aae02 : MethodName := ⟨RJ0, "isLatin1", "()Z"⟩
abbrev cJ0_checkIndex_df160 : ByteArray := prog_28_method_155_code
def yJ0_checkIndex_df160 : MethodName := ⟨RJ0, "checkIndex", "(II)V"⟩
abbrev cJ0_checkBoundsOffCount_cabcc : ByteArray := prog_28_method_157_code
def yJ0_checkBoundsOffCount_cabcc : MethodName := ⟨RJ0, "checkBoundsOffCount", "(III)I"⟩
abbrev cJ0_checkBoundsBeginEnd_23922 : ByteArray := prog_28_method_158_code
def yJ0_checkBoundsBeginEnd_23922 : MethodName := ⟨RJ0, "checkBoundsBeginEnd", "(III)V"⟩
def RJ4 : String := "java/lang/StringBuilder"
def TJ4 : u_T := fun k => match k with
  | 0 => ("java/lang/AbstractStringBuilder", "value", "[B", false)
  | 1 => ("java/lang/AbstractStringBuilder", "coder", "B", false)
  | 2 => ("java/lang/AbstractStringBuilder", "maybeLatin1", "Z", false)
  | _ => ("java/lang/AbstractStringBuilder", "count", "I", false)
def tyJ4 : Nat → FieldType := fun k => match k with
  | 0 => .array .byte
  | 1 => .byte
  | 2 => .boolean
  | _ => .int
abbrev wsJ40 : List Cond := u_ws RJ4 TJ4 4
theorem nmJ4 : ∀ a, a < 4 → ∀ b, b < 4 → a ≠ b → (TJ4 a).2.1 ≠ (TJ4 b).2.1 := by decide +kernel
theorem tyJ4_ok : ∀ k, k < 4 → parseFieldDescriptor (TJ4 k).2.2.1 = some (tyJ4 k) := by decide +kernel
abbrev cJ4_init_da8c8 : ByteArray := prog_29_method_1_code
def yJ4_init_da8c8 : MethodName := ⟨RJ4, "<init>", "()V"⟩
abbrev cJ4_append_15ec4 : ByteArray := prog_29_method_7_code
def yJ4_append_15ec4 : MethodName := ⟨RJ4, "append", "(Ljava/lang/String;)Ljava/lang/StringBuilder;"⟩
abbrev cJ4_append_bf812 : ByteArray := prog_29_method_15_code
def yJ4_append_bf812 : MethodName := ⟨RJ4, "append", "(I)Ljava/lang/StringBuilder;"⟩
abbrev cJ4_toString_0e30d : ByteArray := prog_29_method_42_code
def yJ4_toString_0e30d : MethodName := ⟨RJ4, "toString", "()Ljava/lang/String;"⟩
abbrev cJ4_length_8abf5 : ByteArray := prog_29_method_93_code
def yJ4_length_8abf5 : MethodName := ⟨RJ4, "length", "()I"⟩
def RJ1 : String := "java/lang/StringLatin1"
def TJ1 : u_T := fun k => match k with
  | _ => ("", "", "", false)
def tyJ1 : Nat → FieldType := fun k => match k with
  | _ => .int
abbrev wsJ10 : List Cond := u_ws RJ1 TJ1 0
theorem nmJ1 : ∀ a, a < 0 → ∀ b, b < 0 → a ≠ b → (TJ1 a).2.1 ≠ (TJ1 b).2.1 := by decide +kernel
theorem tyJ1_ok : ∀ k, k < 0 → parseFieldDescriptor (TJ1 k).2.2.1 = some (tyJ1 k) := by decide +kernel
abbrev cJ1_charAt_3b067 : ByteArray := prog_30_method_2_code
def yJ1_charAt_3b067 : MethodName := ⟨RJ1, "charAt", "([BI)C"⟩
abbrev cJ1_inflate_0e8fd : ByteArray := prog_30_method_50_code
def yJ1_inflate_0e8fd : MethodName := ⟨RJ1, "inflate", "([BI[BII)V"⟩
def RJ2 : String := "java/lang/StringUTF16"
def TJ2 : u_T := fun k => match k with
  | _ => ("", "", "", false)
def tyJ2 : Nat → FieldType := fun k => match k with
  | _ => .int
abbrev wsJ20 : List Cond := u_ws RJ2 TJ2 0
theorem nmJ2 : ∀ a, a < 0 → ∀ b, b < 0 → a ≠ b → (TJ2 a).2.1 ≠ (TJ2 b).2.1 := by decide +kernel
theorem tyJ2_ok : ∀ k, k < 0 → parseFieldDescriptor (TJ2 k).2.2.1 = some (tyJ2 k) := by decide +kernel
abbrev cJ2_newBytesFor_77867 : ByteArray := prog_31_method_2_code
def yJ2_newBytesFor_77867 : MethodName := ⟨RJ2, "newBytesFor", "(I)[B"⟩
abbrev cJ2_newBytesLength_0f7a4 : ByteArray := prog_31_method_3_code
def yJ2_newBytesLength_0f7a4 : MethodName := ⟨RJ2, "newBytesLength", "(I)I"⟩
abbrev cJ2_putChar_b72d1 : ByteArray := prog_31_method_4_code
def yJ2_putChar_b72d1 : MethodName := ⟨RJ2, "putChar", "([BII)V"⟩
abbrev cJ2_getChar_3b067 : ByteArray := prog_31_method_5_code
def yJ2_getChar_3b067 : MethodName := ⟨RJ2, "getChar", "([BI)C"⟩
abbrev cJ2_length_9d52b : ByteArray := prog_31_method_6_code
def yJ2_length_9d52b : MethodName := ⟨RJ2, "length", "([B)I"⟩
abbrev cJ2_coderFromArrayLen_85cad : ByteArray := prog_31_method_15_code
def yJ2_coderFromArrayLen_85cad : MethodName := ⟨RJ2, "coderFromArrayLen", "([BI)B"⟩
abbrev cJ2_compress_39247 : ByteArray := prog_31_method_17_code
def yJ2_compress_39247 : MethodName := ⟨RJ2, "compress", "([BII)[B"⟩
abbrev cJ2_compress_5af95 : ByteArray := prog_31_method_22_code
def yJ2_compress_5af95 : MethodName := ⟨RJ2, "compress", "([BI[BII)I"⟩
abbrev cJ2_getChars_46870 : ByteArray := prog_31_method_77_code
def yJ2_getChars_46870 : MethodName := ⟨RJ2, "getChars", "(III[B)I"⟩
abbrev cJ2_putCharsAt_cd4e5 : ByteArray := prog_31_method_81_code
def yJ2_putCharsAt_cd4e5 : MethodName := ⟨RJ2, "putCharsAt", "([BICCCC)I"⟩
abbrev cJ2_charAt_3b067 : ByteArray := prog_31_method_83_code
def yJ2_charAt_3b067 : MethodName := ⟨RJ2, "charAt", "([BI)C"⟩
abbrev cJ2_inflate_0e8fd : ByteArray := prog_31_method_86_code
def yJ2_inflate_0e8fd : MethodName := ⟨RJ2, "inflate", "([BI[BII)V"⟩
abbrev cJ2_getChars_ba4f3 : ByteArray := prog_31_method_89_code
def yJ2_getChars_ba4f3 : MethodName := ⟨RJ2, "getChars", "(II[B)I"⟩
abbrev cJ2_checkIndex_2214a : ByteArray := prog_31_method_91_code
def yJ2_checkIndex_2214a : MethodName := ⟨RJ2, "checkIndex", "(I[B)V"⟩
abbrev cJ2_checkBoundsBeginEnd_d044e : ByteArray := prog_31_method_93_code
def yJ2_checkBoundsBeginEnd_d044e : MethodName := ⟨RJ2, "checkBoundsBeginEnd", "(II[B)V"⟩
abbrev cJ2_checkBoundsOffCount_d044e : ByteArray := prog_31_method_94_code
def yJ2_checkBoundsOffCount_d044e : MethodName := ⟨RJ2, "checkBoundsOffCount", "(II[B)V"⟩
def RJ10 : String := "java/lang/System"
def TJ10 : u_T := fun k => match k with
  | _ => ("", "", "", false)
def tyJ10 : Nat → FieldType := fun k => match k with
  | _ => .int
abbrev wsJ100 : List Cond := u_ws RJ10 TJ10 0
theorem nmJ10 : ∀ a, a < 0 → ∀ b, b < 0 → a ≠ b → (TJ10 a).2.1 ≠ (TJ10 b).2.1 := by decide +kernel
theorem tyJ10_ok : ∀ k, k < 0 → parseFieldDescriptor (TJ10 k).2.2.1 = some (tyJ10 k) := by decide +kernel
def RJxfd54e : String := "java/lang/constant/Constable"
def TJxfd54e : u_T := fun k => match k with
  | _ => ("", "", "", false)
def tyJxfd54e : Nat → FieldType := fun k => match k with
  | _ => .int
abbrev wsJxfd54e0 : List Cond := u_ws RJxfd54e TJxfd54e 0
theorem nmJxfd54e : ∀ a, a < 0 → ∀ b, b < 0 → a ≠ b → (TJxfd54e a).2.1 ≠ (TJxfd54e b).2.1 := by decide +kernel
theorem tyJxfd54e_ok : ∀ k, k < 0 → parseFieldDescriptor (TJxfd54e k).2.2.1 = some (tyJxfd54e k) := by decide +kernel
def RJx3cf43 : String := "java/lang/constant/ConstantDesc"
def TJx3cf43 : u_T := fun k => match k with
  | _ => ("", "", "", false)
def tyJx3cf43 : Nat → FieldType := fun k => match k with
  | _ => .int
abbrev wsJx3cf430 : List Cond := u_ws RJx3cf43 TJx3cf43 0
theorem nmJx3cf43 : ∀ a, a < 0 → ∀ b, b < 0 → a ≠ b → (TJx3cf43 a).2.1 ≠ (TJx3cf43 b).2.1 := by decide +kernel
theorem tyJx3cf43_ok : ∀ k, k < 0 → parseFieldDescriptor (TJx3cf43 k).2.2.1 = some (tyJx3cf43 k) := by decide +kernel
def RJ7 : String := "java/util/Arrays"
def TJ7 : u_T := fun k => match k with
  | _ => ("", "", "", false)
def tyJ7 : Nat → FieldType := fun k => match k with
  | _ => .int
abbrev wsJ70 : List Cond := u_ws RJ7 TJ7 0
theorem nmJ7 : ∀ a, a < 0 → ∀ b, b < 0 → a ≠ b → (TJ7 a).2.1 ≠ (TJ7 b).2.1 := by decide +kernel
theorem tyJ7_ok : ∀ k, k < 0 → parseFieldDescriptor (TJ7 k).2.2.1 = some (tyJ7 k) := by decide +kernel
abbrev cJ7_copyOf_9075b : ByteArray := prog_36_method_121_code
def yJ7_copyOf_9075b : MethodName := ⟨RJ7, "copyOf", "([BI)[B"⟩
abbrev cJ7_checkLength_df160 : ByteArray := prog_36_method_131_code
def yJ7_checkLength_df160 : MethodName := ⟨RJ7, "checkLength", "(II)V"⟩
abbrev cJ7_copyOfRange_39247 : ByteArray := prog_36_method_132_code
def yJ7_copyOfRange_39247 : MethodName := ⟨RJ7, "copyOfRange", "([BII)[B"⟩
abbrev cJ7_copyOfRangeByte_39247 : ByteArray := prog_36_method_133_code
def yJ7_copyOfRangeByte_39247 : MethodName := ⟨RJ7, "copyOfRangeByte", "([BII)[B"⟩
def RJ8 : String := "jdk/internal/util/ArraysSupport"
def TJ8 : u_T := fun k => match k with
  | _ => ("", "", "", false)
def tyJ8 : Nat → FieldType := fun k => match k with
  | _ => .int
abbrev wsJ80 : List Cond := u_ws RJ8 TJ8 0
theorem nmJ8 : ∀ a, a < 0 → ∀ b, b < 0 → a ≠ b → (TJ8 a).2.1 ≠ (TJ8 b).2.1 := by decide +kernel
theorem tyJ8_ok : ∀ k, k < 0 → parseFieldDescriptor (TJ8 k).2.2.1 = some (tyJ8 k) := by decide +kernel
abbrev cJ8_newLength_cabcc : ByteArray := prog_38_method_27_code
def yJ8_newLength_cabcc : MethodName := ⟨RJ8, "newLength", "(III)I"⟩
abbrev cJ8_hugeLength_7cf53 : ByteArray := prog_38_method_28_code
def yJ8_hugeLength_7cf53 : MethodName := ⟨RJ8, "hugeLength", "(II)I"⟩
def RJ3 : String := "jdk/internal/util/Preconditions"
def TJ3 : u_T := fun k => match k with
  | _ => ("", "", "", false)
def tyJ3 : Nat → FieldType := fun k => match k with
  | _ => .int
abbrev wsJ30 : List Cond := u_ws RJ3 TJ3 0
theorem nmJ3 : ∀ a, a < 0 → ∀ b, b < 0 → a ≠ b → (TJ3 a).2.1 ≠ (TJ3 b).2.1 := by decide +kernel
theorem tyJ3_ok : ∀ k, k < 0 → parseFieldDescriptor (TJ3 k).2.2.1 = some (tyJ3 k) := by decide +kernel
abbrev cJ3_checkIndex_8e157 : ByteArray := prog_39_method_11_code
def yJ3_checkIndex_8e157 : MethodName := ⟨RJ3, "checkIndex", "(IILjava/util/function/BiFunction;)I"⟩
abbrev cJ3_checkFromToIndex_8c36e : ByteArray := prog_39_method_12_code
def yJ3_checkFromToIndex_8c36e : MethodName := ⟨RJ3, "checkFromToIndex", "(IIILjava/util/function/BiFunction;)I"⟩
abbrev cJ3_checkFromIndexSize_8c36e : ByteArray := prog_39_method_13_code
def yJ3_checkFromIndexSize_8c36e : MethodName := ⟨RJ3, "checkFromIndexSize", "(IIILjava/util/function/BiFunction;)I"⟩
def RL : String := "WidowWatchLaw"
abbrev cL_put : ByteArray := method_2_code
def yL_put : MethodName := ⟨RL, "put", "(LWidowWatch;[II)V"⟩
abbrev cL_flush : ByteArray := method_3_code
def yL_flush : MethodName := ⟨RL, "flush", "(LWidowWatch;[I)V"⟩
abbrev cL_loadText : ByteArray := method_4_code
def yL_loadText : MethodName := ⟨RL, "loadText", "(LWidowWatch;[I)I"⟩
abbrev cL_write : ByteArray := method_5_code
def yL_write : MethodName := ⟨RL, "write", "(LWidowWatch;[ILjava/lang/String;)V"⟩
abbrev cL_writeNumber : ByteArray := method_6_code
def yL_writeNumber : MethodName := ⟨RL, "writeNumber", "(LWidowWatch;[II)V"⟩
abbrev cL_load : ByteArray := method_7_code
def yL_load : MethodName := ⟨RL, "load", "(LWidowWatch;I)I"⟩
abbrev cL_state : ByteArray := method_8_code
def yL_state : MethodName := ⟨RL, "state", "(LWidowWatch;I)I"⟩
abbrev cL_paragraph : ByteArray := method_9_code
def yL_paragraph : MethodName := ⟨RL, "paragraph", "(LWidowWatch;II)I"⟩
abbrev cL_word : ByteArray := method_10_code
def yL_word : MethodName := ⟨RL, "word", "(LWidowWatch;II)I"⟩
abbrev cL_lineLength : ByteArray := method_11_code
def yL_lineLength : MethodName := ⟨RL, "lineLength", "(LWidowWatch;III)I"⟩
abbrev cL_plan : ByteArray := method_12_code
def yL_plan : MethodName := ⟨RL, "plan", "(LWidowWatch;ZI)I"⟩
abbrev cL_page : ByteArray := method_13_code
def yL_page : MethodName := ⟨RL, "page", "(LWidowWatch;ZII)I"⟩
abbrev cL_pageOf : ByteArray := method_14_code
def yL_pageOf : MethodName := ⟨RL, "pageOf", "(LWidowWatch;ZII)I"⟩
abbrev cL_help : ByteArray := method_15_code
def yL_help : MethodName := ⟨RL, "help", "(LWidowWatch;I)I"⟩
abbrev cL_fix : ByteArray := method_16_code
def yL_fix : MethodName := ⟨RL, "fix", "(LWidowWatch;II)I"⟩
abbrev cL_begin : ByteArray := method_17_code
def yL_begin : MethodName := ⟨RL, "begin", "(LWidowWatch;IZ)I"⟩
abbrev cL_insert : ByteArray := method_18_code
def yL_insert : MethodName := ⟨RL, "insert", "(LWidowWatch;III)I"⟩
abbrev cL_remove : ByteArray := method_19_code
def yL_remove : MethodName := ⟨RL, "remove", "(LWidowWatch;I)I"⟩
abbrev cL_retouch : ByteArray := method_20_code
def yL_retouch : MethodName := ⟨RL, "retouch", "(LWidowWatch;III)I"⟩
abbrev cL_setCost : ByteArray := method_21_code
def yL_setCost : MethodName := ⟨RL, "setCost", "(LWidowWatch;II)I"⟩
abbrev cL_with : ByteArray := method_22_code
def yL_with : MethodName := ⟨RL, "with", "([II)[I"⟩
abbrev cL_without : ByteArray := method_23_code
def yL_without : MethodName := ⟨RL, "without", "([II)[I"⟩
abbrev cL_writeAll : ByteArray := method_24_code
def yL_writeAll : MethodName := ⟨RL, "writeAll", "(LWidowWatch;[ILjava/lang/String;[I)V"⟩
abbrev cL_randomBook : ByteArray := method_25_code
def yL_randomBook : MethodName := ⟨RL, "randomBook", "(LWidowWatch;[ILWidowWatchLaw$Random;)LWidowWatchLaw$Book;"⟩
abbrev cL_agrees : ByteArray := method_26_code
def yL_agrees : MethodName := ⟨RL, "agrees", "(LWidowWatch;LWidowWatchLaw$Book;)Z"⟩
abbrev cL_law : ByteArray := code
def yL_law : MethodName := ⟨RL, "law", "([I)Z"⟩
abbrev vwCl : List vw_C := [(RX0, TX0, 7), (RX1, TX1, 3), (RX2, TX2, 2), (RX3, TX3, 7), (RX4, TX4, 4), (RX5, TX5, 8), (RX6, TX6, 13), (RX7, TX7, 10), (RX8, TX8, 4), (RX9, TX9, 3), (RX10, TX10, 1), (RJ0, TJ0, 4), (RJ4, TJ4, 4)]
