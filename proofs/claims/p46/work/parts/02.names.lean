def RX0 : String := "SheetReader$Blobs"
def TX0 : u_T := fun k => match k with
  | 0 => ("SheetReader$Blobs", "found", "I", false)
  | 1 => ("SheetReader$Blobs", "sizes", "[I", true)
  | 2 => ("SheetReader$Blobs", "sumX", "[I", true)
  | 3 => ("SheetReader$Blobs", "sumY", "[I", true)
  | 4 => ("SheetReader$Blobs", "firstX", "[I", true)
  | 5 => ("SheetReader$Blobs", "firstY", "[I", true)
  | 6 => ("SheetReader$Blobs", "leastX", "[I", true)
  | 7 => ("SheetReader$Blobs", "greatestX", "[I", true)
  | 8 => ("SheetReader$Blobs", "greatestY", "[I", true)
  | 9 => ("SheetReader$Blobs", "group", "[I", true)
  | _ => ("SheetReader$Blobs", "seen", "[B", true)
def tyX0 : Nat → FieldType := fun k => match k with
  | 0 => .int
  | 1 => .array .int
  | 2 => .array .int
  | 3 => .array .int
  | 4 => .array .int
  | 5 => .array .int
  | 6 => .array .int
  | 7 => .array .int
  | 8 => .array .int
  | 9 => .array .int
  | _ => .array .byte
abbrev wsX00 : List Cond := u_ws RX0 TX0 11
theorem nmX0 : ∀ a, a < 11 → ∀ b, b < 11 → a ≠ b → (TX0 a).2.1 ≠ (TX0 b).2.1 := by decide +kernel
theorem tyX0_ok : ∀ k, k < 11 → parseFieldDescriptor (TX0 k).2.2.1 = some (tyX0 k) := by decide +kernel
abbrev cX0_init : ByteArray := prog_2_method_1_code
def yX0_init : MethodName := ⟨RX0, "<init>", "()V"⟩
abbrev cX0_find : ByteArray := prog_2_method_2_code
def yX0_find : MethodName := ⟨RX0, "find", "(LSheetReader$Scan;II)V"⟩
abbrev cX0_gather : ByteArray := prog_2_method_4_code
def yX0_gather : MethodName := ⟨RX0, "gather", "(LSheetReader$Scan;II)I"⟩
abbrev cX0_join : ByteArray := prog_2_method_5_code
def yX0_join : MethodName := ⟨RX0, "join", "(LSheetReader$Scan;III)I"⟩
abbrev cX0_describe : ByteArray := prog_2_method_6_code
def yX0_describe : MethodName := ⟨RX0, "describe", "(II)V"⟩
abbrev cX0_nearest : ByteArray := prog_2_method_7_code
def yX0_nearest : MethodName := ⟨RX0, "nearest", "(III)I"⟩
def RX1 : String := "SheetReader$Form"
def TX1 : u_T := fun k => match k with
  | 0 => ("SheetReader$Form", "told", "Z", false)
  | 1 => ("SheetReader$Form", "wide", "I", false)
  | 2 => ("SheetReader$Form", "high", "I", false)
  | 3 => ("SheetReader$Form", "boxWide", "I", false)
  | 4 => ("SheetReader$Form", "boxHigh", "I", false)
  | 5 => ("SheetReader$Form", "questions", "I", false)
  | 6 => ("SheetReader$Form", "boxes", "I", false)
  | 7 => ("SheetReader$Form", "many", "[Z", true)
  | 8 => ("SheetReader$Form", "firstOf", "[I", true)
  | 9 => ("SheetReader$Form", "boxesOf", "[I", true)
  | 10 => ("SheetReader$Form", "keys", "[I", true)
  | 11 => ("SheetReader$Form", "worths", "[I", true)
  | 12 => ("SheetReader$Form", "boxX", "[I", true)
  | _ => ("SheetReader$Form", "boxY", "[I", true)
def tyX1 : Nat → FieldType := fun k => match k with
  | 0 => .boolean
  | 1 => .int
  | 2 => .int
  | 3 => .int
  | 4 => .int
  | 5 => .int
  | 6 => .int
  | 7 => .array .boolean
  | 8 => .array .int
  | 9 => .array .int
  | 10 => .array .int
  | 11 => .array .int
  | 12 => .array .int
  | _ => .array .int
abbrev wsX10 : List Cond := u_ws RX1 TX1 14
theorem nmX1 : ∀ a, a < 14 → ∀ b, b < 14 → a ≠ b → (TX1 a).2.1 ≠ (TX1 b).2.1 := by decide +kernel
theorem tyX1_ok : ∀ k, k < 14 → parseFieldDescriptor (TX1 k).2.2.1 = some (tyX1 k) := by decide +kernel
abbrev cX1_init : ByteArray := prog_3_method_1_code
def yX1_init : MethodName := ⟨RX1, "<init>", "()V"⟩
abbrev cX1_empty : ByteArray := prog_3_method_2_code
def yX1_empty : MethodName := ⟨RX1, "empty", "()V"⟩
abbrev cX1_hasQuestion : ByteArray := prog_3_method_3_code
def yX1_hasQuestion : MethodName := ⟨RX1, "hasQuestion", "(I)Z"⟩
abbrev cX1_hasBox : ByteArray := prog_3_method_4_code
def yX1_hasBox : MethodName := ⟨RX1, "hasBox", "(II)Z"⟩
abbrev cX1_addQuestion : ByteArray := prog_3_method_5_code
def yX1_addQuestion : MethodName := ⟨RX1, "addQuestion", "(Z)V"⟩
abbrev cX1_addBox : ByteArray := prog_3_method_6_code
def yX1_addBox : MethodName := ⟨RX1, "addBox", "(II)V"⟩
abbrev cX1_isCovered : ByteArray := prog_3_method_7_code
def yX1_isCovered : MethodName := ⟨RX1, "isCovered", "(II)Z"⟩
def RX2 : String := "SheetReader$FormText"
def TX2 : u_T := fun k => match k with
  | 0 => ("SheetReader$FormText", "text", "[I", true)
  | 1 => ("SheetReader$FormText", "length", "I", false)
  | 2 => ("SheetReader$FormText", "start", "I", false)
  | 3 => ("SheetReader$FormText", "end", "I", false)
  | 4 => ("SheetReader$FormText", "kind", "I", false)
  | 5 => ("SheetReader$FormText", "number", "I", false)
  | 6 => ("SheetReader$FormText", "taken", "I", false)
  | _ => ("SheetReader$FormText", "fault", "I", false)
def tyX2 : Nat → FieldType := fun k => match k with
  | 0 => .array .int
  | 1 => .int
  | 2 => .int
  | 3 => .int
  | 4 => .int
  | 5 => .int
  | 6 => .int
  | _ => .int
abbrev wsX20 : List Cond := u_ws RX2 TX2 8
theorem nmX2 : ∀ a, a < 8 → ∀ b, b < 8 → a ≠ b → (TX2 a).2.1 ≠ (TX2 b).2.1 := by decide +kernel
theorem tyX2_ok : ∀ k, k < 8 → parseFieldDescriptor (TX2 k).2.2.1 = some (tyX2 k) := by decide +kernel
abbrev cX2_init : ByteArray := prog_4_method_1_code
def yX2_init : MethodName := ⟨RX2, "<init>", "()V"⟩
abbrev cX2_read : ByteArray := prog_4_method_2_code
def yX2_read : MethodName := ⟨RX2, "read", "([IILSheetReader$Form;)I"⟩
abbrev cX2_readHead : ByteArray := prog_4_method_3_code
def yX2_readHead : MethodName := ⟨RX2, "readHead", "(LSheetReader$Form;)Z"⟩
abbrev cX2_readQuestions : ByteArray := prog_4_method_4_code
def yX2_readQuestions : MethodName := ⟨RX2, "readQuestions", "(LSheetReader$Form;)Z"⟩
abbrev cX2_readPlaces : ByteArray := prog_4_method_5_code
def yX2_readPlaces : MethodName := ⟨RX2, "readPlaces", "(LSheetReader$Form;)Z"⟩
abbrev cX2_readPlace : ByteArray := prog_4_method_6_code
def yX2_readPlace : MethodName := ⟨RX2, "readPlace", "(LSheetReader$Form;I)Z"⟩
abbrev cX2_readKey : ByteArray := prog_4_method_7_code
def yX2_readKey : MethodName := ⟨RX2, "readKey", "(LSheetReader$Form;I)Z"⟩
abbrev cX2_readWorth : ByteArray := prog_4_method_8_code
def yX2_readWorth : MethodName := ⟨RX2, "readWorth", "(LSheetReader$Form;I)Z"⟩
abbrev cX2_takeWord : ByteArray := prog_4_method_9_code
def yX2_takeWord : MethodName := ⟨RX2, "takeWord", "(Ljava/lang/String;)Z"⟩
abbrev cX2_takeSign : ByteArray := prog_4_method_10_code
def yX2_takeSign : MethodName := ⟨RX2, "takeSign", "(I)Z"⟩
abbrev cX2_takeNumber : ByteArray := prog_4_method_11_code
def yX2_takeNumber : MethodName := ⟨RX2, "takeNumber", "(II)Z"⟩
abbrev cX2_isNumber : ByteArray := prog_4_method_12_code
def yX2_isNumber : MethodName := ⟨RX2, "isNumber", "(II)Z"⟩
abbrev cX2_isWord : ByteArray := prog_4_method_13_code
def yX2_isWord : MethodName := ⟨RX2, "isWord", "(Ljava/lang/String;)Z"⟩
abbrev cX2_isLetter : ByteArray := prog_4_method_14_code
def yX2_isLetter : MethodName := ⟨RX2, "isLetter", "()Z"⟩
abbrev cX2_refuse : ByteArray := prog_4_method_15_code
def yX2_refuse : MethodName := ⟨RX2, "refuse", "(I)Z"⟩
abbrev cX2_advance : ByteArray := prog_4_method_16_code
def yX2_advance : MethodName := ⟨RX2, "advance", "()V"⟩
abbrev cX2_numberRead : ByteArray := prog_4_method_17_code
def yX2_numberRead : MethodName := ⟨RX2, "numberRead", "()I"⟩
abbrev cX2_kindOf : ByteArray := prog_4_method_18_code
def yX2_kindOf : MethodName := ⟨RX2, "kindOf", "(I)I"⟩
def RX3 : String := "SheetReader$Judge"
def TX3 : u_T := fun k => match k with
  | 0 => ("SheetReader$Judge", "settings", "[I", true)
  | 1 => ("SheetReader$Judge", "blobs", "LSheetReader$Blobs;", true)
  | 2 => ("SheetReader$Judge", "marks", "[I", true)
  | 3 => ("SheetReader$Judge", "places", "LSheetReader$Places;", true)
  | 4 => ("SheetReader$Judge", "darks", "[I", true)
  | 5 => ("SheetReader$Judge", "order", "[I", true)
  | 6 => ("SheetReader$Judge", "paper", "I", false)
  | 7 => ("SheetReader$Judge", "answers", "[I", true)
  | 8 => ("SheetReader$Judge", "states", "[I", true)
  | 9 => ("SheetReader$Judge", "rubbed", "[I", true)
  | 10 => ("SheetReader$Judge", "steps", "[I", true)
  | _ => ("SheetReader$Judge", "gains", "[I", true)
def tyX3 : Nat → FieldType := fun k => match k with
  | 0 => .array .int
  | 1 => .object "SheetReader$Blobs"
  | 2 => .array .int
  | 3 => .object "SheetReader$Places"
  | 4 => .array .int
  | 5 => .array .int
  | 6 => .int
  | 7 => .array .int
  | 8 => .array .int
  | 9 => .array .int
  | 10 => .array .int
  | _ => .array .int
abbrev wsX30 : List Cond := u_ws RX3 TX3 12
theorem nmX3 : ∀ a, a < 12 → ∀ b, b < 12 → a ≠ b → (TX3 a).2.1 ≠ (TX3 b).2.1 := by decide +kernel
theorem tyX3_ok : ∀ k, k < 12 → parseFieldDescriptor (TX3 k).2.2.1 = some (tyX3 k) := by decide +kernel
abbrev cX3_init : ByteArray := prog_5_method_1_code
def yX3_init : MethodName := ⟨RX3, "<init>", "()V"⟩
abbrev cX3_locate : ByteArray := prog_5_method_2_code
def yX3_locate : MethodName := ⟨RX3, "locate", "(LSheetReader$Scan;)Z"⟩
abbrev cX3_marksAreFour : ByteArray := prog_5_method_3_code
def yX3_marksAreFour : MethodName := ⟨RX3, "marksAreFour", "()Z"⟩
abbrev cX3_measure : ByteArray := prog_5_method_4_code
def yX3_measure : MethodName := ⟨RX3, "measure", "(LSheetReader$Scan;LSheetReader$Form;)Z"⟩
abbrev cX3_darkOf : ByteArray := prog_5_method_5_code
def yX3_darkOf : MethodName := ⟨RX3, "darkOf", "(LSheetReader$Scan;LSheetReader$Form;I)I"⟩
abbrev cX3_read : ByteArray := prog_5_method_6_code
def yX3_read : MethodName := ⟨RX3, "read", "(LSheetReader$Scan;LSheetReader$Form;)Z"⟩
abbrev cX3_judgeQuestion : ByteArray := prog_5_method_7_code
def yX3_judgeQuestion : MethodName := ⟨RX3, "judgeQuestion", "(LSheetReader$Form;I)V"⟩
abbrev cX3_gainOf : ByteArray := prog_5_method_8_code
def yX3_gainOf : MethodName := ⟨RX3, "gainOf", "(LSheetReader$Form;I)I"⟩
abbrev cX3_sortByDark : ByteArray := prog_5_method_9_code
def yX3_sortByDark : MethodName := ⟨RX3, "sortByDark", "(II)V"⟩
abbrev cX3_allGains : ByteArray := prog_5_method_10_code
def yX3_allGains : MethodName := ⟨RX3, "allGains", "(LSheetReader$Form;)I"⟩
abbrev cX3_inState : ByteArray := prog_5_method_11_code
def yX3_inState : MethodName := ⟨RX3, "inState", "(LSheetReader$Form;I)I"⟩
abbrev cX3_leftEmpty : ByteArray := prog_5_method_12_code
def yX3_leftEmpty : MethodName := ⟨RX3, "leftEmpty", "(LSheetReader$Form;)I"⟩
abbrev cX3_allRubbed : ByteArray := prog_5_method_13_code
def yX3_allRubbed : MethodName := ⟨RX3, "allRubbed", "(LSheetReader$Form;)I"⟩
abbrev cX3_rankOf : ByteArray := prog_5_method_14_code
def yX3_rankOf : MethodName := ⟨RX3, "rankOf", "(LSheetReader$Form;I)I"⟩
abbrev cX3_partedBy : ByteArray := prog_5_method_15_code
def yX3_partedBy : MethodName := ⟨RX3, "partedBy", "(LSheetReader$Form;I)I"⟩
abbrev cX3_judgedElse : ByteArray := prog_5_method_16_code
def yX3_judgedElse : MethodName := ⟨RX3, "judgedElse", "(LSheetReader$Form;I)I"⟩
abbrev cX3_leastMargin : ByteArray := prog_5_method_17_code
def yX3_leastMargin : MethodName := ⟨RX3, "leastMargin", "(I)I"⟩
abbrev cX3_greatestMargin : ByteArray := prog_5_method_18_code
def yX3_greatestMargin : MethodName := ⟨RX3, "greatestMargin", "(I)I"⟩
def RX4 : String := "SheetReader$Pile"
def TX4 : u_T := fun k => match k with
  | 0 => ("SheetReader$Pile", "sheets", "I", false)
  | 1 => ("SheetReader$Pile", "gains", "[I", true)
  | 2 => ("SheetReader$Pile", "doubtful", "[I", true)
  | 3 => ("SheetReader$Pile", "doubled", "[I", true)
  | 4 => ("SheetReader$Pile", "answers", "[I", true)
  | _ => ("SheetReader$Pile", "order", "[I", true)
def tyX4 : Nat → FieldType := fun k => match k with
  | 0 => .int
  | 1 => .array .int
  | 2 => .array .int
  | 3 => .array .int
  | 4 => .array .int
  | _ => .array .int
abbrev wsX40 : List Cond := u_ws RX4 TX4 6
theorem nmX4 : ∀ a, a < 6 → ∀ b, b < 6 → a ≠ b → (TX4 a).2.1 ≠ (TX4 b).2.1 := by decide +kernel
theorem tyX4_ok : ∀ k, k < 6 → parseFieldDescriptor (TX4 k).2.2.1 = some (tyX4 k) := by decide +kernel
abbrev cX4_init : ByteArray := prog_6_method_1_code
def yX4_init : MethodName := ⟨RX4, "<init>", "()V"⟩
abbrev cX4_add : ByteArray := prog_6_method_4_code
def yX4_add : MethodName := ⟨RX4, "add", "(LSheetReader$Judge;LSheetReader$Form;)I"⟩
def RX5 : String := "SheetReader$Places"
def TX5 : u_T := fun k => match k with
  | 0 => ("SheetReader$Places", "sumX", "[J", true)
  | 1 => ("SheetReader$Places", "sumY", "[J", true)
  | 2 => ("SheetReader$Places", "sizes", "[J", true)
  | 3 => ("SheetReader$Places", "wholeX", "[J", true)
  | 4 => ("SheetReader$Places", "wholeY", "[J", true)
  | 5 => ("SheetReader$Places", "by", "J", false)
  | 6 => ("SheetReader$Places", "twiceWide", "I", false)
  | _ => ("SheetReader$Places", "twiceHigh", "I", false)
def tyX5 : Nat → FieldType := fun k => match k with
  | 0 => .array .long
  | 1 => .array .long
  | 2 => .array .long
  | 3 => .array .long
  | 4 => .array .long
  | 5 => .long
  | 6 => .int
  | _ => .int
abbrev wsX50 : List Cond := u_ws RX5 TX5 8
theorem nmX5 : ∀ a, a < 8 → ∀ b, b < 8 → a ≠ b → (TX5 a).2.1 ≠ (TX5 b).2.1 := by decide +kernel
theorem tyX5_ok : ∀ k, k < 8 → parseFieldDescriptor (TX5 k).2.2.1 = some (tyX5 k) := by decide +kernel
abbrev cX5_init : ByteArray := prog_7_method_1_code
def yX5_init : MethodName := ⟨RX5, "<init>", "()V"⟩
abbrev cX5_put : ByteArray := prog_7_method_2_code
def yX5_put : MethodName := ⟨RX5, "put", "(IJJJ)V"⟩
abbrev cX5_spread : ByteArray := prog_7_method_3_code
def yX5_spread : MethodName := ⟨RX5, "spread", "(II)V"⟩
abbrev cX5_weighed : ByteArray := prog_7_method_4_code
def yX5_weighed : MethodName := ⟨RX5, "weighed", "([JII)J"⟩
abbrev cX5_rounded : ByteArray := prog_7_method_5_code
def yX5_rounded : MethodName := ⟨RX5, "rounded", "(J)I"⟩
abbrev cX5_hundredths : ByteArray := prog_7_method_6_code
def yX5_hundredths : MethodName := ⟨RX5, "hundredths", "(J)I"⟩
abbrev cX5_dotX : ByteArray := prog_7_method_7_code
def yX5_dotX : MethodName := ⟨RX5, "dotX", "(II)I"⟩
abbrev cX5_dotY : ByteArray := prog_7_method_8_code
def yX5_dotY : MethodName := ⟨RX5, "dotY", "(II)I"⟩
abbrev cX5_hundredthsX : ByteArray := prog_7_method_9_code
def yX5_hundredthsX : MethodName := ⟨RX5, "hundredthsX", "(II)I"⟩
abbrev cX5_hundredthsY : ByteArray := prog_7_method_10_code
def yX5_hundredthsY : MethodName := ⟨RX5, "hundredthsY", "(II)I"⟩
def RX6 : String := "SheetReader$Scan"
def TX6 : u_T := fun k => match k with
  | 0 => ("SheetReader$Scan", "wide", "I", false)
  | 1 => ("SheetReader$Scan", "high", "I", false)
  | 2 => ("SheetReader$Scan", "dots", "[I", true)
  | _ => ("SheetReader$Scan", "tally", "[I", true)
def tyX6 : Nat → FieldType := fun k => match k with
  | 0 => .int
  | 1 => .int
  | 2 => .array .int
  | _ => .array .int
abbrev wsX60 : List Cond := u_ws RX6 TX6 4
theorem nmX6 : ∀ a, a < 4 → ∀ b, b < 4 → a ≠ b → (TX6 a).2.1 ≠ (TX6 b).2.1 := by decide +kernel
theorem tyX6_ok : ∀ k, k < 4 → parseFieldDescriptor (TX6 k).2.2.1 = some (tyX6 k) := by decide +kernel
abbrev cX6_init : ByteArray := prog_8_method_1_code
def yX6_init : MethodName := ⟨RX6, "<init>", "()V"⟩
abbrev cX6_isNothing : ByteArray := prog_8_method_2_code
def yX6_isNothing : MethodName := ⟨RX6, "isNothing", "()Z"⟩
abbrev cX6_size : ByteArray := prog_8_method_3_code
def yX6_size : MethodName := ⟨RX6, "size", "()I"⟩
abbrev cX6_empty : ByteArray := prog_8_method_4_code
def yX6_empty : MethodName := ⟨RX6, "empty", "(II)V"⟩
abbrev cX6_has : ByteArray := prog_8_method_5_code
def yX6_has : MethodName := ⟨RX6, "has", "(II)Z"⟩
abbrev cX6_at : ByteArray := prog_8_method_6_code
def yX6_at : MethodName := ⟨RX6, "at", "(II)I"⟩
abbrev cX6_put : ByteArray := prog_8_method_7_code
def yX6_put : MethodName := ⟨RX6, "put", "(III)Z"⟩
abbrev cX6_holdsRound : ByteArray := prog_8_method_8_code
def yX6_holdsRound : MethodName := ⟨RX6, "holdsRound", "(II)Z"⟩
abbrev cX6_putRound : ByteArray := prog_8_method_9_code
def yX6_putRound : MethodName := ⟨RX6, "putRound", "(III)V"⟩
abbrev cX6_notBelow : ByteArray := prog_8_method_10_code
def yX6_notBelow : MethodName := ⟨RX6, "notBelow", "(I)I"⟩
abbrev cX6_sumNotBelow : ByteArray := prog_8_method_11_code
def yX6_sumNotBelow : MethodName := ⟨RX6, "sumNotBelow", "(I)I"⟩
abbrev cX6_takeAll : ByteArray := prog_8_method_13_code
def yX6_takeAll : MethodName := ⟨RX6, "takeAll", "(LSheetReader$Scan;)V"⟩
abbrev cX6_takeTurned : ByteArray := prog_8_method_14_code
def yX6_takeTurned : MethodName := ⟨RX6, "takeTurned", "(LSheetReader$Scan;I)V"⟩
def RX7 : String := "SheetReader"
def TX7 : u_T := fun k => match k with
  | 0 => ("SheetReader", "tape", "[I", true)
  | 1 => ("SheetReader", "tapeLength", "I", false)
  | 2 => ("SheetReader", "scan", "LSheetReader$Scan;", false)
  | 3 => ("SheetReader", "spare", "LSheetReader$Scan;", false)
  | 4 => ("SheetReader", "drawers", "[LSheetReader$Scan;", true)
  | 5 => ("SheetReader", "form", "LSheetReader$Form;", false)
  | 6 => ("SheetReader", "draft", "LSheetReader$Form;", false)
  | 7 => ("SheetReader", "formText", "LSheetReader$FormText;", true)
  | 8 => ("SheetReader", "drawn", "I", false)
  | 9 => ("SheetReader", "cornerX", "[I", true)
  | 10 => ("SheetReader", "cornerY", "[I", true)
  | 11 => ("SheetReader", "told", "[I", true)
  | 12 => ("SheetReader", "judge", "LSheetReader$Judge;", true)
  | _ => ("SheetReader", "pile", "LSheetReader$Pile;", true)
def tyX7 : Nat → FieldType := fun k => match k with
  | 0 => .array .int
  | 1 => .int
  | 2 => .object "SheetReader$Scan"
  | 3 => .object "SheetReader$Scan"
  | 4 => .array (.object "SheetReader$Scan")
  | 5 => .object "SheetReader$Form"
  | 6 => .object "SheetReader$Form"
  | 7 => .object "SheetReader$FormText"
  | 8 => .int
  | 9 => .array .int
  | 10 => .array .int
  | 11 => .array .int
  | 12 => .object "SheetReader$Judge"
  | _ => .object "SheetReader$Pile"
abbrev wsX70 : List Cond := u_ws RX7 TX7 14
theorem nmX7 : ∀ a, a < 14 → ∀ b, b < 14 → a ≠ b → (TX7 a).2.1 ≠ (TX7 b).2.1 := by decide +kernel
theorem tyX7_ok : ∀ k, k < 14 → parseFieldDescriptor (TX7 k).2.2.1 = some (tyX7 k) := by decide +kernel
abbrev cX7_init : ByteArray := prog_1_method_1_code
def yX7_init : MethodName := ⟨RX7, "<init>", "()V"⟩
abbrev cX7_feed : ByteArray := prog_1_method_2_code
def yX7_feed : MethodName := ⟨RX7, "feed", "(IIIII)I"⟩
abbrev cX7_form : ByteArray := prog_1_method_3_code
def yX7_form : MethodName := ⟨RX7, "form", "(I)I"⟩
abbrev cX7_count : ByteArray := prog_1_method_4_code
def yX7_count : MethodName := ⟨RX7, "count", "(I)I"⟩
abbrev cX7_question : ByteArray := prog_1_method_5_code
def yX7_question : MethodName := ⟨RX7, "question", "(II)I"⟩
abbrev cX7_set : ByteArray := prog_1_method_6_code
def yX7_set : MethodName := ⟨RX7, "set", "(II)I"⟩
abbrev cX7_blank : ByteArray := prog_1_method_7_code
def yX7_blank : MethodName := ⟨RX7, "blank", "(II)Z"⟩
abbrev cX7_dot : ByteArray := prog_1_method_10_code
def yX7_dot : MethodName := ⟨RX7, "dot", "(II)I"⟩
abbrev cX7_noise : ByteArray := prog_1_method_11_code
def yX7_noise : MethodName := ⟨RX7, "noise", "(I)I"⟩
abbrev cX7_seed : ByteArray := prog_1_method_12_code
def yX7_seed : MethodName := ⟨RX7, "seed", "(I)I"⟩
abbrev cX7_turn : ByteArray := prog_1_method_13_code
def yX7_turn : MethodName := ⟨RX7, "turn", "(I)I"⟩
abbrev cX7_keep : ByteArray := prog_1_method_19_code
def yX7_keep : MethodName := ⟨RX7, "keep", "(I)Z"⟩
abbrev cX7_back : ByteArray := prog_1_method_20_code
def yX7_back : MethodName := ⟨RX7, "back", "(I)Z"⟩
abbrev cX7_blob : ByteArray := prog_1_method_21_code
def yX7_blob : MethodName := ⟨RX7, "blob", "(II)I"⟩
abbrev cX7_mark : ByteArray := prog_1_method_22_code
def yX7_mark : MethodName := ⟨RX7, "mark", "(I)I"⟩
abbrev cX7_marked : ByteArray := prog_1_method_23_code
def yX7_marked : MethodName := ⟨RX7, "marked", "()I"⟩
abbrev cX7_map : ByteArray := prog_1_method_25_code
def yX7_map : MethodName := ⟨RX7, "map", "(III)I"⟩
abbrev cX7_dark : ByteArray := prog_1_method_26_code
def yX7_dark : MethodName := ⟨RX7, "dark", "(II)I"⟩
abbrev cX7_judged : ByteArray := prog_1_method_27_code
def yX7_judged : MethodName := ⟨RX7, "judged", "(II)I"⟩
abbrev cX7_sheet : ByteArray := prog_1_method_28_code
def yX7_sheet : MethodName := ⟨RX7, "sheet", "(I)I"⟩
abbrev cX7_rank : ByteArray := prog_1_method_29_code
def yX7_rank : MethodName := ⟨RX7, "rank", "(II)I"⟩
abbrev cX7_apart : ByteArray := prog_1_method_30_code
def yX7_apart : MethodName := ⟨RX7, "apart", "(I)I"⟩
abbrev cX7_steady : ByteArray := prog_1_method_31_code
def yX7_steady : MethodName := ⟨RX7, "steady", "(II)I"⟩
abbrev cX7_corner : ByteArray := prog_1_method_32_code
def yX7_corner : MethodName := ⟨RX7, "corner", "(III)Z"⟩
abbrev cX7_tick : ByteArray := prog_1_method_33_code
def yX7_tick : MethodName := ⟨RX7, "tick", "(II)I"⟩
abbrev cX7_print : ByteArray := prog_1_method_34_code
def yX7_print : MethodName := ⟨RX7, "print", "(I)I"⟩
abbrev cX7_unlike : ByteArray := prog_1_method_35_code
def yX7_unlike : MethodName := ⟨RX7, "unlike", "()I"⟩
abbrev cX7_up : ByteArray := prog_1_method_36_code
def yX7_up : MethodName := ⟨RX7, "up", "()I"⟩
abbrev cX7_lay : ByteArray := prog_1_method_37_code
def yX7_lay : MethodName := ⟨RX7, "lay", "()I"⟩
abbrev cX7_level : ByteArray := prog_1_method_44_code
def yX7_level : MethodName := ⟨RX7, "level", "()I"⟩
abbrev cX7_putOnTape : ByteArray := prog_1_method_45_code
def yX7_putOnTape : MethodName := ⟨RX7, "putOnTape", "(I)V"⟩
abbrev cX7_drawBelow : ByteArray := prog_1_method_47_code
def yX7_drawBelow : MethodName := ⟨RX7, "drawBelow", "(I)I"⟩
abbrev cX7_swapScans : ByteArray := prog_1_method_48_code
def yX7_swapScans : MethodName := ⟨RX7, "swapScans", "()V"⟩
abbrev cX7_inkBox : ByteArray := prog_1_method_50_code
def yX7_inkBox : MethodName := ⟨RX7, "inkBox", "(II)V"⟩
def RX8 : String := "SheetReaderModel"
def TX8 : u_T := fun k => match k with
  | _ => ("", "", "", false)
def tyX8 : Nat → FieldType := fun k => match k with
  | _ => .int
abbrev wsX80 : List Cond := u_ws RX8 TX8 0
theorem nmX8 : ∀ a, a < 0 → ∀ b, b < 0 → a ≠ b → (TX8 a).2.1 ≠ (TX8 b).2.1 := by decide +kernel
theorem tyX8_ok : ∀ k, k < 0 → parseFieldDescriptor (TX8 k).2.2.1 = some (tyX8 k) := by decide +kernel
def RJx145de : String := "java/io/Serializable"
def TJx145de : u_T := fun k => match k with
  | _ => ("", "", "", false)
def tyJx145de : Nat → FieldType := fun k => match k with
  | _ => .int
theorem nmJx145de : ∀ a, a < 0 → ∀ b, b < 0 → a ≠ b → (TJx145de a).2.1 ≠ (TJx145de b).2.1 := by decide +kernel
theorem tyJx145de_ok : ∀ k, k < 0 → parseFieldDescriptor (TJx145de k).2.2.1 = some (tyJx145de k) := by decide +kernel
def RJx9f9b0 : String := "java/lang/CharSequence"
def TJx9f9b0 : u_T := fun k => match k with
  | _ => ("", "", "", false)
def tyJx9f9b0 : Nat → FieldType := fun k => match k with
  | _ => .int
theorem nmJx9f9b0 : ∀ a, a < 0 → ∀ b, b < 0 → a ≠ b → (TJx9f9b0 a).2.1 ≠ (TJx9f9b0 b).2.1 := by decide +kernel
theorem tyJx9f9b0_ok : ∀ k, k < 0 → parseFieldDescriptor (TJx9f9b0 k).2.2.1 = some (tyJx9f9b0 k) := by decide +kernel
def RJxb160c : String := "java/lang/Comparable"
def TJxb160c : u_T := fun k => match k with
  | _ => ("", "", "", false)
def tyJxb160c : Nat → FieldType := fun k => match k with
  | _ => .int
theorem nmJxb160c : ∀ a, a < 0 → ∀ b, b < 0 → a ≠ b → (TJxb160c a).2.1 ≠ (TJxb160c b).2.1 := by decide +kernel
theorem tyJxb160c_ok : ∀ k, k < 0 → parseFieldDescriptor (TJxb160c k).2.2.1 = some (tyJxb160c k) := by decide +kernel
def RJ6 : String := "java/lang/Integer"
def TJ6 : u_T := fun k => match k with
  | _ => ("", "", "", false)
def tyJ6 : Nat → FieldType := fun k => match k with
  | _ => .int
abbrev wsJ60 : List Cond := u_ws RJ6 TJ6 0
theorem nmJ6 : ∀ a, a < 0 → ∀ b, b < 0 → a ≠ b → (TJ6 a).2.1 ≠ (TJ6 b).2.1 := by decide +kernel
theorem tyJ6_ok : ∀ k, k < 0 → parseFieldDescriptor (TJ6 k).2.2.1 = some (tyJ6 k) := by decide +kernel
abbrev cJ6_bitCount_0f7a4 : ByteArray := prog_11_method_49_code
def yJ6_bitCount_0f7a4 : MethodName := ⟨RJ6, "bitCount", "(I)I"⟩
def RJ9 : String := "java/lang/Math"
def TJ9 : u_T := fun k => match k with
  | _ => ("", "", "", false)
def tyJ9 : Nat → FieldType := fun k => match k with
  | _ => .int
abbrev wsJ90 : List Cond := u_ws RJ9 TJ9 0
theorem nmJ9 : ∀ a, a < 0 → ∀ b, b < 0 → a ≠ b → (TJ9 a).2.1 ≠ (TJ9 b).2.1 := by decide +kernel
theorem tyJ9_ok : ∀ k, k < 0 → parseFieldDescriptor (TJ9 k).2.2.1 = some (tyJ9 k) := by decide +kernel
abbrev cJ9_abs_0f7a4 : ByteArray := prog_12_method_59_code
def yJ9_abs_0f7a4 : MethodName := ⟨RJ9, "abs", "(I)I"⟩
abbrev cJ9_max_7cf53 : ByteArray := prog_12_method_65_code
def yJ9_max_7cf53 : MethodName := ⟨RJ9, "max", "(II)I"⟩
abbrev cJ9_min_7cf53 : ByteArray := prog_12_method_69_code
def yJ9_min_7cf53 : MethodName := ⟨RJ9, "min", "(II)I"⟩
def RJ0 : String := "java/lang/String"
def TJ0 : u_T := fun k => match k with
  | _ => ("", "", "", false)
def tyJ0 : Nat → FieldType := fun k => match k with
  | _ => .int
abbrev wsJ00 : List Cond := u_ws RJ0 TJ0 0
theorem nmJ0 : ∀ a, a < 0 → ∀ b, b < 0 → a ≠ b → (TJ0 a).2.1 ≠ (TJ0 b).2.1 := by decide +kernel
theorem tyJ0_ok : ∀ k, k < 0 → parseFieldDescriptor (TJ0 k).2.2.1 = some (tyJ0 k) := by decide +kernel
abbrev cJ0_length_8abf5 : ByteArray := prog_13_method_54_code
def yJ0_length_8abf5 : MethodName := ⟨RJ0, "length", "()I"⟩
abbrev cJ0_charAt_5068e : ByteArray := prog_13_method_56_code
def yJ0_charAt_5068e : MethodName := ⟨RJ0, "charAt", "(I)C"⟩
abbrev cJ0_coder_7d493 : ByteArray := prog_13_method_152_code
def yJ0_coder_7d493 : MethodName := ⟨RJ0, "coder", "()B"⟩
abbrev cJ0_isLatin1_aae02 : ByteArray := prog_13_method_154_code
def yJ0_isLatin1_aae02 : MethodName := ⟨RJ0, "isLatin1", "()Z"⟩
abbrev cJ0_checkIndex_df160 : ByteArray := prog_13_method_155_code
def yJ0_checkIndex_df160 : MethodName := ⟨RJ0, "checkIndex", "(II)V"⟩
def RJ1 : String := "java/lang/StringLatin1"
def TJ1 : u_T := fun k => match k with
  | _ => ("", "", "", false)
def tyJ1 : Nat → FieldType := fun k => match k with
  | _ => .int
abbrev wsJ10 : List Cond := u_ws RJ1 TJ1 0
theorem nmJ1 : ∀ a, a < 0 → ∀ b, b < 0 → a ≠ b → (TJ1 a).2.1 ≠ (TJ1 b).2.1 := by decide +kernel
theorem tyJ1_ok : ∀ k, k < 0 → parseFieldDescriptor (TJ1 k).2.2.1 = some (tyJ1 k) := by decide +kernel
abbrev cJ1_charAt_3b067 : ByteArray := prog_14_method_2_code
def yJ1_charAt_3b067 : MethodName := ⟨RJ1, "charAt", "([BI)C"⟩
def RJ2 : String := "java/lang/StringUTF16"
def TJ2 : u_T := fun k => match k with
  | _ => ("", "", "", false)
def tyJ2 : Nat → FieldType := fun k => match k with
  | _ => .int
abbrev wsJ20 : List Cond := u_ws RJ2 TJ2 0
theorem nmJ2 : ∀ a, a < 0 → ∀ b, b < 0 → a ≠ b → (TJ2 a).2.1 ≠ (TJ2 b).2.1 := by decide +kernel
theorem tyJ2_ok : ∀ k, k < 0 → parseFieldDescriptor (TJ2 k).2.2.1 = some (tyJ2 k) := by decide +kernel
abbrev cJ2_getChar_3b067 : ByteArray := prog_15_method_5_code
def yJ2_getChar_3b067 : MethodName := ⟨RJ2, "getChar", "([BI)C"⟩
abbrev cJ2_length_9d52b : ByteArray := prog_15_method_6_code
def yJ2_length_9d52b : MethodName := ⟨RJ2, "length", "([B)I"⟩
abbrev cJ2_charAt_3b067 : ByteArray := prog_15_method_83_code
def yJ2_charAt_3b067 : MethodName := ⟨RJ2, "charAt", "([BI)C"⟩
abbrev cJ2_checkIndex_2214a : ByteArray := prog_15_method_91_code
def yJ2_checkIndex_2214a : MethodName := ⟨RJ2, "checkIndex", "(I[B)V"⟩
def RJ10 : String := "java/lang/System"
def TJ10 : u_T := fun k => match k with
  | _ => ("", "", "", false)
def tyJ10 : Nat → FieldType := fun k => match k with
  | _ => .int
abbrev wsJ100 : List Cond := u_ws RJ10 TJ10 0
theorem nmJ10 : ∀ a, a < 0 → ∀ b, b < 0 → a ≠ b → (TJ10 a).2.1 ≠ (TJ10 b).2.1 := by decide +kernel
theorem tyJ10_ok : ∀ k, k < 0 → parseFieldDescriptor (TJ10 k).2.2.1 = some (tyJ10 k) := by decide +kernel
def RJxfd54e : String := "java/lang/constant/Constable"
def TJxfd54e : u_T := fun k => match k with
  | _ => ("", "", "", false)
def tyJxfd54e : Nat → FieldType := fun k => match k with
  | _ => .int
theorem nmJxfd54e : ∀ a, a < 0 → ∀ b, b < 0 → a ≠ b → (TJxfd54e a).2.1 ≠ (TJxfd54e b).2.1 := by decide +kernel
theorem tyJxfd54e_ok : ∀ k, k < 0 → parseFieldDescriptor (TJxfd54e k).2.2.1 = some (tyJxfd54e k) := by decide +kernel
def RJx3cf43 : String := "java/lang/constant/ConstantDesc"
def TJx3cf43 : u_T := fun k => match k with
  | _ => ("", "", "", false)
def tyJx3cf43 : Nat → FieldType := fun k => match k with
  | _ => .int
theorem nmJx3cf43 : ∀ a, a < 0 → ∀ b, b < 0 → a ≠ b → (TJx3cf43 a).2.1 ≠ (TJx3cf43 b).2.1 := by decide +kernel
theorem tyJx3cf43_ok : ∀ k, k < 0 → parseFieldDescriptor (TJx3cf43 k).2.2.1 = some (tyJx3cf43 k) := by decide +kernel
def RJ7 : String := "java/util/Arrays"
def TJ7 : u_T := fun k => match k with
  | _ => ("", "", "", false)
def tyJ7 : Nat → FieldType := fun k => match k with
  | _ => .int
abbrev wsJ70 : List Cond := u_ws RJ7 TJ7 0
theorem nmJ7 : ∀ a, a < 0 → ∀ b, b < 0 → a ≠ b → (TJ7 a).2.1 ≠ (TJ7 b).2.1 := by decide +kernel
theorem tyJ7_ok : ∀ k, k < 0 → parseFieldDescriptor (TJ7 k).2.2.1 = some (tyJ7 k) := by decide +kernel
abbrev cJ7_fill_53178 : ByteArray := prog_17_method_103_code
def yJ7_fill_53178 : MethodName := ⟨RJ7, "fill", "([II)V"⟩
abbrev cJ7_fill_031fb : ByteArray := prog_17_method_109_code
def yJ7_fill_031fb : MethodName := ⟨RJ7, "fill", "([BB)V"⟩
def RJ3 : String := "jdk/internal/util/Preconditions"
def TJ3 : u_T := fun k => match k with
  | _ => ("", "", "", false)
def tyJ3 : Nat → FieldType := fun k => match k with
  | _ => .int
abbrev wsJ30 : List Cond := u_ws RJ3 TJ3 0
theorem nmJ3 : ∀ a, a < 0 → ∀ b, b < 0 → a ≠ b → (TJ3 a).2.1 ≠ (TJ3 b).2.1 := by decide +kernel
theorem tyJ3_ok : ∀ k, k < 0 → parseFieldDescriptor (TJ3 k).2.2.1 = some (tyJ3 k) := by decide +kernel
abbrev cJ3_checkIndex_8e157 : ByteArray := prog_18_method_11_code
def yJ3_checkIndex_8e157 : MethodName := ⟨RJ3, "checkIndex", "(IILjava/util/function/BiFunction;)I"⟩
def RL : String := "SheetReaderLaw"
abbrev cL_next : ByteArray := method_2_code
def yL_next : MethodName := ⟨RL, "next", "([I)I"⟩
abbrev cL_tell : ByteArray := method_3_code
def yL_tell : MethodName := ⟨RL, "tell", "(LSheetReader;[II)V"⟩
abbrev cL_put : ByteArray := method_4_code
def yL_put : MethodName := ⟨RL, "put", "([II[I)I"⟩
abbrev cL_number : ByteArray := method_5_code
def yL_number : MethodName := ⟨RL, "number", "([III)I"⟩
abbrev cL_isOver : ByteArray := method_6_code
def yL_isOver : MethodName := ⟨RL, "isOver", "([IIII)Z"⟩
abbrev cL_draws : ByteArray := method_7_code
def yL_draws : MethodName := ⟨RL, "draws", "(LSheetReader;[I[III)Z"⟩
abbrev cL_reads : ByteArray := method_8_code
def yL_reads : MethodName := ⟨RL, "reads", "(LSheetReader;[I[III)Z"⟩
abbrev cL_corners : ByteArray := method_9_code
def yL_corners : MethodName := ⟨RL, "corners", "(LSheetReader;)Z"⟩
abbrev cL_judges : ByteArray := method_10_code
def yL_judges : MethodName := ⟨RL, "judges", "(LSheetReader;)Z"⟩
abbrev cL_scans : ByteArray := method_11_code
def yL_scans : MethodName := ⟨RL, "scans", "(LSheetReader;[I)Z"⟩
abbrev cL_law : ByteArray := code
def yL_law : MethodName := ⟨RL, "law", "([I)Z"⟩
abbrev vwCl : List vw_C := [(RX0, TX0, 11), (RX1, TX1, 14), (RX2, TX2, 8), (RX3, TX3, 12), (RX4, TX4, 6), (RX5, TX5, 8), (RX6, TX6, 4), (RX7, TX7, 14)]
